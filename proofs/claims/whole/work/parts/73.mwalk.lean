/-! the walk: the reference, its pieces -/
theorem SetOK_g {f g g' : Nat → Int} {n hd tl room : Int} (hg : E2 g' g) (h : SetOK f g' n hd tl room) : SetOK f g n hd tl room := by
  obtain ⟨a, b, c, ⟨n1, n2, n3, n4, n5, n6⟩, d⟩ := h
  refine ⟨a, b, c, ⟨n1, n2, n3, ?_, n5, n6⟩, d⟩
  rw [← n4]
  refine (hsh_congr (fun i hi => ⟨rfl, ?_⟩) hg).symm
  have := isLet_rng (n3.2.2.1 i (by omega))
  omega
theorem E2.sm {f g : Nat → Int} (a : E2 f g) : E2 g f := fun k hk => (a k hk).symm
/-- the row of the reference -/
def Rm (h : AH) (K : Nat) (r : Nat → Int) : Prop := h 34 17 = (K : Int) ∧ K ≤ 102 ∧ ∀ i, i < K → h 39 i = r i
section MW
variable {G : GG} {h : AH} {f : Nat → Int}
theorem M_rowOfRoot {P : AH → Prop} {K : Nat} (hE : E (ub (h 35)) f) (hK : K ≤ 102) (hc : ∀ i, i < K → 2 ≤ tc f 0 (h 34 1) i ∧ tc f 0 (h 34 1) i ≤ 101) (he : tc f 0 (h 34 1) K = 4294967295) (hr : 0 ≤ h 34 1 ∧ h 34 1 ≤ 101)
    (H : ∀ h', Rm h' K (tc f 0 (h 34 1)) → (∀ k, k ≠ 17 → h' 34 k = h 34 k) → (∀ o, o ≠ 34 → o ≠ 39 → h' o = h o) → P h') : RunsV G 200 [vR 34] h P := by
  apply q_M_rowOfRoot
  generalize er : h 34 1 = root at hc he hr H
  rw [hs_k _ _ _ _ _ (by decide), er, wI_id (z := root) (by omega) (by omega)]
  have key : ∀ (m i : Nat) (b : AH), i + m = K → Rm b i (tc f 0 root) → (∀ k, k ≠ 17 → b 34 k = h 34 k) → (∀ o, o ≠ 34 → o ≠ 39 → b o = h o) → Go G (pV P) 200 11 [some (vR 34), some (vL (tc f 0 root i)), none] [] b := by
    intro m
    induction m with
    | zero =>
      intro i b hm rm k4 ob
      have ei : i = K := (by omega)
      rw [ei] at rm
      apply q_M_rowOfRoot_c11
      rw [ei, he]
      exact ⟨fun _ => H b rm k4 ob, fun c => absurd (by decide) c⟩
    | succ m ih =>
      intro i b hm rm k4 ob
      have ci := hc i (by omega)
      apply q_M_rowOfRoot_c11
      rw [wL_id (z := tc f 0 root i) (by omega) (by omega), rm.1, wI_id (z := (i : Int)) (by omega) (by omega)]
      refine ⟨fun c => by omega, fun _ => ⟨by omega, ?_⟩⟩
      rw [show (i : Int).toNat = i by omega]
      generalize eg : hs (hs b 39 i (tc f 0 root i)) 34 17 ((hs b 39 i (tc f 0 root i)) 34 17 + 1) = b2
      have g17 : b2 34 17 = ((i + 1 : Nat) : Int) := by rw [← eg, hs_same, hs_o _ _ _ _ _ (by decide), rm.1]; omega
      have g4 : ∀ k, k ≠ 17 → b2 34 k = b 34 k := fun k hk => by rw [← eg, hs_k _ _ _ _ _ hk, hs_o _ _ _ _ _ (by decide)]
      have go : ∀ o, o ≠ 34 → o ≠ 39 → b2 o = b o := fun o p q => by rw [← eg, hs_o _ _ _ _ _ p, hs_o _ _ _ _ _ q]
      have g39 : ∀ j, j < i + 1 → b2 39 j = tc f 0 root j := fun j hj => by
        rw [← eg, hs_o _ _ _ _ _ (by decide), hs_app, if_pos rfl]
        by_cases q : j = i
        · rw [if_pos q, q]
        · rw [if_neg q]; exact rm.2.2 j (by omega)
      clear eg
      refine M_fat (f := f) (by rw [go 35 (by decide) (by decide), ob 35 (by decide) (by decide)]; exact hE) (by omega) (by omega) ?_
      exact ih (i + 1) b2 (by omega) ⟨g17, by omega, g39⟩ (fun k hk => (g4 k hk).trans (k4 k hk)) (fun o p q => (go o p q).trans (ob o p q))
  exact key K 0 _ (by omega) ⟨hs_same _ _ _ _, by omega, fun j hj => by omega⟩ (fun k hk => hs_k _ _ _ _ _ hk) (fun o p _ => hs_o _ _ _ _ _ p)
theorem M_rowOfSet {P : AH → Prop} {j K : Nat} {L c b : Int} (hE : E (ub (h 35)) f) (hj : 1 ≤ j ∧ j < 200) (hL : 0 ≤ L ∧ L ≤ 12800) (hK : K = ((L + 127) / 128).toNat) (e47 : h 47 j = L) (e48 : h 48 j = c) (e46 : h 46 j = b) (b01 : b = 0 ∨ b = 1) (hc0 : 0 ≤ c ∧ c ≤ 101) (hc : ∀ i, i < K → 2 ≤ tc f b c i ∧ tc f b c i ≤ 101)
    (H : ∀ h', Rm h' K (tc f b c) → (∀ k, k ≠ 17 → h' 34 k = h 34 k) → (∀ o, o ≠ 34 → o ≠ 39 → h' o = h o) → P h') : RunsV G 210 [vR 34, vI (j : Int)] h P := by
  apply q_M_rowOfSet
  rw [wI_id (z := (j : Int)) (by omega) (by omega), show (j : Int).toNat = j by omega, hs_o _ _ _ _ _ (by decide), e47, e48, wI_id (z := c) (by omega) (by omega), wL_id (z := L + 127) (by omega) (by omega), tdiv_pos (by omega), show (L + 127) / 128 = (K : Int) by omega]
  refine ⟨fun z => by omega, fun _ => ⟨by omega, by decide, by omega, ?_⟩⟩
  have key : ∀ (m i : Nat) (g : AH), i + m = K → g 34 17 = (K : Int) → (∀ q, q < i → g 39 q = tc f b c q) → (∀ k, k ≠ 17 → g 34 k = h 34 k) → (∀ o, o ≠ 34 → o ≠ 39 → g o = h o) → Go G (pV P) 210 41 [some (vR 34), some (vI (j : Int)), some (vI (K : Int)), some (vL (tc f b c i)), none, some (vI (i : Int))] [] g := by
    intro m
    induction m with
    | zero =>
      intro i g hm g17 g39 k4 ob
      apply q_M_rowOfSet_c41
      rw [wI_id (z := (K : Int)) (by omega) (by omega), wI_id (z := (i : Int)) (by omega) (by omega)]
      exact ⟨fun _ => H g ⟨g17, by omega, fun q hq => g39 q (by omega)⟩ k4 ob, fun z => by omega⟩
    | succ m ih =>
      intro i g hm g17 g39 k4 ob
      have ci := hc i (by omega)
      apply q_M_rowOfSet_c41
      rw [wI_id (z := (K : Int)) (by omega) (by omega), wI_id (z := (i : Int)) (by omega) (by omega), wI_id (z := (j : Int)) (by omega) (by omega), show (j : Int).toNat = j by omega, show (i : Int).toNat = i by omega, hs_o _ _ _ _ _ (by decide), ob 46 (by decide) (by decide), e46, wI_id (z := b) (by omega) (by omega)]
      refine ⟨fun z => by omega, fun _ => ⟨by omega, by omega, ?_⟩⟩
      have o2 : ∀ o, o ≠ 39 → (hs g 39 i (tc f b c i)) o = g o := fun o p => hs_o _ _ _ _ _ p
      have nx := ih (i + 1) (hs g 39 i (tc f b c i)) (by omega) (by rw [o2 34 (by decide)]; exact g17) (fun q hq => by
        rw [hs_app, if_pos rfl]
        by_cases z : q = i
        · rw [if_pos z, z]
        · rw [if_neg z]; exact g39 q (by omega)) (fun k hk => by rw [o2 34 (by decide)]; exact k4 k hk) (fun o p q => (o2 o q).trans (ob o p q))
      rw [show ((i + 1 : Nat) : Int) = (i : Int) + 1 by omega] at nx
      refine ⟨fun z => ?_, fun z => ?_⟩
      · refine M_fat (f := f) (by rw [o2 35 (by decide), ob 35 (by decide) (by decide)]; exact hE) (by omega) (by omega) ?_
        have e : tc f b c (i + 1) = ft f (tc f b c i) := by
          show nxt f b _ = _
          unfold nxt
          rw [if_neg (by omega)]
        rw [e] at nx
        exact nx
      · have e : tc f b c (i + 1) = tc f b c i + 1 := by
          show nxt f b _ = _
          unfold nxt
          rw [if_pos (by omega)]
        rw [e] at nx
        exact nx
  exact key K 0 _ (by omega) (hs_same _ _ _ _) (fun q hq => by omega) (fun k hk => hs_k _ _ _ _ _ hk) (fun o p _ => hs_o _ _ _ _ _ p)
theorem bA_16 {v : Int} (h : At v) : (bA v 16 = 0 ↔ ¬ 16 ≤ v) := by
  rcases h with q | q | q | q <;> subst q <;> decide
theorem M_addSet {P : AH → Prop} {x1 e : Int} {N : Nat} (hN : h 34 34 = (N : Int)) (hl : N < 200) (h0 : 0 ≤ e) (h1 : e < 408) (a16 : At (h 34 24)) (r01 : h 34 23 = 0 ∨ h 34 23 = 1)
    (H : ∀ h', h' 41 = st (h 41) N (4 * h 39 (e / 4).toNat + e % 4) → h' 42 = st (h 42) N x1 → h' 43 = st (h 43) N e → h' 44 = st (h 44) N (h 34 18) → h' 45 = st (h 45) N (if 16 ≤ h 34 24 then 1 else 0) → h' 46 = st (h 46) N (h 34 23) → h' 47 = st (h 47) N (h 34 21) → h' 48 = st (h 48) N (h 34 22) → h' 49 = st (h 49) N (h 34 24) → h' 34 34 = (N : Int) + 1 → (∀ k, k ≠ 34 → h' 34 k = h 34 k) → (∀ o, ¬ (o = 34 ∨ (41 ≤ o ∧ o ≤ 49)) → h' o = h o) → P h') : RunsV G 208 [vR 34, vI x1, vI e] h P := by
  apply q_M_addSet
  simp (disch := decide) only [hs_o]
  have hst : ∀ (h : AH) (o : Nat) (v : Int), hs h o N v o = st (h o) N v := fun h o v => by
    funext k
    rw [hs_app, if_pos rfl]
    rfl
  rw [hN, wI_id (z := e) (by omega) (by omega), tdiv_pos h0, tmod_pos h0, wI_id (z := e / 4) (by omega) (by omega), wI_id (z := (N : Int)) (by omega) (by omega), show (N : Int).toNat = N by omega, wI_bA]
  refine ⟨by decide, by omega, by decide, by omega, by omega, by omega, by omega, ?_⟩
  generalize eg : hs (hs (hs (hs h 41 N (4 * h 39 (e / 4).toNat + e % 4)) 42 N x1) 43 N e) 44 N (h 34 18) = g
  have gf : ∀ o, ¬ (41 ≤ o ∧ o ≤ 44) → g o = h o := fun o p => by rw [← eg, hs_o _ _ _ _ _ (by omega), hs_o _ _ _ _ _ (by omega), hs_o _ _ _ _ _ (by omega), hs_o _ _ _ _ _ (by omega)]
  have g41 : g 41 = st (h 41) N (4 * h 39 (e / 4).toNat + e % 4) := by rw [← eg, hs_o _ _ _ _ _ (by decide), hs_o _ _ _ _ _ (by decide), hs_o _ _ _ _ _ (by decide), hst]
  have g42 : g 42 = st (h 42) N x1 := by rw [← eg, hs_o _ _ _ _ _ (by decide), hs_o _ _ _ _ _ (by decide), hst, hs_o _ _ _ _ _ (by decide)]
  have g43 : g 43 = st (h 43) N e := by rw [← eg, hs_o _ _ _ _ _ (by decide), hst, hs_o _ _ _ _ _ (by decide), hs_o _ _ _ _ _ (by decide)]
  have g44 : g 44 = st (h 44) N (h 34 18) := by rw [← eg, hst, hs_o _ _ _ _ _ (by decide), hs_o _ _ _ _ _ (by decide), hs_o _ _ _ _ _ (by decide)]
  clear eg
  have fin : ∀ v : Int, (v = 0 ∨ v = 1) → v = (if 16 ≤ h 34 24 then 1 else 0) → Go G (pV P) 208 79 [some (vR 34), none, none] [vI v, vI (N : Int), vR 45] g := by
    intro v v01 ev
    apply q_M_addSet_c79
    simp (disch := decide) only [hs_o]
    rw [gf 34 (by omega), hN, wI_id (z := (N : Int)) (by omega) (by omega), show (N : Int).toNat = N by omega]
    refine ⟨by omega, v01, by omega, r01, by omega, by omega, by omega, ?_⟩
    generalize eg : hs (hs (hs (hs (hs g 45 N v) 46 N (h 34 23)) 47 N (h 34 21)) 48 N (h 34 22)) 49 N (h 34 24) = b
    have bf : ∀ o, ¬ (45 ≤ o ∧ o ≤ 49) → b o = g o := fun o p => by rw [← eg, hs_o _ _ _ _ _ (by omega), hs_o _ _ _ _ _ (by omega), hs_o _ _ _ _ _ (by omega), hs_o _ _ _ _ _ (by omega), hs_o _ _ _ _ _ (by omega)]
    have b45 : b 45 = st (g 45) N v := by rw [← eg, hs_o _ _ _ _ _ (by decide), hs_o _ _ _ _ _ (by decide), hs_o _ _ _ _ _ (by decide), hs_o _ _ _ _ _ (by decide), hst]
    have b46 : b 46 = st (g 46) N (h 34 23) := by rw [← eg, hs_o _ _ _ _ _ (by decide), hs_o _ _ _ _ _ (by decide), hs_o _ _ _ _ _ (by decide), hst, hs_o _ _ _ _ _ (by decide)]
    have b47 : b 47 = st (g 47) N (h 34 21) := by rw [← eg, hs_o _ _ _ _ _ (by decide), hs_o _ _ _ _ _ (by decide), hst, hs_o _ _ _ _ _ (by decide), hs_o _ _ _ _ _ (by decide)]
    have b48 : b 48 = st (g 48) N (h 34 22) := by rw [← eg, hs_o _ _ _ _ _ (by decide), hst, hs_o _ _ _ _ _ (by decide), hs_o _ _ _ _ _ (by decide), hs_o _ _ _ _ _ (by decide)]
    have b49 : b 49 = st (g 49) N (h 34 24) := by rw [← eg, hst, hs_o _ _ _ _ _ (by decide), hs_o _ _ _ _ _ (by decide), hs_o _ _ _ _ _ (by decide), hs_o _ _ _ _ _ (by decide)]
    clear eg
    have c : ∀ o, o ≠ 34 → (hs b 34 34 ((N : Int) + 1)) o = b o := fun o p => hs_o _ _ _ _ _ p
    refine H _ ?_ ?_ ?_ ?_ ?_ ?_ ?_ ?_ ?_ (hs_same _ _ _ _) (fun k hk => ?_) (fun o p => ?_)
    · rw [c 41 (by decide), bf 41 (by omega), g41]
    · rw [c 42 (by decide), bf 42 (by omega), g42]
    · rw [c 43 (by decide), bf 43 (by omega), g43]
    · rw [c 44 (by decide), bf 44 (by omega), g44]
    · rw [c 45 (by decide), b45, gf 45 (by omega), ev]
    · rw [c 46 (by decide), b46, gf 46 (by omega)]
    · rw [c 47 (by decide), b47, gf 47 (by omega)]
    · rw [c 48 (by decide), b48, gf 48 (by omega)]
    · rw [c 49 (by decide), b49, gf 49 (by omega)]
    · rw [hs_k _ _ _ _ _ hk, bf 34 (by omega), gf 34 (by omega)]
    · rw [c o (by omega), bf o (by omega), gf o (by omega)]
  have b16 := bA_16 a16
  refine ⟨fun z => fin 0 (Or.inl rfl) (by rw [if_neg (b16.mp z)]), fun z => fin 1 (Or.inr rfl) (by rw [if_pos (Classical.not_not.mp (fun y => z (b16.mpr y)))])⟩
theorem M_beginSets {P : AH → Prop} (H : ∀ h', h' 34 34 = 1 → (∀ k, k ≠ 34 → h' 34 k = h 34 k) → h' 41 0 = 0 → h' 42 0 = -9 → h' 45 0 = 1 → h' 46 0 = 0 → h' 48 0 = h 34 1 → h' 49 0 = 16 → (∀ o, ¬ (o = 34 ∨ o = 41 ∨ o = 42 ∨ o = 45 ∨ o = 46 ∨ o = 48 ∨ o = 49) → h' o = h o) → P h') : RunsV G 209 [vR 34] h P := by
  apply q_M_beginSets
  simp (disch := decide) only [hs_o]
  rw [hs_k _ _ _ _ _ (by decide)]
  refine ⟨by decide, by decide, by decide, by decide, by decide, by decide, by decide, by decide, ?_⟩
  refine H _ ?_ (fun k hk => ?_) ?_ ?_ ?_ ?_ ?_ ?_ (fun o p => ?_)
  · rw [hs_o _ _ _ _ _ (by decide), hs_o _ _ _ _ _ (by decide), hs_o _ _ _ _ _ (by decide), hs_o _ _ _ _ _ (by decide), hs_o _ _ _ _ _ (by decide), hs_o _ _ _ _ _ (by decide), hs_same]
  · rw [hs_o _ _ _ _ _ (by decide), hs_o _ _ _ _ _ (by decide), hs_o _ _ _ _ _ (by decide), hs_o _ _ _ _ _ (by decide), hs_o _ _ _ _ _ (by decide), hs_o _ _ _ _ _ (by decide), hs_k _ _ _ _ _ hk]
  · rw [hs_o _ _ _ _ _ (by decide), hs_o _ _ _ _ _ (by decide), hs_o _ _ _ _ _ (by decide), hs_o _ _ _ _ _ (by decide), hs_o _ _ _ _ _ (by decide), hs_same]
  · rw [hs_o _ _ _ _ _ (by decide), hs_o _ _ _ _ _ (by decide), hs_o _ _ _ _ _ (by decide), hs_o _ _ _ _ _ (by decide), hs_same]
  · rw [hs_o _ _ _ _ _ (by decide), hs_o _ _ _ _ _ (by decide), hs_o _ _ _ _ _ (by decide), hs_same]
  · rw [hs_o _ _ _ _ _ (by decide), hs_o _ _ _ _ _ (by decide), hs_same]
  · rw [hs_o _ _ _ _ _ (by decide), hs_same]
  · rw [hs_same]
  · rw [hs_o _ _ _ _ _ (by omega), hs_o _ _ _ _ _ (by omega), hs_o _ _ _ _ _ (by omega), hs_o _ _ _ _ _ (by omega), hs_o _ _ _ _ _ (by omega), hs_o _ _ _ _ _ (by omega), hs_o _ _ _ _ _ (by omega)]
theorem M_meetClusters {P : AH → Prop} {K : Nat} {L c b : Int} {M : Int → Prop} (hE : E (ub (h 35)) f) (hL : 0 ≤ L ∧ L ≤ 12800) (hK : K = ((L + 127) / 128).toNat) (e21 : h 34 21 = L) (e22 : h 34 22 = c) (e23 : h 34 23 = b) (b01 : b = 0 ∨ b = 1) (hc : ∀ i, i < K → 2 ≤ tc f b c i ∧ tc f b c i ≤ 101) (mt : Mt (h 37) M)
    (H : ∀ h', Mt (h' 37) (fun x => M x ∨ ∃ j, j < K ∧ tc f b c j = x) → (∀ o, o ≠ 37 → h' o = h o) → P h') : RunsV G 217 [vR 34] h P := by
  apply q_M_meetClusters
  rw [e21, e22, wL_id (z := L + 127) (by omega) (by omega), tdiv_pos (by omega), show (L + 127) / 128 = (K : Int) by omega]
  refine ⟨by decide, ?_⟩
  have key : ∀ (m i : Nat) (g : AH), i + m = K → Mt (g 37) (fun x => M x ∨ ∃ j, j < i ∧ tc f b c j = x) → (∀ o, o ≠ 37 → g o = h o) → Go G (pV P) 217 22 [some (vR 34), some (vI (K : Int)), some (vL (tc f b c i)), none, some (vI (i : Int))] [] g := by
    intro m
    induction m with
    | zero =>
      intro i g hm mg ob
      apply q_M_meetClusters_c22
      rw [wI_id (z := (K : Int)) (by omega) (by omega), wI_id (z := (i : Int)) (by omega) (by omega)]
      refine ⟨fun _ => H g ?_ ob, fun z => by omega⟩
      rw [show i = K by omega] at mg
      exact mg
    | succ m ih =>
      intro i g hm mg ob
      have ci := hc i (by omega)
      apply q_M_meetClusters_c22
      rw [wI_id (z := (K : Int)) (by omega) (by omega), wI_id (z := (i : Int)) (by omega) (by omega), wI_id (z := tc f b c i) (by omega) (by omega), hs_o _ _ _ _ _ (by decide), ob 34 (by decide), e23, wI_id (z := b) (by omega) (by omega)]
      refine ⟨fun z => by omega, fun _ => ⟨by omega, Or.inr rfl, ?_⟩⟩
      have o2 : ∀ o, o ≠ 37 → (hs g 37 (tc f b c i).toNat 1) o = g o := fun o p => hs_o _ _ _ _ _ p
      have m2 : Mt ((hs g 37 (tc f b c i).toNat 1) 37) (fun x => M x ∨ ∃ j, j < i + 1 ∧ tc f b c j = x) := by
        rw [hs_eq]
        refine Mt_congr (Mt_set mg (show 0 ≤ tc f b c i by omega)) (fun x _ _ => ⟨?_, ?_⟩)
        · rintro ((q | ⟨j, j1, j2⟩) | q)
          · exact Or.inl q
          · exact Or.inr ⟨j, by omega, j2⟩
          · exact Or.inr ⟨i, by omega, q.symm⟩
        · rintro (q | ⟨j, j1, j2⟩)
          · exact Or.inl (Or.inl q)
          · by_cases z : j = i
            · rw [z] at j2; exact Or.inr j2.symm
            · exact Or.inl (Or.inr ⟨j, by omega, j2⟩)
      have nx := ih (i + 1) (hs g 37 (tc f b c i).toNat 1) (by omega) m2 (fun o p => (o2 o p).trans (ob o p))
      rw [show ((i + 1 : Nat) : Int) = (i : Int) + 1 by omega] at nx
      refine ⟨fun z => ?_, fun z => ?_⟩
      · refine M_fat (f := f) (by rw [o2 35 (by decide), ob 35 (by decide)]; exact hE) (by omega) (by omega) ?_
        have e : tc f b c (i + 1) = ft f (tc f b c i) := by
          show nxt f b _ = _
          unfold nxt
          rw [if_neg (by omega)]
        rw [e] at nx
        exact nx
      · have e : tc f b c (i + 1) = tc f b c i + 1 := by
          show nxt f b _ = _
          unfold nxt
          rw [if_pos (by omega)]
        rw [e] at nx
        exact nx
  exact key K 0 h (by omega) (Mt_congr mt (fun x _ _ => ⟨fun q => Or.inl q, fun q => by
    rcases q with q | ⟨j, j1, _⟩
    · exact q
    · omega⟩)) (fun _ _ => rfl)
theorem M_keepName {P : AH → Prop} (hn : 0 ≤ h 34 19 ∧ h 34 19 ≤ 30) (H : ∀ h', h' 34 38 = h 34 19 → (∀ i : Nat, (i : Int) < h 34 19 → h' 50 i = h 40 i) → (∀ k, k ≠ 38 → h' 34 k = h 34 k) → (∀ o, o ≠ 34 → o ≠ 50 → h' o = h o) → P h') : RunsV G 218 [vR 34] h P := by
  apply q_M_keepName
  have key : ∀ (m i : Nat) (g : AH), (i : Int) + m = h 34 19 → g 34 38 = h 34 19 → (∀ j : Nat, j < i → g 50 j = h 40 j) → (∀ k, k ≠ 38 → g 34 k = h 34 k) → (∀ o, o ≠ 34 → o ≠ 50 → g o = h o) → Go G (pV P) 218 10 [some (vR 34), some (vI (i : Int))] [] g := by
    intro m
    induction m with
    | zero =>
      intro i g hm g38 g50 k4 ob
      apply q_M_keepName_c10
      rw [k4 19 (by decide), wI_id (z := (i : Int)) (by omega) (by omega), wI_id (z := h 34 19) (by omega) (by omega)]
      exact ⟨fun _ => H g g38 (fun j hj => g50 j (by omega)) k4 ob, fun z => by omega⟩
    | succ m ih =>
      intro i g hm g38 g50 k4 ob
      apply q_M_keepName_c10
      rw [k4 19 (by decide), wI_id (z := (i : Int)) (by omega) (by omega), wI_id (z := h 34 19) (by omega) (by omega), show (i : Int).toNat = i by omega, show (i : Int) + 1 = ((i + 1 : Nat) : Int) by omega]
      refine ⟨fun z => by omega, fun _ => ⟨by omega, by omega, ?_⟩⟩
      refine ih (i + 1) _ (by omega) (by rw [hs_o _ _ _ _ _ (by decide)]; exact g38) (fun j hj => ?_) (fun k hk => by rw [hs_o _ _ _ _ _ (by decide)]; exact k4 k hk) (fun o p q => by rw [hs_o _ _ _ _ _ q]; exact ob o p q)
      rw [hs_app, if_pos rfl]
      by_cases z : j = i
      · rw [if_pos z, z, ob 40 (by decide) (by decide)]
      · rw [if_neg z]; exact g50 j (by omega)
  exact key (h 34 19).toNat 0 _ (by omega) (hs_same _ _ _ _) (fun j hj => by omega) (fun k hk => hs_k _ _ _ _ _ hk) (fun o p _ => hs_o _ _ _ _ _ p)
theorem M_wantType {P : AH → Prop} {e v : Int} (h6 : Sb (h 36)) (h0 : 0 ≤ e) (h1 : e < 408) (hr : 2 ≤ h 39 (e / 4).toNat ∧ h 39 (e / 4).toNat ≤ 101) (H : ∀ h', Sb (h' 36) → ub (h' 36) = wb (ub (h 36)) (ea (h 39) e) 1 v → (∀ o, o ≠ 36 → h' o = h o) → P h') : RunsV G 221 [vR 34, vI e, vI v] h P := by
  have r := ea_rng h0 hr
  apply q_M_wantType
  refine M_entryAt h0 h1 ?_
  rw [wI_id (z := ea (h 39) e) (by omega) (by omega)]
  refine ⟨by omega, H _ (fun k hk => ?_) ?_ (fun o ho => hs_o _ _ _ _ _ ho)⟩
  · rw [hs_app, if_pos rfl]
    split
    · exact w8_rng _
    · exact h6 k hk
  · rw [ub_wb1, show (((ea (h 39) e).toNat : Nat) : Int) = ea (h 39) e by omega]
    funext k
    unfold wb
    have : w8 (w8 v) % 256 = v % 256 := by rw [w8_mod, w8_mod]
    split
    · rename_i c
      rw [show k - (ea (h 39) e).toNat = 0 by omega, Int.pow_zero, Int.ediv_one, Int.ediv_one]
      exact this
    · rfl
end MW
