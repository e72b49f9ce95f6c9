/-! questions 1 to 4: the class -/
theorem php : ∀ (N m : Nat) (F : Nat → Nat), (∀ i, i < m → F i < N) → (∀ i j, i < j → j < m → F i ≠ F j) → m ≤ N
  | 0, m, F, h, _ => by
    cases m with
    | zero => exact Nat.le_refl 0
    | succ m => exact absurd (h 0 (by omega)) (Nat.not_lt_zero _)
  | N + 1, m, F, h, d => by
    by_cases e : ∃ i, i < m ∧ F i = N
    · obtain ⟨i, hi, ei⟩ := e
      have := php N (m - 1) (fun j => if j < i then F j else F (j + 1)) (fun j hj => by
        split
        · rename_i c
          have a := h j (by omega)
          have b := d j i c hi
          omega
        · rename_i c
          have a := h (j + 1) (by omega)
          have b := d i (j + 1) (by omega) (by omega)
          omega) (fun j k hjk hk => by
        by_cases c1 : j < i
        · rw [if_pos c1]
          by_cases c2 : k < i
          · rw [if_pos c2]; exact d j k hjk (by omega)
          · rw [if_neg c2]; exact d j (k + 1) (by omega) (by omega)
        · rw [if_neg c1, if_neg (by omega)]; exact d (j + 1) (k + 1) (by omega) (by omega))
      omega
    · have := php N m F (fun i hi => by
        have a := h i hi
        have b : F i ≠ N := fun q => e ⟨i, hi, q⟩
        omega) d
      omega
/-- the same for numbers of CLUSTERS -/
theorem php2 {m : Nat} {n : Int} {F : Nat → Int} (hr : ∀ i, i < m → 2 ≤ F i ∧ F i ≤ n + 1) (hn : 0 ≤ n) (hd : ∀ i j, i < j → j < m → F i ≠ F j) : (m : Int) ≤ n := by
  have := php n.toNat m (fun i => (F i - 2).toNat) (fun i hi => by have := hr i hi; omega) (fun i j a b => by
    have h1 := hr i (by omega)
    have h2 := hr j b
    have h3 := hd i j a b
    omega)
  omega
def nxt (f : Nat → Int) (b c : Int) : Int := if b = 1 then c + 1 else ft f c
/-- the i-th CLUSTER from c on; b 1: in a run -/
def tc (f : Nat → Int) (b c : Int) : Nat → Int
  | 0 => c
  | i + 1 => nxt f b (tc f b c i)
theorem tc_0 (f : Nat → Int) (c : Int) (i : Nat) : tc f 0 c (i + 1) = ft f (tc f 0 c i) := rfl
def clu (n c : Int) : Prop := 2 ≤ c ∧ c ≤ n + 1
def RW (f : Nat → Int) (n root : Int) (K : Nat) : Prop := 1 ≤ K ∧ (∀ i, i < K → clu n (tc f 0 root i)) ∧ ∀ i j, i < j → j < K → tc f 0 root i ≠ tc f 0 root j
def RWok (f : Nat → Int) (n root : Int) (K : Nat) : Prop := RW f n root K ∧ tc f 0 root K = 4294967295
def RWno (f : Nat → Int) (n root : Int) (K : Nat) : Prop := RW f n root K ∧ tc f 0 root K ≠ 4294967295 ∧ (¬ clu n (tc f 0 root K) ∨ ∃ i, i < K ∧ tc f 0 root i = tc f 0 root K)
def Mt (a : Nat → Int) (M : Int → Prop) : Prop := ∀ k : Nat, k < 102 → (M k → a k = 1) ∧ (¬ M k → a k = 0)
theorem Mt_set {a : Nat → Int} {M : Int → Prop} (h : Mt a M) {c : Int} (c0 : 0 ≤ c) : Mt (wr a c 1) (fun x => M x ∨ x = c) := by
  intro k hk
  have := h k hk
  unfold wr
  by_cases q : k = c.toNat
  · rw [if_pos q]
    exact ⟨fun _ => rfl, fun n => absurd (Or.inr (by omega)) n⟩
  · rw [if_neg q]
    refine ⟨fun m => ?_, fun n => this.2 (fun m => n (Or.inl m))⟩
    rcases m with m | m
    · exact this.1 m
    · omega
theorem Mt_congr {a : Nat → Int} {M N : Int → Prop} (h : Mt a M) (e : ∀ x : Int, 0 ≤ x → x < 102 → (M x ↔ N x)) : Mt a N := by
  intro k hk
  have q := h k hk
  have e2 := e k (by omega) (by omega)
  exact ⟨fun m => q.1 (e2.mpr m), fun n => q.2 (fun m => n (e2.mp m))⟩
def RM (f : Nat → Int) (root : Int) (K : Nat) (x : Int) : Prop := ∃ i, i < K ∧ tc f 0 root i = x
theorem RM_succ {f : Nat → Int} {root : Int} {K : Nat} {x : Int} : RM f root (K + 1) x ↔ (RM f root K x ∨ x = tc f 0 root K) := by
  constructor
  · rintro ⟨i, hi, e⟩
    by_cases q : i = K
    · rw [q] at e; exact Or.inr e.symm
    · exact Or.inl ⟨i, by omega, e⟩
  · rintro (⟨i, hi, e⟩ | e)
    · exact ⟨i, by omega, e⟩
    · exact ⟨K, by omega, e.symm⟩
theorem zer4 {f : Nat → Int} (hf : By f) {a : Int} (h0 : 0 ≤ a) (h1 : a + 3 < 13824) : zer f a (a + 4) ↔ u4 f a = 0 := by
  have b0 := hf.rd h0 (show a < 13824 by omega)
  have b1 := hf.rd (show 0 ≤ a + 1 by omega) (show a + 1 < 13824 by omega)
  have b2 := hf.rd (show 0 ≤ a + 2 by omega) (show a + 2 < 13824 by omega)
  have b3 := hf.rd (show 0 ≤ a + 3 by omega) h1
  constructor
  · intro z
    have z0 := z a (by omega) (by omega)
    have z1 := z (a + 1) (by omega) (by omega)
    have z2 := z (a + 2) (by omega) (by omega)
    have z3 := z (a + 3) (by omega) (by omega)
    unfold u4
    omega
  · intro u b p q
    unfold u4 at u
    rcases (show b = a ∨ b = a + 1 ∨ b = a + 2 ∨ b = a + 3 by omega) with e | e | e | e <;> rw [e] <;> omega
def MapOK (f : Nat → Int) (n : Int) (M : Int → Prop) (a : Int) : Prop := rd f a = 129 ∧ zer f (a + 1) (a + 20) ∧ u4 f (a + 24) = (n + 7) / 8 ∧ u4 f (a + 28) = 0 ∧ clu n (u4 f (a + 20)) ∧ ¬ M (u4 f (a + 20)) ∧ ft f (u4 f (a + 20)) = 4294967295
def TabOK (f : Nat → Int) (n : Int) (M : Int → Prop) (a : Int) (g : Nat → Int) : Prop := rd f a = 130 ∧ zer f (a + 1) (a + 4) ∧ zer f (a + 8) (a + 20) ∧ (2 ≤ u4 f (a + 24) ∧ u4 f (a + 24) ≤ 128 ∧ u4 f (a + 24) % 2 = 0) ∧ u4 f (a + 28) = 0 ∧ (clu n (u4 f (a + 20)) ∧ ¬ M (u4 f (a + 20)) ∧ ft f (u4 f (a + 20)) = 4294967295) ∧ sm4 0 f (ca (u4 f (a + 20))) (u4 f (a + 24)).toNat = u4 f (a + 4) ∧ LrOK f (ca (u4 f (a + 20))) (u4 f (a + 24) / 2).toNat g
section BASE
variable {G : GG} {h : AH}
theorem S_isCluster {P : Int → AH → Prop} {c : Int} (hn : 16 ≤ h 7 1 ∧ h 7 1 ≤ 100) (hc : 0 ≤ c ∧ c < 4294967296) (H1 : clu (h 7 1) c → P 1 h) (H0 : ¬ clu (h 7 1) c → P 0 h) : RunsI G 110 [vR 7, vI c] h P := by
  unfold clu at H1 H0
  apply q_S_isCluster
  rw [wI_id (z := h 7 1 + 1) (by omega) (by omega)]
  by_cases q : 2 ≤ c ∧ c ≤ h 7 1 + 1
  · rw [wI_id (z := c) (by omega) (by omega)]
    exact ⟨fun z => by omega, fun _ => ⟨fun z => by omega, fun _ => ⟨Or.inr rfl, H1 q⟩⟩⟩
  · refine ⟨fun z => ⟨Or.inl rfl, H0 q⟩, fun z => ⟨fun z2 => ⟨Or.inl rfl, H0 q⟩, fun z2 => ?_⟩⟩
    exfalso
    unfold wI at z z2
    omega
theorem S_isClusterW {P : Int → AH → Prop} {c : Int} (hn : 16 ≤ h 7 1 ∧ h 7 1 ≤ 100) (hc : 0 ≤ c ∧ c < 4294967296) (H1 : clu (h 7 1) c → P 1 h) (H0 : ¬ clu (h 7 1) c → P 0 h) : RunsI G 110 [vR 7, vI (wI c)] h P := by
  unfold clu at H1 H0
  apply q_S_isCluster
  rw [wI_id (z := h 7 1 + 1) (by omega) (by omega), wI_wI]
  by_cases q : 2 ≤ c ∧ c ≤ h 7 1 + 1
  · rw [wI_id (z := c) (by omega) (by omega)]
    exact ⟨fun z => by omega, fun _ => ⟨fun z => by omega, fun _ => ⟨Or.inr rfl, H1 q⟩⟩⟩
  · refine ⟨fun z => ⟨Or.inl rfl, H0 q⟩, fun z => ⟨fun z2 => ⟨Or.inl rfl, H0 q⟩, fun z2 => ?_⟩⟩
    exfalso
    unfold wI at z z2
    omega
theorem S_fat {P : Int → AH → Prop} {c : Int} (hb : By (h 3)) (h0 : 0 ≤ c) (h1 : c ≤ 101) (H : P (wI (ft (h 3) c)) h) : RunsI G 111 [vR 7, vI c] h P := by
  apply q_S_fat
  exact D_get4 hb (by omega) (by omega) H
theorem wI_end {x : Int} (h0 : 0 ≤ x) (h1 : x < 4294967296) : wI (wI x) = -1 ↔ x = 4294967295 := by rw [wI_wI]; unfold wI; omega
theorem H_meet {P : AH → Prop} {c : Int} (hc : 0 ≤ c ∧ c ≤ 101) (H : ∀ h', h' 24 = wr (h 24) c 1 → (∀ o, o ≠ 24 → h' o = h o) → P h') : RunsV G 36 [vR 17, vI c] h P := by
  apply q_H_meet
  rw [wI_id (z := c) (by omega) (by omega)]
  refine ⟨fun z => by omega, fun _ => ⟨fun z => by omega, fun _ => ⟨⟨by omega, by omega⟩, Or.inr rfl, H _ ?_ (fun o ho => hs_o _ _ _ _ _ ho)⟩⟩⟩
  rw [hs_eq]
  rfl
theorem H_isMet {P : Int → AH → Prop} {c : Int} {M : Int → Prop} (hm : Mt (h 24) M) (hc : 0 ≤ c ∧ c ≤ 101) (H1 : M c → P 1 h) (H0 : ¬ M c → P 0 h) : RunsI G 37 [vR 17, vI c] h P := by
  apply q_H_isMet
  rw [wI_id (z := c) (by omega) (by omega)]
  have q := hm c.toNat (by omega)
  rw [show ((c.toNat : Nat) : Int) = c by omega] at q
  refine ⟨fun z => by omega, fun _ => ⟨fun z => by omega, fun _ => ⟨⟨by omega, by omega⟩, ?_⟩⟩⟩
  by_cases m : M c
  · rw [q.1 m]
    exact ⟨fun z => absurd z (by decide), fun _ => ⟨Or.inr rfl, H1 m⟩⟩
  · rw [q.2 m]
    exact ⟨fun _ => ⟨Or.inl rfl, H0 m⟩, fun z => absurd wI_0 z⟩
theorem H_meetRoot {P : Int → AH → Prop} (hb : By (h 3)) (hn : 16 ≤ h 7 1 ∧ h 7 1 ≤ 100) (hr : clu (h 7 1) (h 7 2))
    (H : ∀ K r h', ((RWok (h 3) (h 7 1) (h 7 2) K ∧ r = 0) ∨ (RWno (h 3) (h 7 1) (h 7 2) K ∧ r = tc (h 3) 0 (h 7 2) (K - 1))) → Mt (h' 24) (RM (h 3) (h 7 2) K) → (∀ o, o ≠ 24 → h' o = h o) → P r h') : RunsI G 35 [vR 17] h P := by
  apply q_H_meetRoot
  generalize ef : h 3 = f at hb H
  generalize en : h 7 1 = n at hn hr H
  generalize er : h 7 2 = root at hr H
  have l2 : ∀ (m i : Nat) (b : AH), i + m = 101 → RW f n root (i + 1) → Mt (b 24) (RM f root i) → (∀ o, o ≠ 24 → b o = h o) → Go G (pI P) 35 34 [some (vR 17), some (vI (tc f 0 root i)), some (vI (i : Int)), none] [] b := by
    intro m
    induction m with
    | zero =>
      intro i b hm w mt ob
      have := php2 w.2.1 (by omega) w.2.2
      omega
    | succ m ih =>
      intro i b hm w mt ob
      have ci := w.2.1 i (by omega)
      unfold clu at ci
      have e7 : b 7 = h 7 := ob 7 (by decide)
      have e3 : b 3 = f := (ob 3 (by decide)).trans ef
      apply q_H_meetRoot_c34
      rw [wI_id (z := (i : Int)) (by omega) (by omega)]
      refine ⟨fun c => by omega, fun _ => ?_⟩
      refine H_meet (by omega) (fun b2 e2 o2 => ?_)
      have ob2 : ∀ o, o ≠ 24 → b2 o = h o := fun o ho => (o2 o ho).trans (ob o ho)
      have e32 : b2 3 = f := (ob2 3 (by decide)).trans ef
      have mt2 : Mt (b2 24) (RM f root (i + 1)) := by
        rw [e2]
        exact Mt_congr (Mt_set mt (by omega)) (fun x _ _ => RM_succ.symm)
      refine S_fat (by rw [e32]; exact hb) (by omega) (by omega) ?_
      rw [e32]
      have fr := ft_rng hb (show 0 ≤ tc f 0 root i by omega) (show tc f 0 root i ≤ 101 by omega)
      have ew := wI_end fr.1 fr.2
      rw [ew]
      refine ⟨fun c => H (i + 1) 0 b2 (Or.inl ⟨⟨w, c⟩, rfl⟩) mt2 ob2, fun c => ?_⟩
      have e72 : b2 7 = h 7 := ob2 7 (by decide)
      refine S_isClusterW (by rw [e72, en]; exact hn) fr (fun k => ?_) (fun k => ?_)
      · rw [e72, en] at k
        unfold clu at k
        refine ⟨fun z => absurd z (by decide), fun _ => ?_⟩
        have ek : wI (ft f (tc f 0 root i)) = ft f (tc f 0 root i) := wI_id (by omega) (by omega)
        rw [ek]
        refine H_isMet mt2 (by omega) (fun mm => ?_) (fun mm => ?_)
        · refine ⟨fun z => absurd z (by decide), fun _ => H (i + 1) _ b2 (Or.inr ⟨⟨w, c, Or.inr ?_⟩, rfl⟩) mt2 ob2⟩
          exact mm
        · refine ⟨fun _ => ?_, fun z => absurd wI_0 z⟩
          rw [show (i : Int) + 1 = ((i + 1 : Nat) : Int) by omega]
          refine ih (i + 1) b2 (by omega) ⟨by omega, fun j hj => ?_, fun a j haj hj => ?_⟩ mt2 ob2
          · by_cases q : j = i + 1
            · rw [q]; exact k
            · exact w.2.1 j (by omega)
          · by_cases q : j = i + 1
            · rw [q]
              intro z
              exact mm ⟨a, by omega, z⟩
            · exact w.2.2 a j haj (by omega)
      · rw [e72, en] at k
        exact ⟨fun _ => H (i + 1) _ b2 (Or.inr ⟨⟨w, c, Or.inl k⟩, rfl⟩) mt2 ob2, fun z => absurd wI_0 z⟩
  have l1 : ∀ (m j : Nat) (b : AH), j + m = 102 → (∀ i, i < j → b 24 i = 0) → (∀ o, o ≠ 24 → b o = h o) → Go G (pI P) 35 2 [some (vR 17), some (vI (j : Int)), none, none] [] b := by
    intro m
    induction m with
    | zero =>
      intro j b hm e ob
      apply q_H_meetRoot_c2
      rw [wI_id (z := (j : Int)) (by omega) (by omega)]
      refine ⟨fun _ => ?_, fun c => by omega⟩
      rw [ob 7 (by decide), er]
      refine l2 101 0 b rfl ⟨by omega, fun i hi => ?_, fun i j a c => by omega⟩ (fun k hk => ⟨fun q => ?_, fun _ => e k (by omega)⟩) ob
      · rw [show i = 0 by omega]; exact hr
      · obtain ⟨i, hi, _⟩ := q
        omega
    | succ m ih =>
      intro j b hm e ob
      apply q_H_meetRoot_c2
      rw [wI_id (z := (j : Int)) (by omega) (by omega)]
      refine ⟨fun c => by omega, fun _ => ⟨⟨by omega, by omega⟩, Or.inl rfl, ?_⟩⟩
      rw [show (j : Int) + 1 = ((j + 1 : Nat) : Int) by omega, show (j : Int).toNat = j by omega]
      refine ih (j + 1) _ (by omega) (fun i hi => ?_) (fun o ho => by rw [hs_o _ _ _ _ _ ho]; exact ob o ho)
      rw [hs_app, if_pos rfl]
      by_cases q : i = j
      · rw [if_pos q]
      · rw [if_neg q]; exact e i (by omega)
  exact l1 102 0 h rfl (fun i hi => by omega) (fun _ _ => rfl)
theorem H_meetSingle {P : Int → AH → Prop} {c : Int} {M : Int → Prop} (hb : By (h 3)) (hn : 16 ≤ h 7 1 ∧ h 7 1 ≤ 100) (hm : Mt (h 24) M) (hc : 0 ≤ c ∧ c < 4294967296) (H1 : ∀ h', clu (h 7 1) c → ¬ M c → ft (h 3) c = 4294967295 → Mt (h' 24) (fun x => M x ∨ x = c) → (∀ o, o ≠ 24 → h' o = h o) → P 1 h') (H0 : ¬ (clu (h 7 1) c ∧ ¬ M c ∧ ft (h 3) c = 4294967295) → P 0 h) : RunsI G 38 [vR 17, vI (wI c)] h P := by
  apply q_H_meetSingle
  refine S_isClusterW hn hc (fun k => ?_) (fun k => ⟨fun _ => ⟨Or.inl rfl, H0 (fun q => k q.1)⟩, fun z => absurd wI_0 z⟩)
  have k' := k
  unfold clu at k'
  rw [wI_id (z := c) (by omega) (by omega)]
  refine ⟨fun z => absurd z (by decide), fun _ => ?_⟩
  refine H_isMet hm (by omega) (fun mm => ⟨fun z => absurd z (by decide), fun _ => ⟨Or.inl rfl, H0 (fun q => q.2.1 mm)⟩⟩) (fun mm => ⟨fun _ => ?_, fun z => absurd wI_0 z⟩)
  have fr := ft_rng hb (show 0 ≤ c by omega) (show c ≤ 101 by omega)
  refine S_fat hb (by omega) (by omega) ?_
  rw [wI_end fr.1 fr.2]
  refine ⟨fun e => ?_, fun e => ⟨Or.inl rfl, H0 (fun q => e q.2.2)⟩⟩
  refine H_meet (by omega) (fun b2 e2 o2 => ⟨Or.inr rfl, H1 b2 k mm e ?_ o2⟩)
  rw [e2]
  exact Mt_set hm (by omega)
theorem H_meetBitmap {P : Int → AH → Prop} {a : Int} {M : Int → Prop} (hb : By (h 3)) (hn : 16 ≤ h 7 1 ∧ h 7 1 ≤ 100) (hm : Mt (h 24) M) (a0 : 0 ≤ a) (a1 : a + 32 ≤ 13824)
    (H1 : ∀ h', MapOK (h 3) (h 7 1) M a → h' 7 3 = u4 (h 3) (a + 20) → Mt (h' 24) (fun x => M x ∨ x = u4 (h 3) (a + 20)) → (∀ k, k ≠ 3 → h' 7 k = h 7 k) → (∀ o, o ≠ 24 → o ≠ 7 → h' o = h o) → P 1 h')
    (H0 : ∀ h', ¬ MapOK (h 3) (h 7 1) M a → (∀ k, k ≠ 3 → h' 7 k = h 7 k) → (∀ o, o ≠ 7 → h' o = h o) → P 0 h') : RunsI G 39 [vR 17, vI a] h P := by
  unfold MapOK at H1 H0
  have no : ¬ (rd (h 3) a = 129 ∧ zer (h 3) (a + 1) (a + 20) ∧ u4 (h 3) (a + 24) = (h 7 1 + 7) / 8 ∧ u4 (h 3) (a + 28) = 0 ∧ clu (h 7 1) (u4 (h 3) (a + 20)) ∧ ¬ M (u4 (h 3) (a + 20)) ∧ ft (h 3) (u4 (h 3) (a + 20)) = 4294967295) → P 0 h := fun q => H0 h q (fun _ _ => rfl) (fun _ _ => rfl)
  have b0 := hb.rd a0 (show a < 13824 by omega)
  apply q_H_meetBitmap
  refine D_get (by omega) (by omega) ?_
  rw [wI_id (z := rd (h 3) a) (by omega) (by omega)]
  refine ⟨fun c1 => ?_, fun c1 => ⟨Or.inl rfl, no (fun q => c1 q.1)⟩⟩
  refine D_isBlank hb (by omega) (by omega) (by omega) (fun c2 => ⟨fun z => absurd z (by decide), fun _ => ?_⟩) (fun c2 => ⟨fun _ => ⟨Or.inl rfl, no (fun q => c2 q.2.1)⟩, fun z => absurd wI_0 z⟩)
  have u24 := u4_rng hb (show 0 ≤ a + 24 by omega) (show a + 24 + 3 < 13824 by omega)
  have u20 := u4_rng hb (show 0 ≤ a + 20 by omega) (show a + 20 + 3 < 13824 by omega)
  refine D_get4 hb (by omega) (by omega) ⟨by decide, ?_⟩
  rw [wI_wI, wI_id (z := h 7 1 + 7) (by omega) (by omega), tdiv_pos (by omega), wI_id (z := (h 7 1 + 7) / 8) (by omega) (by omega)]
  refine ⟨fun c3 => ?_, fun c3 => ⟨Or.inl rfl, no (fun q => c3 (by rw [q.2.2.1]; exact wI_id (by omega) (by omega)))⟩⟩
  have c3' : u4 (h 3) (a + 24) = (h 7 1 + 7) / 8 := by unfold wI at c3; omega
  have z4 := zer4 hb (show 0 ≤ a + 28 by omega) (show a + 28 + 3 < 13824 by omega)
  rw [show a + 28 + 4 = a + 32 by omega] at z4
  refine D_isBlank hb (by omega) (by omega) (by omega) (fun c4 => ⟨fun z => absurd z (by decide), fun _ => ?_⟩) (fun c4 => ⟨fun _ => ⟨Or.inl rfl, no (fun q => c4 (z4.mpr q.2.2.2.1))⟩, fun z => absurd wI_0 z⟩)
  refine D_get4 hb (by omega) (by omega) ?_
  rw [hs_same]
  generalize eg : hs h 7 3 (wI (u4 (h 3) (a + 20))) = g
  have g7 : ∀ k, k ≠ 3 → g 7 k = h 7 k := fun k hk => by rw [← eg, hs_k _ _ _ _ _ hk]
  have go : ∀ o, o ≠ 7 → g o = h o := fun o ho => by rw [← eg, hs_o _ _ _ _ _ ho]
  have g73 : g 7 3 = wI (u4 (h 3) (a + 20)) := by rw [← eg, hs_same]
  clear eg
  have g3 : g 3 = h 3 := go 3 (by decide)
  have g71 : g 7 1 = h 7 1 := g7 1 (by decide)
  refine H_meetSingle (M := M) (by rw [g3]; exact hb) (by rw [g71]; exact hn) (by rw [go 24 (by decide)]; exact hm) u20 (fun b k1 k2 k3 k4 k5 => ?_) (fun k => ?_)
  · rw [g71] at k1
    rw [g3] at k3
    refine ⟨Or.inr rfl, H1 b ⟨c1, c2, c3', z4.mp c4, k1, k2, k3⟩ ?_ k4 (fun k hk => by rw [k5 7 (by decide)]; exact g7 k hk) (fun o p q => (k5 o p).trans (go o q))⟩
    unfold clu at k1
    rw [k5 7 (by decide), g73, wI_id (by omega) (by omega)]
  · rw [g71, g3] at k
    exact ⟨Or.inl rfl, H0 g (fun q => k ⟨q.2.2.2.2.1, q.2.2.2.2.2⟩) g7 go⟩
theorem H_meetCases {P : Int → AH → Prop} {a : Int} {M : Int → Prop} (hb : By (h 3)) (hn : 16 ≤ h 7 1 ∧ h 7 1 ≤ 100) (hm : Mt (h 24) M) (a0 : 0 ≤ a) (a1 : a + 32 ≤ 13824)
    (H1 : ∀ h' g, TabOK (h 3) (h 7 1) M a g → Gr g → E2 (h' 9) g → Mt (h' 24) (fun x => M x ∨ x = u4 (h 3) (a + 20)) → (∀ o, o ≠ 24 → o ≠ 9 → h' o = h o) → P 1 h')
    (H0 : ∀ h', (∀ g, ¬ TabOK (h 3) (h 7 1) M a g) → (∀ o, o ≠ 24 → o ≠ 9 → h' o = h o) → P 0 h') : RunsI G 40 [vR 17, vI a] h P := by
  unfold TabOK at H1 H0
  have b0 := hb.rd a0 (show a < 13824 by omega)
  have u24 := u4_rng hb (show 0 ≤ a + 24 by omega) (show a + 24 + 3 < 13824 by omega)
  have u20 := u4_rng hb (show 0 ≤ a + 20 by omega) (show a + 20 + 3 < 13824 by omega)
  have u44 := u4_rng hb (show 0 ≤ a + 4 by omega) (show a + 4 + 3 < 13824 by omega)
  apply q_H_meetCases
  refine D_get (by omega) (by omega) ?_
  rw [wI_id (z := rd (h 3) a) (by omega) (by omega)]
  refine ⟨fun c1 => ?_, fun c1 => ⟨Or.inl rfl, H0 h (fun g q => c1 q.1) (fun _ _ _ => rfl)⟩⟩
  refine D_isBlank hb (by omega) (by omega) (by omega) (fun c2 => ⟨fun z => absurd z (by decide), fun _ => ?_⟩) (fun c2 => ⟨fun _ => ⟨Or.inl rfl, H0 h (fun g q => c2 q.2.1) (fun _ _ _ => rfl)⟩, fun z => absurd wI_0 z⟩)
  refine D_isBlank hb (by omega) (by omega) (by omega) (fun c3 => ⟨fun z => absurd z (by decide), fun _ => ?_⟩) (fun c3 => ⟨fun _ => ⟨Or.inl rfl, H0 h (fun g q => c3 q.2.2.1) (fun _ _ _ => rfl)⟩, fun z => absurd wI_0 z⟩)
  refine D_get4 hb (by omega) (by omega) ?_
  rw [wI_wI]
  by_cases c4 : 2 ≤ u4 (h 3) (a + 24) ∧ u4 (h 3) (a + 24) ≤ 128 ∧ u4 (h 3) (a + 24) % 2 = 0
  · rw [wI_id (z := u4 (h 3) (a + 24)) (by omega) (by omega), tmod_pos (by omega), wI_id (z := u4 (h 3) (a + 24) % 2) (by omega) (by omega)]
    refine ⟨fun z => by omega, fun _ => ⟨fun z => by omega, fun _ => ⟨by decide, fun _ => ?_, fun z => absurd c4.2.2 z⟩⟩⟩
    have z4 := zer4 hb (show 0 ≤ a + 28 by omega) (show a + 28 + 3 < 13824 by omega)
    rw [show a + 28 + 4 = a + 32 by omega] at z4
    refine D_isBlank hb (by omega) (by omega) (by omega) (fun c5 => ⟨fun z => absurd z (by decide), fun _ => ?_⟩) (fun c5 => ⟨fun _ => ⟨Or.inl rfl, H0 h (fun g q => c5 (z4.mpr q.2.2.2.2.1)) (fun _ _ _ => rfl)⟩, fun z => absurd wI_0 z⟩)
    refine D_get4 hb (by omega) (by omega) ?_
    refine H_meetSingle (M := M) hb hn hm u20 (fun b k1 k2 k3 k4 k5 => ?_) (fun k => ⟨fun _ => ⟨Or.inl rfl, H0 h (fun g q => k q.2.2.2.2.2.1) (fun _ _ _ => rfl)⟩, fun z => absurd wI_0 z⟩)
    refine ⟨fun z => absurd z (by decide), fun _ => ?_⟩
    have k1' := k1
    unfold clu at k1'
    rw [wI_id (z := u4 (h 3) (a + 20)) (by omega) (by omega)]
    have b3 : b 3 = h 3 := k5 3 (by decide)
    have hbb : By (b 3) := by rw [b3]; exact hb
    apply q_S_address
    have ks : RunsI G 21 [vR 1, vI (1024 + 128 * (u4 (h 3) (a + 20) - 2)), vI (((u4 (h 3) (a + 24)).toNat : Nat) : Int)] b (fun r9 h9 => RunsI G 56 [vR 1, vI (a + 4)] h9 (fun r10 h10 => (wI r9 = wI r10 → RunsI G 109 [vI (u4 (h 3) (a + 20))] h10 (fun r11 h11 => RunsI G 18 [vR 8, vI r11, vI (2 * (((u4 (h 3) (a + 24) / 2).toNat : Nat) : Int))] h11 (fun r12 h12 => ((r12 = 0 ∨ r12 = 1) ∧ P r12 h12)))) ∧ (¬ wI r9 = wI r10 → (((0 : Int) = 0 ∨ (0 : Int) = 1) ∧ P 0 h10)))) := by
      refine K_sum hbb (by omega) (by omega) (fun r er => ?_)
      refine D_get4 hbb (by omega) (by omega) ?_
      rw [b3] at er ⊢
      have sr := sm4_rng 0 (h 3) (ca (u4 (h 3) (a + 20))) (u4 (h 3) (a + 24)).toNat
      have er' : r % 4294967296 = sm4 0 (h 3) (ca (u4 (h 3) (a + 20))) (u4 (h 3) (a + 24)).toNat := er
      have eqi : wI r = wI (wI (u4 (h 3) (a + 4))) ↔ sm4 0 (h 3) (ca (u4 (h 3) (a + 20))) (u4 (h 3) (a + 24)).toNat = u4 (h 3) (a + 4) := by
        rw [wI_wI, ← er']
        unfold wI
        omega
      rw [eqi]
      refine ⟨fun c6 => ?_, fun c6 => ⟨Or.inl rfl, H0 b (fun g q => c6 q.2.2.2.2.2.2.1) (fun o p _ => k5 o p)⟩⟩
      apply q_S_address
      refine K_learn hbb (by omega) (by omega) (by omega) (fun b2 g l1 l2 l3 l4 => ⟨Or.inr rfl, H1 b2 g ?_ l2 l3 ?_ (fun o p q => (l4 o q).trans (k5 o p))⟩) (fun b2 l1 l4 => ⟨Or.inl rfl, H0 b2 (fun g q => l1 g ?_) (fun o p q => (l4 o q).trans (k5 o p))⟩)
      · rw [b3] at l1
        exact ⟨c1, c2, c3, c4, z4.mp c5, ⟨k1, k2, k3⟩, c6, l1⟩
      · rw [l4 24 (by decide)]; exact k4
      · rw [b3]; exact q.2.2.2.2.2.2.2
    rw [show (((u4 (h 3) (a + 24)).toNat : Nat) : Int) = u4 (h 3) (a + 24) by omega, show 2 * (((u4 (h 3) (a + 24) / 2).toNat : Nat) : Int) = u4 (h 3) (a + 24) by omega] at ks
    exact ks
  · have no : P 0 h := H0 h (fun g q => c4 q.2.2.2.1) (fun _ _ _ => rfl)
    refine ⟨fun z => ⟨Or.inl rfl, no⟩, fun z => ⟨fun z2 => ⟨Or.inl rfl, no⟩, fun z2 => ⟨by decide, fun z3 => ?_, fun z3 => ⟨Or.inl rfl, no⟩⟩⟩⟩
    exfalso
    have e : wI (u4 (h 3) (a + 24)) = u4 (h 3) (a + 24) := by unfold wI at z z2 ⊢; omega
    rw [e] at z z2 z3
    rw [tmod_pos (by omega), wI_id (z := u4 (h 3) (a + 24) % 2) (by omega) (by omega)] at z3
    omega
end BASE
