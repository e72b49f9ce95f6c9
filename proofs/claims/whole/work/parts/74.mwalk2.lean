/-! the walk: the reference, a SET -/
def WR (B O M D : Prop) (md r : Int) : Prop := (r = 6 ∧ (B ∨ (O ∧ md = 0))) ∨ (r = 7 ∧ ¬ (B ∨ (O ∧ md = 0)) ∧ (M ∨ (O ∧ D))) ∨ (¬ (B ∨ (O ∧ md = 0)) ∧ ¬ (M ∨ (O ∧ D)) ∧ ((r = 66 ∧ O) ∨ (r = 0 ∧ ¬ O)))
theorem ea_cg {r r' : Nat → Int} {K : Nat} (h : ∀ i, i < K → r i = r' i) {q : Int} (h0 : 0 ≤ q) (h1 : q < 4 * K) : ea r q = ea r' q := by unfold ea; rw [h _ (by omega)]
theorem SetOK_row {f g : Nat → Int} {n : Int} {r r' : Nat → Int} {K : Nat} (h : ∀ i, i < K → r i = r' i) {q : Int} (h0 : 0 ≤ q) (h1 : q < 4 * K) : SetOK f g n (ea r q) (ea r (q + 2)) (4 * K - q) ↔ SetOK f g n (ea r' q) (ea r' (q + 2)) (4 * K - q) := by
  by_cases c : q + 2 < 4 * K
  · rw [ea_cg h h0 h1, ea_cg h (show 0 ≤ q + 2 by omega) c]
  · refine ⟨fun z => ?_, fun z => ?_⟩
    · have := SetOK_3 z
      omega
    · have := SetOK_3 z
      omega
theorem uns_cg {w f r r' : Nat → Int} {e : Int} : ∀ (m : Nat), (∀ i : Nat, i < m → ea r (e + i) = ea r' (e + i)) → uns w f r e m = uns w f r' e m
  | 0, _ => rfl
  | m + 1, h => by rw [uns, uns, uns_cg m (fun i hi => h i (by omega)), h m (by omega)]
theorem E_uns {w w' f r : Nat → Int} {e : Int} (h : E w w') : ∀ (m : Nat), E (uns w f r e m) (uns w' f r e m)
  | 0 => h
  | m + 1 => E_wb (E_uns h m) _ _ _
section MX
variable {G : GG} {h : AH} {f : Nat → Int}
theorem M_openEnd {P : Int → AH → Prop} {K : Nat} {c : Int} {M : Int → Prop} (hE : E (ub (h 35)) f) (hK : K ≤ 101) (e22 : h 34 22 = c) (hc : ∀ i, i < K → 2 ≤ tc f 0 c i ∧ tc f 0 c i ≤ 101) (mt : Mt (h 37) M)
    (H1 : ∀ h', ((∃ i, i < K ∧ M (tc f 0 c i)) ∨ ∃ i i', i < i' ∧ i' < K ∧ tc f 0 c i = tc f 0 c i') → (∀ o, o ≠ 51 → h' o = h o) → P 7 h')
    (H0 : ∀ h', ¬ ((∃ i, i < K ∧ M (tc f 0 c i)) ∨ ∃ i i', i < i' ∧ i' < K ∧ tc f 0 c i = tc f 0 c i') → (∀ i, i < K → h' 51 i = tc f 0 c i) → (∀ o, o ≠ 51 → h' o = h o) → P 66 h') : RunsI G 216 [vR 34, vI (K : Int)] h P := by
  apply q_M_openEnd
  rw [e22]
  have key : ∀ (m i : Nat) (g : AH), i + m = K → (∀ j, j < i → ¬ M (tc f 0 c j)) → (∀ a a', a < a' → a' < i → tc f 0 c a ≠ tc f 0 c a') → (∀ j, j < i → g 51 j = tc f 0 c j) → (∀ o, o ≠ 51 → g o = h o) → Go G (pI P) 216 8 [some (vR 34), some (vI (K : Int)), some (vL (tc f 0 c i)), none, some (vI (i : Int)), none, none] [] g := by
    intro m
    induction m with
    | zero =>
      intro i g hm nm nd g51 ob
      apply q_M_openEnd_c8
      rw [wI_id (z := (K : Int)) (by omega) (by omega), wI_id (z := (i : Int)) (by omega) (by omega)]
      refine ⟨fun _ => H0 g (fun z => ?_) (fun j hj => g51 j (by omega)) ob, fun z => by omega⟩
      rcases z with ⟨j, j1, j2⟩ | ⟨a, a', a1, a2, a3⟩
      · exact nm j (by omega) j2
      · exact nd a a' a1 (by omega) a3
    | succ m ih =>
      intro i g hm nm nd g51 ob
      have ci := hc i (by omega)
      apply q_M_openEnd_c8
      rw [wI_id (z := (K : Int)) (by omega) (by omega), wI_id (z := (i : Int)) (by omega) (by omega), wI_id (z := tc f 0 c i) (by omega) (by omega)]
      refine ⟨fun z => by omega, fun _ => ⟨by omega, ?_⟩⟩
      rw [ob 37 (by decide)]
      have mi := mt (tc f 0 c i).toNat (by omega)
      rw [show (((tc f 0 c i).toNat : Nat) : Int) = tc f 0 c i by omega] at mi
      have inn : ∀ (d j : Nat) (x : Int), j + d = i → ((x = 1 ∧ (M (tc f 0 c i) ∨ ∃ a, a < j ∧ tc f 0 c a = tc f 0 c i)) ∨ (x = 0 ∧ ¬ M (tc f 0 c i) ∧ ∀ a, a < j → tc f 0 c a ≠ tc f 0 c i)) → Go G (pI P) 216 26 [some (vR 34), some (vI (K : Int)), some (vL (tc f 0 c i)), none, some (vI (i : Int)), some (vI x), some (vI (j : Int))] [] g := by
        intro d
        induction d with
        | zero =>
          intro j x hd hx
          have ej : j = i := (by omega)
          apply q_M_openEnd_c26
          rw [wI_id (z := (j : Int)) (by omega) (by omega), wI_id (z := (i : Int)) (by omega) (by omega)]
          refine ⟨fun _ => ?_, fun z => by omega⟩
          rcases hx with ⟨x1, x2⟩ | ⟨x1, x2, x3⟩
          · rw [x1]
            refine ⟨fun z => absurd z (by decide), fun _ => H1 g ?_ ob⟩
            rcases x2 with y | ⟨a, a1, a2⟩
            · exact Or.inl ⟨i, by omega, y⟩
            · exact Or.inr ⟨a, i, by omega, by omega, a2⟩
          · rw [x1]
            refine ⟨fun _ => ⟨by omega, ?_⟩, fun z => absurd wI_0 z⟩
            rw [show (i : Int).toNat = i by omega]
            refine M_fat (f := f) (by rw [hs_o _ _ _ _ _ (by decide), ob 35 (by decide)]; exact hE) (by omega) (by omega) ?_
            rw [show (i : Int) + 1 = ((i + 1 : Nat) : Int) by omega]
            refine ih (i + 1) _ (by omega) (fun j hj => ?_) (fun a a' p q => ?_) (fun j hj => ?_) (fun o p => by rw [hs_o _ _ _ _ _ p]; exact ob o p)
            · by_cases z : j = i
              · rw [z]; exact x2
              · exact nm j (by omega)
            · by_cases z : a' = i
              · rw [z]; exact x3 a (by omega)
              · exact nd a a' p (by omega)
            · rw [hs_app, if_pos rfl]
              by_cases z : j = i
              · rw [if_pos z, z]
              · rw [if_neg z]; exact g51 j (by omega)
        | succ d ihd =>
          intro j x hd hx
          have cj := hc j (by omega)
          apply q_M_openEnd_c26
          rw [wI_id (z := (j : Int)) (by omega) (by omega), wI_id (z := (i : Int)) (by omega) (by omega), show (j : Int).toNat = j by omega, g51 j (by omega), wI_id (z := tc f 0 c j) (by omega) (by omega), wI_id (z := tc f 0 c i) (by omega) (by omega)]
          refine ⟨fun z => by omega, fun _ => ⟨by omega, fun z => ?_, fun z => ?_⟩⟩
          · rw [show (j : Int) + 1 = ((j + 1 : Nat) : Int) by omega]
            refine ihd (j + 1) (bO x 1) (by omega) (Or.inl ⟨?_, Or.inr ⟨j, by omega, z⟩⟩)
            rcases hx with ⟨x1, _⟩ | ⟨x1, _⟩ <;> rw [x1]
            · exact bO01.2.2.2
            · exact bO01.2.1
          · rw [show (j : Int) + 1 = ((j + 1 : Nat) : Int) by omega]
            refine ihd (j + 1) (bO x 0) (by omega) ?_
            rcases hx with ⟨x1, x2⟩ | ⟨x1, x2, x3⟩
            · refine Or.inl ⟨by rw [x1]; exact bO01.2.2.1, ?_⟩
              rcases x2 with y | ⟨a, a1, a2⟩
              · exact Or.inl y
              · exact Or.inr ⟨a, by omega, a2⟩
            · refine Or.inr ⟨by rw [x1]; exact bO01.1, x2, fun a ha => ?_⟩
              by_cases y : a = j
              · rw [y]; exact z
              · exact x3 a (by omega)
      refine inn i 0 _ (by omega) ?_
      by_cases y : M (tc f 0 c i)
      · exact Or.inl ⟨mi.1 y, Or.inl y⟩
      · exact Or.inr ⟨mi.2 y, y, fun a ha => by omega⟩
  exact key K 0 h (by omega) (fun j hj => by omega) (fun a a' p q => by omega) (fun j hj => by omega) (fun _ _ => rfl)
theorem M_clustersWrong {P : Int → AH → Prop} {K : Nat} {L c b md : Int} {M : Int → Prop} (hE : E (ub (h 35)) f) (hf : By f) (hn : 16 ≤ h 34 0 ∧ h 34 0 ≤ 100) (hL : 0 ≤ L ∧ L ≤ 12800) (hK : K = ((L + 127) / 128).toNat) (e21 : h 34 21 = L) (e22 : h 34 22 = c) (e23 : h 34 23 = b) (e35 : h 34 35 = md) (m01 : md = 0 ∨ md = 1) (b01 : b = 0 ∨ b = 1) (b1 : b = 1 → 0 < K ∧ 2 ≤ c) (hc : 0 ≤ c ∧ c < 4294967296) (mt : Mt (h 37) M)
    (H : ∀ h' r, WR (∃ i, i < K ∧ ¬ clu (h 34 0) (tc f b c i)) (b = 0 ∧ 0 < K ∧ tc f b c K ≠ 4294967295) (∃ i, i < K ∧ M (tc f b c i)) (∃ i i', i < i' ∧ i' < K ∧ tc f b c i = tc f b c i') md r → (r = 66 → ∀ i, i < K → h' 51 i = tc f b c i) → (∀ o, o ≠ 51 → h' o = h o) → P r h') : RunsI G 215 [vR 34] h P := by
  generalize en : h 34 0 = n at hn H
  have K1 : K ≤ 101 := (by omega)
  apply q_M_clustersWrong
  rw [e21, e22, e23, en, wL_id (z := L + 127) (by omega) (by omega), tdiv_pos (by omega), show (L + 127) / 128 = (K : Int) by omega, wI_id (z := b) (by omega) (by omega), wI_id (z := (K : Int)) (by omega) (by omega), wI_id (z := n + 1) (by omega) (by omega), wL_id (z := n + 1) (by omega) (by omega), wL_id (z := c + (K : Int) - 1) (by omega) (by omega)]
  refine ⟨by decide, ?_⟩
  have six : ((∃ i, i < K ∧ ¬ clu n (tc f b c i)) ∨ ((b = 0 ∧ 0 < K ∧ tc f b c K ≠ 4294967295) ∧ md = 0)) → P 6 h := fun z => H h 6 (Or.inl ⟨rfl, z⟩) (fun q => absurd q (by decide)) (fun _ _ => rfl)
  have l138 : (∀ i, i < K → clu n (tc f b c i)) → ¬ (b = 0 ∧ 0 < K ∧ tc f b c K ≠ 4294967295) → ∀ (m i : Nat), i + m = K → (∀ j, j < i → ¬ M (tc f b c j)) → Go G (pI P) 215 138 [some (vR 34), some (vI (K : Int)), some (vL (tc f b c i)), none, some (vI (i : Int))] [] h := by
    intro cl no m
    have nbo : ¬ ((∃ i, i < K ∧ ¬ clu n (tc f b c i)) ∨ ((b = 0 ∧ 0 < K ∧ tc f b c K ≠ 4294967295) ∧ md = 0)) := fun z => z.elim (fun ⟨i, i1, i2⟩ => i2 (cl i i1)) (fun z => no z.1)
    induction m with
    | zero =>
      intro i hm nm
      apply q_M_clustersWrong_c138
      rw [wI_id (z := (K : Int)) (by omega) (by omega), wI_id (z := (i : Int)) (by omega) (by omega)]
      refine ⟨fun _ => H h 0 (Or.inr (Or.inr ⟨nbo, fun z => ?_, Or.inr ⟨rfl, no⟩⟩)) (fun q => absurd q (by decide)) (fun _ _ => rfl), fun z => by omega⟩
      rcases z with ⟨j, j1, j2⟩ | z
      · exact nm j (by omega) j2
      · exact no z.1
    | succ m ih =>
      intro i hm nm
      have ci := cl i (by omega)
      unfold clu at ci
      have mi := mt (tc f b c i).toNat (by omega)
      rw [show (((tc f b c i).toNat : Nat) : Int) = tc f b c i by omega] at mi
      apply q_M_clustersWrong_c138
      rw [wI_id (z := (K : Int)) (by omega) (by omega), wI_id (z := (i : Int)) (by omega) (by omega), wI_id (z := tc f b c i) (by omega) (by omega), e23, wI_id (z := b) (by omega) (by omega)]
      refine ⟨fun z => by omega, fun _ => ⟨by omega, ?_⟩⟩
      by_cases y : M (tc f b c i)
      · rw [mi.1 y]
        exact ⟨fun z => absurd z (by decide), fun _ => H h 7 (Or.inr (Or.inl ⟨rfl, nbo, Or.inl ⟨i, by omega, y⟩⟩)) (fun q => absurd q (by decide)) (fun _ _ => rfl)⟩
      · rw [mi.2 y]
        have nx := ih (i + 1) (by omega) (fun j hj => by
          by_cases z : j = i
          · rw [z]; exact y
          · exact nm j (by omega))
        rw [show ((i + 1 : Nat) : Int) = (i : Int) + 1 by omega] at nx
        refine ⟨fun _ => ⟨fun z => ?_, fun z => ?_⟩, fun z => absurd wI_0 z⟩
        · refine M_fat hE (by omega) (by omega) ?_
          have e : tc f b c (i + 1) = ft f (tc f b c i) := by
            show nxt f b _ = _
            unfold nxt
            rw [if_neg (by omega)]
          rw [e] at nx
          exact nx
        · have e : tc f b c (i + 1) = tc f b c i + 1 := by
            show nxt f b _ = _
            unfold nxt
            rw [if_pos (by omega)]
          rw [e] at nx
          exact nx
  have l93 : (∀ i, i < K → clu n (tc f b c i)) → ∀ y : Int, (b = 0 → y = tc f b c K) → Go G (pI P) 215 93 [some (vR 34), some (vI (K : Int)), some (vL y), none, none] [] h := by
    intro cl y hy
    apply q_M_clustersWrong_c93
    rw [e22, e23, e35, wI_id (z := b) (by omega) (by omega), wI_id (z := (K : Int)) (by omega) (by omega), wI_id (z := md) (by omega) (by omega)]
    refine ⟨fun b0 => ?_, fun b0 => l138 cl (fun z => b0 z.1) K 0 (by omega) (fun j hj => by omega)⟩
    rw [hy b0]
    have rK : 0 ≤ tc f b c K ∧ tc f b c K < 4294967296 := by
      rcases Nat.eq_zero_or_pos K with q | q
      · rw [q]; exact hc
      · have e : tc f b c K = ft f (tc f b c (K - 1)) := by
          rw [show tc f b c K = tc f b c (K - 1 + 1) by rw [show K - 1 + 1 = K by omega]]
          show nxt f b _ = _
          unfold nxt
          rw [if_neg (by omega)]
        have := cl (K - 1) (by omega)
        unfold clu at this
        rw [e]
        exact ft_rng hf (by omega) (by omega)
    rw [wL_id (z := tc f b c K) (by omega) (by omega)]
    refine ⟨fun z => l138 cl (fun y => by omega) K 0 (by omega) (fun j hj => by omega), fun z => ⟨fun y => l138 cl (fun x => x.2.2 y) K 0 (by omega) (fun j hj => by omega), fun y => ⟨fun w => six (Or.inr ⟨⟨b0, by omega, y⟩, w⟩), fun w => ?_⟩⟩⟩
    have O : b = 0 ∧ 0 < K ∧ tc f b c K ≠ 4294967295 := ⟨b0, by omega, y⟩
    have nbo : ¬ ((∃ i, i < K ∧ ¬ clu n (tc f b c i)) ∨ ((b = 0 ∧ 0 < K ∧ tc f b c K ≠ 4294967295) ∧ md = 0)) := fun z => z.elim (fun ⟨i, i1, i2⟩ => i2 (cl i i1)) (fun z => w z.2)
    subst b0
    refine M_openEnd hE K1 e22 (fun i hi => by have := cl i hi; unfold clu at this; omega) mt (fun h' q fr => H h' 7 (Or.inr (Or.inl ⟨rfl, nbo, ?_⟩)) (fun q => absurd q (by decide)) fr) (fun h' q g51 fr => H h' 66 (Or.inr (Or.inr ⟨nbo, fun z => q ?_, Or.inl ⟨rfl, O⟩⟩)) (fun _ => g51) fr)
    · exact q.elim Or.inl (fun q => Or.inr ⟨O, q⟩)
    · exact z.elim Or.inl (fun z => Or.inr z.2)
  refine ⟨fun b0 => ?_, fun b0 => ?_⟩
  · have key : ∀ (m i : Nat), i + m = K → (0 ≤ tc f b c i ∧ tc f b c i < 4294967296) → (∀ j, j < i → clu n (tc f b c j)) → Go G (pI P) 215 52 [some (vR 34), some (vI (K : Int)), some (vL (tc f b c i)), none, some (vI (i : Int))] [] h := by
      intro m
      induction m with
      | zero =>
        intro i hm rg cl
        apply q_M_clustersWrong_c52
        rw [wI_id (z := (K : Int)) (by omega) (by omega), wI_id (z := (i : Int)) (by omega) (by omega)]
        refine ⟨fun _ => ?_, fun z => by omega⟩
        have ei : i = K := (by omega)
        rw [ei] at cl
        rw [ei]
        exact l93 cl _ (fun _ => rfl)
      | succ m ih =>
        intro i hm rg cl
        apply q_M_clustersWrong_c52
        rw [wI_id (z := (K : Int)) (by omega) (by omega), wI_id (z := (i : Int)) (by omega) (by omega), e23, wI_id (z := b) (by omega) (by omega)]
        refine ⟨fun z => by omega, fun _ => ⟨fun _ => ?_, fun z => absurd b0 z⟩⟩
        refine M_isCluster (by rw [en]; exact hn) (by omega) (fun k => ⟨fun z => absurd z (by decide), fun _ => ?_⟩) (fun k => ⟨fun _ => six (Or.inl ⟨i, by omega, by rw [en] at k; exact k⟩), fun z => absurd wI_0 z⟩)
        rw [en] at k
        refine M_fat hE (by omega) (by omega) ?_
        have e : tc f b c (i + 1) = ft f (tc f b c i) := by
          show nxt f b _ = _
          unfold nxt
          rw [if_neg (by omega)]
        have nx := ih (i + 1) (by omega) (by rw [e]; exact ft_rng hf (by omega) (by omega)) (fun j hj => by
          by_cases z : j = i
          · rw [z]; exact k
          · exact cl j (by omega))
        rw [e, show ((i + 1 : Nat) : Int) = (i : Int) + 1 by omega] at nx
        exact nx
    exact key K 0 (by omega) hc (fun j hj => by omega)
  · have b1' := b1 (by omega)
    have eb : b = 1 := (by omega)
    have t1 : ∀ i, tc f b c i = c + i := fun i => by rw [eb]; exact tc_1 f c i
    refine ⟨fun z => ?_, fun z => six (Or.inl ⟨K - 1, by omega, fun q => ?_⟩)⟩
    · apply q_M_clustersWrong_c52
      rw [wI_id (z := (K : Int)) (by omega) (by omega), wI_0, e23, wI_id (z := b) (by omega) (by omega)]
      have cl : ∀ i, i < K → clu n (tc f b c i) := fun i hi => by rw [t1 i]; unfold clu; omega
      exact ⟨fun y => by omega, fun _ => ⟨fun y => absurd y b0, fun _ => l93 cl c (fun y => absurd y b0)⟩⟩
    · rw [t1] at q
      unfold clu at q
      omega
theorem M_isLike {P : Int → AH → Prop} {q m : Int} {nm : Nat → Int} (h5 : Sb (h 35)) (hE : E (ub (h 35)) f) (hn : 16 ≤ h 34 0 ∧ h 34 0 ≤ 100) (h0 : 0 ≤ q) (hk : h 34 17 ≤ 102) (he : q < 4 * h 34 17) (hr : ∀ i : Nat, (i : Int) < h 34 17 → 2 ≤ h 39 i ∧ h 39 i ≤ 101) (hg : Gr (h 38)) (ev : q % 2 = 0) (ok : SetOK f (h 38) (h 34 0) (ea (h 39) q) (ea (h 39) (q + 2)) (4 * h 34 17 - q)) (e38 : h 34 38 = m) (hm : 0 ≤ m ∧ m ≤ 30) (e50 : ∀ i : Nat, (i : Int) < m → h 50 i = nm i) (nr : ∀ i : Nat, (i : Int) < m → 0 ≤ nm i ∧ nm i < 256)
    (H1 : ∀ h', (rd f (ea (h 39) q + 35) = m ∧ ∀ i : Nat, (i : Int) < m → h 38 (lt f (ea (h 39) (q + 2)) i).toNat = h 38 (nm i).toNat) → FZ h h' → P 1 h')
    (H0 : ∀ h', ¬ (rd f (ea (h 39) q + 35) = m ∧ ∀ i : Nat, (i : Int) < m → h 38 (lt f (ea (h 39) (q + 2)) i).toNat = h 38 (nm i).toNat) → FZ h h' → P 0 h') : RunsI G 219 [vR 34, vI q] h P := by
  apply q_M_isLike
  refine M_isSet h5 hE hn h0 hk he hr hg (fun b _ _ rs fz => ?_) (fun b no fz => absurd ⟨ev, ok⟩ no)
  have b38 : b 34 38 = m := by rw [fz.1 38 (by decide) (by decide) (by decide) (by decide) (by decide) (by decide)]; exact e38
  have b50 : ∀ i : Nat, (i : Int) < m → b 50 i = nm i := fun i hi => by rw [fz.2 50 (by decide) (by decide)]; exact e50 i hi
  have g38 : b 38 = h 38 := fz.2 38 (by decide) (by decide)
  have n30 := ok.2.2.2.1.1
  have n1 := ok.2.2.2.1.2.2.1.1
  refine ⟨fun z => absurd z (by decide), fun _ => ?_⟩
  rw [b38, rs.2.1, wI_id (z := rd f (ea (h 39) q + 35)) (by omega) (by omega), wI_id (z := m) (by omega) (by omega)]
  refine ⟨fun c => ?_, fun c => ?_⟩
  · have key : ∀ (d j : Nat) (x : Int), (j : Int) + d = m → ((x = 1 ∧ ∀ i : Nat, i < j → h 38 (lt f (ea (h 39) (q + 2)) i).toNat = h 38 (nm i).toNat) ∨ (x = 0 ∧ ∃ i : Nat, (i : Int) < m ∧ h 38 (lt f (ea (h 39) (q + 2)) i).toNat ≠ h 38 (nm i).toNat)) → Go G (pI P) 219 27 [some (vR 34), none, some (vI x), some (vI (j : Int))] [] b := by
      intro d
      induction d with
      | zero =>
        intro j x hd hx
        apply q_M_isLike_c27
        rw [b38, wI_id (z := (j : Int)) (by omega) (by omega), wI_id (z := m) (by omega) (by omega)]
        refine ⟨fun _ => ?_, fun z => by omega⟩
        rcases hx with ⟨x1, x2⟩ | ⟨x1, i, x2, x3⟩
        · rw [x1]; exact ⟨Or.inr rfl, H1 b ⟨c, fun i hi => x2 i (by omega)⟩ fz⟩
        · rw [x1]; exact ⟨Or.inl rfl, H0 b (fun z => x3 (z.2 i x2)) fz⟩
      | succ d ih =>
        intro j x hd hx
        apply q_M_isLike_c27
        rw [b38, wI_id (z := (j : Int)) (by omega) (by omega), wI_id (z := m) (by omega) (by omega)]
        refine ⟨fun z => by omega, fun _ => ?_⟩
        rcases hx with ⟨x1, x2⟩ | ⟨x1, i, x2, x3⟩
        · rw [x1]
          refine ⟨fun z => absurd z (by decide), fun _ => ?_⟩
          have l := isLet_rng (ok.2.2.2.1.2.2.1.2.2.1 j (by omega))
          have nj := nr j (by omega)
          rw [show (j : Int).toNat = j by omega, rs.2.2.2.2.2.2 j (by omega), b50 j (by omega), g38, wI_id (z := lt f (ea (h 39) (q + 2)) j) (by omega) (by omega), wI_id (z := nm j) (by omega) (by omega)]
          have g1 := hg (lt f (ea (h 39) (q + 2)) j).toNat (by omega)
          have g2 := hg (nm j).toNat (by omega)
          rw [wI_id (z := h 38 (lt f (ea (h 39) (q + 2)) j).toNat) (by omega) (by omega), wI_id (z := h 38 (nm j).toNat) (by omega) (by omega), show (j : Int) + 1 = ((j + 1 : Nat) : Int) by omega]
          refine ⟨by omega, by omega, by omega, by omega, fun z => ?_, fun z => ?_⟩
          · refine ih (j + 1) 1 (by omega) (Or.inl ⟨rfl, fun i hi => ?_⟩)
            by_cases y : i = j
            · rw [y]; exact z
            · exact x2 i (by omega)
          · exact ih (j + 1) 0 (by omega) (Or.inr ⟨rfl, j, by omega, z⟩)
        · rw [x1]
          exact ⟨fun _ => ⟨Or.inl rfl, H0 b (fun z => x3 (z.2 i x2)) fz⟩, fun z => absurd wI_0 z⟩
    exact key m.toNat 0 1 (by omega) (Or.inl ⟨rfl, fun i hi => by omega⟩)
  · apply q_M_isLike_c27
    rw [b38, wI_0, wI_id (z := m) (by omega) (by omega)]
    exact ⟨fun _ => ⟨Or.inl rfl, H0 b (fun z => c z.1) fz⟩, fun _ => ⟨fun _ => ⟨Or.inl rfl, H0 b (fun z => c z.1) fz⟩, fun z => absurd rfl z⟩⟩
theorem M_wrong0 {P : Int → AH → Prop} {F e m : Int} (e35 : h 34 35 = 0) (h0 : 0 ≤ e) (h1 : e < 408) (H : ∀ h', h' 34 9 = F → h' 34 10 = h 39 (e / 4).toNat → h' 34 11 = e % 4 → (∀ k, ¬ (9 ≤ k ∧ k ≤ 11) → h' 34 k = h 34 k) → (∀ o, o ≠ 34 → h' o = h o) → P 0 h') : RunsI G 222 [vR 34, vI F, vI e, vI m] h P := by
  apply q_M_wrong
  rw [e35, wI_id (z := e) (by omega) (by omega), tdiv_pos h0, tmod_pos h0, wI_id (z := e / 4) (by omega) (by omega)]
  refine ⟨fun _ => ⟨by decide, by omega, by decide, ?_⟩, fun z => absurd wI_0 z⟩
  apply q_M_meets
  refine ⟨Or.inl rfl, Or.inl rfl, H _ ?_ ?_ ?_ (fun k hk => ?_) (fun o p => ?_)⟩
  · rw [hs_k _ _ _ _ _ (by decide), hs_k _ _ _ _ _ (by decide), hs_same]
  · rw [hs_k _ _ _ _ _ (by decide), hs_same]
  · rw [hs_same]
  · rw [hs_k _ _ _ _ _ (by omega), hs_k _ _ _ _ _ (by omega), hs_k _ _ _ _ _ (by omega)]
  · rw [hs_o _ _ _ _ _ p, hs_o _ _ _ _ _ p, hs_o _ _ _ _ _ p]
theorem M_wrong1 {P : Int → AH → Prop} {F e : Int} {m : Nat} (hE : E (ub (h 35)) f) (h6 : Sb (h 36)) (e35 : h 34 35 = 1) (h0 : 0 ≤ e) (h1 : e + m ≤ 408) (hm : m ≤ 4) (hr : ∀ i : Nat, i < m → 2 ≤ h 39 ((e + i) / 4).toNat ∧ h 39 ((e + i) / 4).toNat ≤ 101) (H : ∀ h', Sb (h' 36) → ub (h' 36) = uns (ub (h 36)) f (h 39) e m → h' 34 36 = h 34 36 + 1 → (∀ k, k ≠ 36 → h' 34 k = h 34 k) → (∀ o, o ≠ 34 → o ≠ 36 → h' o = h o) → P 1 h') : RunsI G 222 [vR 34, vI F, vI e, vI (m : Int)] h P := by
  have hf : By f := hE.by (ub_By _)
  apply q_M_wrong
  rw [e35]
  refine ⟨fun z => absurd z (by decide), fun _ => ?_⟩
  have key : ∀ (d i : Nat) (b : AH), i + d = m → Sb (b 36) → ub (b 36) = uns (ub (h 36)) f (h 39) e i → b 34 36 = h 34 36 + 1 → (∀ k, k ≠ 36 → b 34 k = h 34 k) → (∀ o, o ≠ 34 → o ≠ 36 → b o = h o) → Go G (pI P) 222 37 [some (vR 34), none, some (vI e), some (vI (m : Int)), some (vI (i : Int)), none] [] b := by
    intro d
    induction d with
    | zero =>
      intro i b hd b6 bu m4 k4 ob
      apply q_M_wrong_c37
      rw [wI_id (z := (m : Int)) (by omega) (by omega), wI_id (z := (i : Int)) (by omega) (by omega)]
      rw [show i = m by omega] at bu
      exact ⟨fun _ => ⟨Or.inr rfl, H b b6 bu m4 k4 ob⟩, fun z => by omega⟩
    | succ d ih =>
      intro i b hd b6 bu m4 k4 ob
      have ri := hr i (by omega)
      have er := ea_rng (r := h 39) (e := e + i) (by omega) ri
      have bt := hf.rd (show 0 ≤ ea (h 39) (e + i) by omega) (show ea (h 39) (e + i) < 13824 by omega)
      apply q_M_wrong_c37
      rw [wI_id (z := (m : Int)) (by omega) (by omega), wI_id (z := (i : Int)) (by omega) (by omega)]
      refine ⟨fun z => by omega, fun _ => ?_⟩
      have e39 : b 39 = h 39 := ob 39 (by decide) (by decide)
      refine M_typeOf (f := f) (by rw [ob 35 (by decide) (by decide)]; exact hE) (by omega) (by omega) (by rw [e39]; exact ri) ?_
      rw [e39, wI_id (z := rd f (ea (h 39) (e + i)) - 128) (by omega) (by omega), show (i : Int) + 1 = ((i + 1 : Nat) : Int) by omega]
      have fin : ∀ v, v = un (rd f (ea (h 39) (e + i))) → RunsV G 221 [vR 34, vI (e + i), vI v] b (fun h3 => Go G (pI P) 222 37 [some (vR 34), none, some (vI e), some (vI (m : Int)), some (vI ((i + 1 : Nat) : Int)), none] [] h3) := by
        intro v hv
        refine M_wantType b6 (by omega) (by omega) (by rw [e39]; exact ri) (fun b2 s2 u2 o2 => ih (i + 1) b2 (by omega) s2 ?_ (by rw [o2 34 (by decide)]; exact m4) (fun k hk => by rw [o2 34 (by decide)]; exact k4 k hk) (fun o p q => (o2 o q).trans (ob o p q)))
        rw [u2, e39, hv, bu]
        rfl
      refine ⟨fun z => fin 1 ?_, fun z => fin _ ?_⟩
      · unfold un; rw [if_pos (by omega)]
      · unfold un; rw [if_neg (by omega)]
  exact key m 0 _ (by omega) (by rw [hs_o _ _ _ _ _ (by decide)]; exact h6) (by rw [hs_o _ _ _ _ _ (by decide)]; rfl) (hs_same _ _ _ _) (fun k hk => hs_k _ _ _ _ _ hk) (fun o p _ => hs_o _ _ _ _ _ p)
end MX
