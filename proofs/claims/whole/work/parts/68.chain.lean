/-! rows of CLUSTERS: the class -/
/-- thing o with array a holds the row r of K -/
def Ro (h : AH) (o a K : Nat) (r : Nat → Int) : Prop := h o 1 = (K : Int) ∧ K ≤ 102 ∧ ∀ i, i < K → h a i = r i
section CHAIN
variable {G : GG} {h : AH}
theorem C_add_15 {P : AH → Prop} {x : Int} {K : Nat} {r : Nat → Int} (hr : Ro h 15 16 K r) (hk : K < 102) (H : ∀ h', Ro h' 15 16 (K + 1) (st r K x) → (∀ o, o ≠ 15 → o ≠ 16 → h' o = h o) → P h') : RunsV G 25 [vR 15, vI x] h P := by
  apply q_C_add_15
  obtain ⟨e1, e2, e3⟩ := hr
  rw [e1, wI_id (z := (K : Int)) (by omega) (by omega)]
  refine ⟨fun c => by omega, fun _ => ⟨by omega, H _ ⟨?_, hk, fun i hi => ?_⟩ (fun o p q => by rw [hs_o _ _ _ _ _ q, hs_o _ _ _ _ _ p])⟩⟩
  · rw [hs_o _ _ _ _ _ (by decide), hs_same]
    omega
  · rw [hs_app, if_pos rfl, show (K : Int).toNat = K by omega]
    by_cases q : i = K
    · rw [if_pos q, q, st_s]
    · rw [if_neg q, st_n _ _ q, hs_o _ _ _ _ _ (by decide)]
      exact e3 i (by omega)
theorem C_at_15 {P : Int → AH → Prop} {x : Int} {K : Nat} {r : Nat → Int} (hr : Ro h 15 16 K r) (h0 : 0 ≤ x) (h1 : x < K) (H : P (r x.toNat) h) : RunsI G 26 [vR 15, vI x] h P := by
  apply q_C_at_15
  obtain ⟨e1, e2, e3⟩ := hr
  rw [e1, wI_id (z := (K : Int)) (by omega) (by omega), wI_id (z := x) (by omega) (by omega)]
  refine ⟨fun c => by omega, fun _ => ⟨fun c => by omega, fun _ => ⟨fun c => by omega, fun _ => ⟨by omega, ?_⟩⟩⟩⟩
  rw [e3 _ (by omega)]
  exact H
theorem C_at0_15 {P : Int → AH → Prop} {x : Int} {K : Nat} {r : Nat → Int} (hr : Ro h 15 16 K r) (h0 : -2 ≤ x ∧ x ≤ 1000) (h1 : x < 0 ∨ (K : Int) ≤ x) (H : P 0 h) : RunsI G 26 [vR 15, vI x] h P := by
  apply q_C_at_15
  obtain ⟨e1, e2, e3⟩ := hr
  rw [e1, wI_id (z := (K : Int)) (by omega) (by omega), wI_id (z := x) (by omega) (by omega)]
  refine ⟨fun c => H, fun _ => ⟨fun c => H, fun _ => ⟨fun c => H, fun _ => by omega⟩⟩⟩
theorem C_add_18 {P : AH → Prop} {x : Int} {K : Nat} {r : Nat → Int} (hr : Ro h 18 19 K r) (hk : K < 102) (H : ∀ h', Ro h' 18 19 (K + 1) (st r K x) → (∀ o, o ≠ 18 → o ≠ 19 → h' o = h o) → P h') : RunsV G 25 [vR 18, vI x] h P := by
  apply q_C_add_18
  obtain ⟨e1, e2, e3⟩ := hr
  rw [e1, wI_id (z := (K : Int)) (by omega) (by omega)]
  refine ⟨fun c => by omega, fun _ => ⟨by omega, H _ ⟨?_, hk, fun i hi => ?_⟩ (fun o p q => by rw [hs_o _ _ _ _ _ q, hs_o _ _ _ _ _ p])⟩⟩
  · rw [hs_o _ _ _ _ _ (by decide), hs_same]
    omega
  · rw [hs_app, if_pos rfl, show (K : Int).toNat = K by omega]
    by_cases q : i = K
    · rw [if_pos q, q, st_s]
    · rw [if_neg q, st_n _ _ q, hs_o _ _ _ _ _ (by decide)]
      exact e3 i (by omega)
theorem C_at_18 {P : Int → AH → Prop} {x : Int} {K : Nat} {r : Nat → Int} (hr : Ro h 18 19 K r) (h0 : 0 ≤ x) (h1 : x < K) (H : P (r x.toNat) h) : RunsI G 26 [vR 18, vI x] h P := by
  apply q_C_at_18
  obtain ⟨e1, e2, e3⟩ := hr
  rw [e1, wI_id (z := (K : Int)) (by omega) (by omega), wI_id (z := x) (by omega) (by omega)]
  refine ⟨fun c => by omega, fun _ => ⟨fun c => by omega, fun _ => ⟨fun c => by omega, fun _ => ⟨by omega, ?_⟩⟩⟩⟩
  rw [e3 _ (by omega)]
  exact H
theorem C_at0_18 {P : Int → AH → Prop} {x : Int} {K : Nat} {r : Nat → Int} (hr : Ro h 18 19 K r) (h0 : -2 ≤ x ∧ x ≤ 1000) (h1 : x < 0 ∨ (K : Int) ≤ x) (H : P 0 h) : RunsI G 26 [vR 18, vI x] h P := by
  apply q_C_at_18
  obtain ⟨e1, e2, e3⟩ := hr
  rw [e1, wI_id (z := (K : Int)) (by omega) (by omega), wI_id (z := x) (by omega) (by omega)]
  refine ⟨fun c => H, fun _ => ⟨fun c => H, fun _ => ⟨fun c => H, fun _ => by omega⟩⟩⟩
theorem C_add_20 {P : AH → Prop} {x : Int} {K : Nat} {r : Nat → Int} (hr : Ro h 20 21 K r) (hk : K < 102) (H : ∀ h', Ro h' 20 21 (K + 1) (st r K x) → (∀ o, o ≠ 20 → o ≠ 21 → h' o = h o) → P h') : RunsV G 25 [vR 20, vI x] h P := by
  apply q_C_add_20
  obtain ⟨e1, e2, e3⟩ := hr
  rw [e1, wI_id (z := (K : Int)) (by omega) (by omega)]
  refine ⟨fun c => by omega, fun _ => ⟨by omega, H _ ⟨?_, hk, fun i hi => ?_⟩ (fun o p q => by rw [hs_o _ _ _ _ _ q, hs_o _ _ _ _ _ p])⟩⟩
  · rw [hs_o _ _ _ _ _ (by decide), hs_same]
    omega
  · rw [hs_app, if_pos rfl, show (K : Int).toNat = K by omega]
    by_cases q : i = K
    · rw [if_pos q, q, st_s]
    · rw [if_neg q, st_n _ _ q, hs_o _ _ _ _ _ (by decide)]
      exact e3 i (by omega)
theorem C_at_20 {P : Int → AH → Prop} {x : Int} {K : Nat} {r : Nat → Int} (hr : Ro h 20 21 K r) (h0 : 0 ≤ x) (h1 : x < K) (H : P (r x.toNat) h) : RunsI G 26 [vR 20, vI x] h P := by
  apply q_C_at_20
  obtain ⟨e1, e2, e3⟩ := hr
  rw [e1, wI_id (z := (K : Int)) (by omega) (by omega), wI_id (z := x) (by omega) (by omega)]
  refine ⟨fun c => by omega, fun _ => ⟨fun c => by omega, fun _ => ⟨fun c => by omega, fun _ => ⟨by omega, ?_⟩⟩⟩⟩
  rw [e3 _ (by omega)]
  exact H
theorem C_at0_20 {P : Int → AH → Prop} {x : Int} {K : Nat} {r : Nat → Int} (hr : Ro h 20 21 K r) (h0 : -2 ≤ x ∧ x ≤ 1000) (h1 : x < 0 ∨ (K : Int) ≤ x) (H : P 0 h) : RunsI G 26 [vR 20, vI x] h P := by
  apply q_C_at_20
  obtain ⟨e1, e2, e3⟩ := hr
  rw [e1, wI_id (z := (K : Int)) (by omega) (by omega), wI_id (z := x) (by omega) (by omega)]
  refine ⟨fun c => H, fun _ => ⟨fun c => H, fun _ => ⟨fun c => H, fun _ => by omega⟩⟩⟩
theorem C_add_28 {P : AH → Prop} {x : Int} {K : Nat} {r : Nat → Int} (hr : Ro h 28 29 K r) (hk : K < 102) (H : ∀ h', Ro h' 28 29 (K + 1) (st r K x) → (∀ o, o ≠ 28 → o ≠ 29 → h' o = h o) → P h') : RunsV G 25 [vR 28, vI x] h P := by
  apply q_C_add_28
  obtain ⟨e1, e2, e3⟩ := hr
  rw [e1, wI_id (z := (K : Int)) (by omega) (by omega)]
  refine ⟨fun c => by omega, fun _ => ⟨by omega, H _ ⟨?_, hk, fun i hi => ?_⟩ (fun o p q => by rw [hs_o _ _ _ _ _ q, hs_o _ _ _ _ _ p])⟩⟩
  · rw [hs_o _ _ _ _ _ (by decide), hs_same]
    omega
  · rw [hs_app, if_pos rfl, show (K : Int).toNat = K by omega]
    by_cases q : i = K
    · rw [if_pos q, q, st_s]
    · rw [if_neg q, st_n _ _ q, hs_o _ _ _ _ _ (by decide)]
      exact e3 i (by omega)
theorem C_at_28 {P : Int → AH → Prop} {x : Int} {K : Nat} {r : Nat → Int} (hr : Ro h 28 29 K r) (h0 : 0 ≤ x) (h1 : x < K) (H : P (r x.toNat) h) : RunsI G 26 [vR 28, vI x] h P := by
  apply q_C_at_28
  obtain ⟨e1, e2, e3⟩ := hr
  rw [e1, wI_id (z := (K : Int)) (by omega) (by omega), wI_id (z := x) (by omega) (by omega)]
  refine ⟨fun c => by omega, fun _ => ⟨fun c => by omega, fun _ => ⟨fun c => by omega, fun _ => ⟨by omega, ?_⟩⟩⟩⟩
  rw [e3 _ (by omega)]
  exact H
theorem C_at0_28 {P : Int → AH → Prop} {x : Int} {K : Nat} {r : Nat → Int} (hr : Ro h 28 29 K r) (h0 : -2 ≤ x ∧ x ≤ 1000) (h1 : x < 0 ∨ (K : Int) ≤ x) (H : P 0 h) : RunsI G 26 [vR 28, vI x] h P := by
  apply q_C_at_28
  obtain ⟨e1, e2, e3⟩ := hr
  rw [e1, wI_id (z := (K : Int)) (by omega) (by omega), wI_id (z := x) (by omega) (by omega)]
  refine ⟨fun c => H, fun _ => ⟨fun c => H, fun _ => ⟨fun c => H, fun _ => by omega⟩⟩⟩
theorem C_add_30 {P : AH → Prop} {x : Int} {K : Nat} {r : Nat → Int} (hr : Ro h 30 31 K r) (hk : K < 102) (H : ∀ h', Ro h' 30 31 (K + 1) (st r K x) → (∀ o, o ≠ 30 → o ≠ 31 → h' o = h o) → P h') : RunsV G 25 [vR 30, vI x] h P := by
  apply q_C_add_30
  obtain ⟨e1, e2, e3⟩ := hr
  rw [e1, wI_id (z := (K : Int)) (by omega) (by omega)]
  refine ⟨fun c => by omega, fun _ => ⟨by omega, H _ ⟨?_, hk, fun i hi => ?_⟩ (fun o p q => by rw [hs_o _ _ _ _ _ q, hs_o _ _ _ _ _ p])⟩⟩
  · rw [hs_o _ _ _ _ _ (by decide), hs_same]
    omega
  · rw [hs_app, if_pos rfl, show (K : Int).toNat = K by omega]
    by_cases q : i = K
    · rw [if_pos q, q, st_s]
    · rw [if_neg q, st_n _ _ q, hs_o _ _ _ _ _ (by decide)]
      exact e3 i (by omega)
theorem C_at_30 {P : Int → AH → Prop} {x : Int} {K : Nat} {r : Nat → Int} (hr : Ro h 30 31 K r) (h0 : 0 ≤ x) (h1 : x < K) (H : P (r x.toNat) h) : RunsI G 26 [vR 30, vI x] h P := by
  apply q_C_at_30
  obtain ⟨e1, e2, e3⟩ := hr
  rw [e1, wI_id (z := (K : Int)) (by omega) (by omega), wI_id (z := x) (by omega) (by omega)]
  refine ⟨fun c => by omega, fun _ => ⟨fun c => by omega, fun _ => ⟨fun c => by omega, fun _ => ⟨by omega, ?_⟩⟩⟩⟩
  rw [e3 _ (by omega)]
  exact H
theorem C_at0_30 {P : Int → AH → Prop} {x : Int} {K : Nat} {r : Nat → Int} (hr : Ro h 30 31 K r) (h0 : -2 ≤ x ∧ x ≤ 1000) (h1 : x < 0 ∨ (K : Int) ≤ x) (H : P 0 h) : RunsI G 26 [vR 30, vI x] h P := by
  apply q_C_at_30
  obtain ⟨e1, e2, e3⟩ := hr
  rw [e1, wI_id (z := (K : Int)) (by omega) (by omega), wI_id (z := x) (by omega) (by omega)]
  refine ⟨fun c => H, fun _ => ⟨fun c => H, fun _ => ⟨fun c => H, fun _ => by omega⟩⟩⟩
theorem C_trace_15 {P : Int → AH → Prop} {x b : Int} {K : Nat} (hb : By (h 3)) (hn : 16 ≤ h 7 1 ∧ h 7 1 ≤ 100) (hx : 0 ≤ x ∧ x < 4294967296) (b01 : b = 0 ∨ b = 1) (hK : K ≤ 101)
    (H1 : ∀ h', (∃ i, i < K ∧ ¬ clu (h 7 1) (tc (h 3) b x i)) → (∀ o, o ≠ 15 → o ≠ 16 → h' o = h o) → P 1 h')
    (H0 : ∀ h' r, (∀ i, i < K → clu (h 7 1) (tc (h 3) b x i)) → Ro h' 15 16 K (tc (h 3) b x) → ((r = 0 ∧ ¬ (b = 0 ∧ 0 < K ∧ tc (h 3) b x K ≠ 4294967295)) ∨ (r = 2 ∧ (b = 0 ∧ 0 < K ∧ tc (h 3) b x K ≠ 4294967295))) → (∀ o, o ≠ 15 → o ≠ 16 → h' o = h o) → P r h') : RunsI G 28 [vR 15, vR 7, vI (wI x), vI b, vI (K : Int)] h P := by
  apply q_C_trace_15
  generalize ef : h 3 = f at hb H1 H0
  generalize en : h 7 1 = n at hn H1 H0
  have key : ∀ (m i : Nat) (g : AH), i + m = K → (0 ≤ tc f b x i ∧ tc f b x i < 4294967296) → (∀ j, j < i → clu n (tc f b x j)) → Ro g 15 16 i (tc f b x) → (∀ o, o ≠ 15 → o ≠ 16 → g o = h o) → Go G (pI P) 28 11 [some (vR 15), some (vR 7), none, some (vI b), some (vI (K : Int)), some (vI (wI (tc f b x i))), some (vI (i : Int))] [] g := by
    intro m
    induction m with
    | zero =>
      intro i g hm rg cl ro fr
      apply q_C_trace_15_c11
      rw [wI_id (z := (i : Int)) (by omega) (by omega), wI_id (z := (K : Int)) (by omega) (by omega), wI_id (z := b) (by omega) (by omega), wI_end rg.1 rg.2]
      have ek : i = K := (by omega)
      rw [ek] at cl ro
      rw [ek]
      refine ⟨fun _ => ⟨fun c => ⟨fun c2 => H0 g 0 cl ro (Or.inl ⟨rfl, by omega⟩) fr, fun c2 => ⟨fun c3 => H0 g 0 cl ro (Or.inl ⟨rfl, fun q => q.2.2 c3⟩) fr, fun c3 => H0 g 2 cl ro (Or.inr ⟨rfl, c, by omega, c3⟩) fr⟩⟩, fun c => H0 g 0 cl ro (Or.inl ⟨rfl, fun q => c q.1⟩) fr⟩, fun c => by omega⟩
    | succ m ih =>
      intro i g hm rg cl ro fr
      apply q_C_trace_15_c11
      rw [wI_id (z := (i : Int)) (by omega) (by omega), wI_id (z := (K : Int)) (by omega) (by omega), wI_id (z := b) (by omega) (by omega)]
      refine ⟨fun c => by omega, fun _ => ?_⟩
      have e7 : g 7 = h 7 := fr 7 (by decide) (by decide)
      refine S_isClusterW (by rw [e7, en]; exact hn) rg (fun k => ?_) (fun k => ⟨fun _ => H1 g ⟨i, by omega, by rw [e7, en] at k; exact k⟩ fr, fun z => absurd wI_0 z⟩)
      rw [e7, en] at k
      have k' := k
      unfold clu at k'
      refine ⟨fun z => absurd z (by decide), fun _ => ?_⟩
      rw [wI_id (z := tc f b x i) (by omega) (by omega)]
      refine C_add_15 ro (by omega) (fun g2 r2 o2 => ?_)
      have fr2 : ∀ o, o ≠ 15 → o ≠ 16 → g2 o = h o := fun o p q => (o2 o p q).trans (fr o p q)
      have r2' : Ro g2 15 16 (i + 1) (tc f b x) := ⟨r2.1, r2.2.1, fun j hj => by
        rw [r2.2.2 j hj]
        by_cases q : j = i
        · rw [q, st_s]
        · rw [st_n _ _ q]⟩
      have cl2 : ∀ j, j < i + 1 → clu n (tc f b x j) := fun j hj => by
        by_cases q : j = i
        · rw [q]; exact k
        · exact cl j (by omega)
      have e3 : g2 3 = f := (fr2 3 (by decide) (by decide)).trans ef
      rw [show (i : Int) + 1 = ((i + 1 : Nat) : Int) by omega]
      refine ⟨fun c => ?_, fun c => ?_⟩
      · refine S_fat (by rw [e3]; exact hb) (by omega) (by omega) ?_
        have fr' := ft_rng hb (show 0 ≤ tc f b x i by omega) (show tc f b x i ≤ 101 by omega)
        have e : tc f b x (i + 1) = ft f (tc f b x i) := by
          show nxt f b _ = _
          unfold nxt
          rw [if_neg (by omega)]
        have nx := ih (i + 1) g2 (by omega) (by rw [e]; exact fr') cl2 r2' fr2
        rw [e] at nx
        rw [e3]
        exact nx
      · have e : tc f b x (i + 1) = tc f b x i + 1 := by
          show nxt f b _ = _
          unfold nxt
          rw [if_pos (by omega)]
        have nx := ih (i + 1) g2 (by omega) (by rw [e]; omega) cl2 r2' fr2
        rw [e, wI_id (z := tc f b x i + 1) (by omega) (by omega)] at nx
        exact nx
  exact key K 0 _ (by omega) hx (fun j hj => by omega) ⟨by rw [hs_same]; rfl, by omega, fun j hj => by omega⟩ (fun o p _ => hs_o _ _ _ _ _ p)
theorem C_trace_18 {P : Int → AH → Prop} {x b : Int} {K : Nat} (hb : By (h 3)) (hn : 16 ≤ h 7 1 ∧ h 7 1 ≤ 100) (hx : 0 ≤ x ∧ x < 4294967296) (b01 : b = 0 ∨ b = 1) (hK : K ≤ 101)
    (H1 : ∀ h', (∃ i, i < K ∧ ¬ clu (h 7 1) (tc (h 3) b x i)) → (∀ o, o ≠ 18 → o ≠ 19 → h' o = h o) → P 1 h')
    (H0 : ∀ h' r, (∀ i, i < K → clu (h 7 1) (tc (h 3) b x i)) → Ro h' 18 19 K (tc (h 3) b x) → ((r = 0 ∧ ¬ (b = 0 ∧ 0 < K ∧ tc (h 3) b x K ≠ 4294967295)) ∨ (r = 2 ∧ (b = 0 ∧ 0 < K ∧ tc (h 3) b x K ≠ 4294967295))) → (∀ o, o ≠ 18 → o ≠ 19 → h' o = h o) → P r h') : RunsI G 28 [vR 18, vR 7, vI (wI x), vI b, vI (K : Int)] h P := by
  apply q_C_trace_18
  generalize ef : h 3 = f at hb H1 H0
  generalize en : h 7 1 = n at hn H1 H0
  have key : ∀ (m i : Nat) (g : AH), i + m = K → (0 ≤ tc f b x i ∧ tc f b x i < 4294967296) → (∀ j, j < i → clu n (tc f b x j)) → Ro g 18 19 i (tc f b x) → (∀ o, o ≠ 18 → o ≠ 19 → g o = h o) → Go G (pI P) 28 11 [some (vR 18), some (vR 7), none, some (vI b), some (vI (K : Int)), some (vI (wI (tc f b x i))), some (vI (i : Int))] [] g := by
    intro m
    induction m with
    | zero =>
      intro i g hm rg cl ro fr
      apply q_C_trace_18_c11
      rw [wI_id (z := (i : Int)) (by omega) (by omega), wI_id (z := (K : Int)) (by omega) (by omega), wI_id (z := b) (by omega) (by omega), wI_end rg.1 rg.2]
      have ek : i = K := (by omega)
      rw [ek] at cl ro
      rw [ek]
      refine ⟨fun _ => ⟨fun c => ⟨fun c2 => H0 g 0 cl ro (Or.inl ⟨rfl, by omega⟩) fr, fun c2 => ⟨fun c3 => H0 g 0 cl ro (Or.inl ⟨rfl, fun q => q.2.2 c3⟩) fr, fun c3 => H0 g 2 cl ro (Or.inr ⟨rfl, c, by omega, c3⟩) fr⟩⟩, fun c => H0 g 0 cl ro (Or.inl ⟨rfl, fun q => c q.1⟩) fr⟩, fun c => by omega⟩
    | succ m ih =>
      intro i g hm rg cl ro fr
      apply q_C_trace_18_c11
      rw [wI_id (z := (i : Int)) (by omega) (by omega), wI_id (z := (K : Int)) (by omega) (by omega), wI_id (z := b) (by omega) (by omega)]
      refine ⟨fun c => by omega, fun _ => ?_⟩
      have e7 : g 7 = h 7 := fr 7 (by decide) (by decide)
      refine S_isClusterW (by rw [e7, en]; exact hn) rg (fun k => ?_) (fun k => ⟨fun _ => H1 g ⟨i, by omega, by rw [e7, en] at k; exact k⟩ fr, fun z => absurd wI_0 z⟩)
      rw [e7, en] at k
      have k' := k
      unfold clu at k'
      refine ⟨fun z => absurd z (by decide), fun _ => ?_⟩
      rw [wI_id (z := tc f b x i) (by omega) (by omega)]
      refine C_add_18 ro (by omega) (fun g2 r2 o2 => ?_)
      have fr2 : ∀ o, o ≠ 18 → o ≠ 19 → g2 o = h o := fun o p q => (o2 o p q).trans (fr o p q)
      have r2' : Ro g2 18 19 (i + 1) (tc f b x) := ⟨r2.1, r2.2.1, fun j hj => by
        rw [r2.2.2 j hj]
        by_cases q : j = i
        · rw [q, st_s]
        · rw [st_n _ _ q]⟩
      have cl2 : ∀ j, j < i + 1 → clu n (tc f b x j) := fun j hj => by
        by_cases q : j = i
        · rw [q]; exact k
        · exact cl j (by omega)
      have e3 : g2 3 = f := (fr2 3 (by decide) (by decide)).trans ef
      rw [show (i : Int) + 1 = ((i + 1 : Nat) : Int) by omega]
      refine ⟨fun c => ?_, fun c => ?_⟩
      · refine S_fat (by rw [e3]; exact hb) (by omega) (by omega) ?_
        have fr' := ft_rng hb (show 0 ≤ tc f b x i by omega) (show tc f b x i ≤ 101 by omega)
        have e : tc f b x (i + 1) = ft f (tc f b x i) := by
          show nxt f b _ = _
          unfold nxt
          rw [if_neg (by omega)]
        have nx := ih (i + 1) g2 (by omega) (by rw [e]; exact fr') cl2 r2' fr2
        rw [e] at nx
        rw [e3]
        exact nx
      · have e : tc f b x (i + 1) = tc f b x i + 1 := by
          show nxt f b _ = _
          unfold nxt
          rw [if_pos (by omega)]
        have nx := ih (i + 1) g2 (by omega) (by rw [e]; omega) cl2 r2' fr2
        rw [e, wI_id (z := tc f b x i + 1) (by omega) (by omega)] at nx
        exact nx
  exact key K 0 _ (by omega) hx (fun j hj => by omega) ⟨by rw [hs_same]; rfl, by omega, fun j hj => by omega⟩ (fun o p _ => hs_o _ _ _ _ _ p)
theorem C_trace_20 {P : Int → AH → Prop} {x b : Int} {K : Nat} (hb : By (h 3)) (hn : 16 ≤ h 7 1 ∧ h 7 1 ≤ 100) (hx : 0 ≤ x ∧ x < 4294967296) (b01 : b = 0 ∨ b = 1) (hK : K ≤ 101)
    (H1 : ∀ h', (∃ i, i < K ∧ ¬ clu (h 7 1) (tc (h 3) b x i)) → (∀ o, o ≠ 20 → o ≠ 21 → h' o = h o) → P 1 h')
    (H0 : ∀ h' r, (∀ i, i < K → clu (h 7 1) (tc (h 3) b x i)) → Ro h' 20 21 K (tc (h 3) b x) → ((r = 0 ∧ ¬ (b = 0 ∧ 0 < K ∧ tc (h 3) b x K ≠ 4294967295)) ∨ (r = 2 ∧ (b = 0 ∧ 0 < K ∧ tc (h 3) b x K ≠ 4294967295))) → (∀ o, o ≠ 20 → o ≠ 21 → h' o = h o) → P r h') : RunsI G 28 [vR 20, vR 7, vI (wI x), vI b, vI (K : Int)] h P := by
  apply q_C_trace_20
  generalize ef : h 3 = f at hb H1 H0
  generalize en : h 7 1 = n at hn H1 H0
  have key : ∀ (m i : Nat) (g : AH), i + m = K → (0 ≤ tc f b x i ∧ tc f b x i < 4294967296) → (∀ j, j < i → clu n (tc f b x j)) → Ro g 20 21 i (tc f b x) → (∀ o, o ≠ 20 → o ≠ 21 → g o = h o) → Go G (pI P) 28 11 [some (vR 20), some (vR 7), none, some (vI b), some (vI (K : Int)), some (vI (wI (tc f b x i))), some (vI (i : Int))] [] g := by
    intro m
    induction m with
    | zero =>
      intro i g hm rg cl ro fr
      apply q_C_trace_20_c11
      rw [wI_id (z := (i : Int)) (by omega) (by omega), wI_id (z := (K : Int)) (by omega) (by omega), wI_id (z := b) (by omega) (by omega), wI_end rg.1 rg.2]
      have ek : i = K := (by omega)
      rw [ek] at cl ro
      rw [ek]
      refine ⟨fun _ => ⟨fun c => ⟨fun c2 => H0 g 0 cl ro (Or.inl ⟨rfl, by omega⟩) fr, fun c2 => ⟨fun c3 => H0 g 0 cl ro (Or.inl ⟨rfl, fun q => q.2.2 c3⟩) fr, fun c3 => H0 g 2 cl ro (Or.inr ⟨rfl, c, by omega, c3⟩) fr⟩⟩, fun c => H0 g 0 cl ro (Or.inl ⟨rfl, fun q => c q.1⟩) fr⟩, fun c => by omega⟩
    | succ m ih =>
      intro i g hm rg cl ro fr
      apply q_C_trace_20_c11
      rw [wI_id (z := (i : Int)) (by omega) (by omega), wI_id (z := (K : Int)) (by omega) (by omega), wI_id (z := b) (by omega) (by omega)]
      refine ⟨fun c => by omega, fun _ => ?_⟩
      have e7 : g 7 = h 7 := fr 7 (by decide) (by decide)
      refine S_isClusterW (by rw [e7, en]; exact hn) rg (fun k => ?_) (fun k => ⟨fun _ => H1 g ⟨i, by omega, by rw [e7, en] at k; exact k⟩ fr, fun z => absurd wI_0 z⟩)
      rw [e7, en] at k
      have k' := k
      unfold clu at k'
      refine ⟨fun z => absurd z (by decide), fun _ => ?_⟩
      rw [wI_id (z := tc f b x i) (by omega) (by omega)]
      refine C_add_20 ro (by omega) (fun g2 r2 o2 => ?_)
      have fr2 : ∀ o, o ≠ 20 → o ≠ 21 → g2 o = h o := fun o p q => (o2 o p q).trans (fr o p q)
      have r2' : Ro g2 20 21 (i + 1) (tc f b x) := ⟨r2.1, r2.2.1, fun j hj => by
        rw [r2.2.2 j hj]
        by_cases q : j = i
        · rw [q, st_s]
        · rw [st_n _ _ q]⟩
      have cl2 : ∀ j, j < i + 1 → clu n (tc f b x j) := fun j hj => by
        by_cases q : j = i
        · rw [q]; exact k
        · exact cl j (by omega)
      have e3 : g2 3 = f := (fr2 3 (by decide) (by decide)).trans ef
      rw [show (i : Int) + 1 = ((i + 1 : Nat) : Int) by omega]
      refine ⟨fun c => ?_, fun c => ?_⟩
      · refine S_fat (by rw [e3]; exact hb) (by omega) (by omega) ?_
        have fr' := ft_rng hb (show 0 ≤ tc f b x i by omega) (show tc f b x i ≤ 101 by omega)
        have e : tc f b x (i + 1) = ft f (tc f b x i) := by
          show nxt f b _ = _
          unfold nxt
          rw [if_neg (by omega)]
        have nx := ih (i + 1) g2 (by omega) (by rw [e]; exact fr') cl2 r2' fr2
        rw [e] at nx
        rw [e3]
        exact nx
      · have e : tc f b x (i + 1) = tc f b x i + 1 := by
          show nxt f b _ = _
          unfold nxt
          rw [if_pos (by omega)]
        have nx := ih (i + 1) g2 (by omega) (by rw [e]; omega) cl2 r2' fr2
        rw [e, wI_id (z := tc f b x i + 1) (by omega) (by omega)] at nx
        exact nx
  exact key K 0 _ (by omega) hx (fun j hj => by omega) ⟨by rw [hs_same]; rfl, by omega, fun j hj => by omega⟩ (fun o p _ => hs_o _ _ _ _ _ p)
theorem C_trace_28 {P : Int → AH → Prop} {x b : Int} {K : Nat} (hb : By (h 3)) (hn : 16 ≤ h 7 1 ∧ h 7 1 ≤ 100) (hx : 0 ≤ x ∧ x < 4294967296) (b01 : b = 0 ∨ b = 1) (hK : K ≤ 101)
    (H1 : ∀ h', (∃ i, i < K ∧ ¬ clu (h 7 1) (tc (h 3) b x i)) → (∀ o, o ≠ 28 → o ≠ 29 → h' o = h o) → P 1 h')
    (H0 : ∀ h' r, (∀ i, i < K → clu (h 7 1) (tc (h 3) b x i)) → Ro h' 28 29 K (tc (h 3) b x) → ((r = 0 ∧ ¬ (b = 0 ∧ 0 < K ∧ tc (h 3) b x K ≠ 4294967295)) ∨ (r = 2 ∧ (b = 0 ∧ 0 < K ∧ tc (h 3) b x K ≠ 4294967295))) → (∀ o, o ≠ 28 → o ≠ 29 → h' o = h o) → P r h') : RunsI G 28 [vR 28, vR 7, vI (wI x), vI b, vI (K : Int)] h P := by
  apply q_C_trace_28
  generalize ef : h 3 = f at hb H1 H0
  generalize en : h 7 1 = n at hn H1 H0
  have key : ∀ (m i : Nat) (g : AH), i + m = K → (0 ≤ tc f b x i ∧ tc f b x i < 4294967296) → (∀ j, j < i → clu n (tc f b x j)) → Ro g 28 29 i (tc f b x) → (∀ o, o ≠ 28 → o ≠ 29 → g o = h o) → Go G (pI P) 28 11 [some (vR 28), some (vR 7), none, some (vI b), some (vI (K : Int)), some (vI (wI (tc f b x i))), some (vI (i : Int))] [] g := by
    intro m
    induction m with
    | zero =>
      intro i g hm rg cl ro fr
      apply q_C_trace_28_c11
      rw [wI_id (z := (i : Int)) (by omega) (by omega), wI_id (z := (K : Int)) (by omega) (by omega), wI_id (z := b) (by omega) (by omega), wI_end rg.1 rg.2]
      have ek : i = K := (by omega)
      rw [ek] at cl ro
      rw [ek]
      refine ⟨fun _ => ⟨fun c => ⟨fun c2 => H0 g 0 cl ro (Or.inl ⟨rfl, by omega⟩) fr, fun c2 => ⟨fun c3 => H0 g 0 cl ro (Or.inl ⟨rfl, fun q => q.2.2 c3⟩) fr, fun c3 => H0 g 2 cl ro (Or.inr ⟨rfl, c, by omega, c3⟩) fr⟩⟩, fun c => H0 g 0 cl ro (Or.inl ⟨rfl, fun q => c q.1⟩) fr⟩, fun c => by omega⟩
    | succ m ih =>
      intro i g hm rg cl ro fr
      apply q_C_trace_28_c11
      rw [wI_id (z := (i : Int)) (by omega) (by omega), wI_id (z := (K : Int)) (by omega) (by omega), wI_id (z := b) (by omega) (by omega)]
      refine ⟨fun c => by omega, fun _ => ?_⟩
      have e7 : g 7 = h 7 := fr 7 (by decide) (by decide)
      refine S_isClusterW (by rw [e7, en]; exact hn) rg (fun k => ?_) (fun k => ⟨fun _ => H1 g ⟨i, by omega, by rw [e7, en] at k; exact k⟩ fr, fun z => absurd wI_0 z⟩)
      rw [e7, en] at k
      have k' := k
      unfold clu at k'
      refine ⟨fun z => absurd z (by decide), fun _ => ?_⟩
      rw [wI_id (z := tc f b x i) (by omega) (by omega)]
      refine C_add_28 ro (by omega) (fun g2 r2 o2 => ?_)
      have fr2 : ∀ o, o ≠ 28 → o ≠ 29 → g2 o = h o := fun o p q => (o2 o p q).trans (fr o p q)
      have r2' : Ro g2 28 29 (i + 1) (tc f b x) := ⟨r2.1, r2.2.1, fun j hj => by
        rw [r2.2.2 j hj]
        by_cases q : j = i
        · rw [q, st_s]
        · rw [st_n _ _ q]⟩
      have cl2 : ∀ j, j < i + 1 → clu n (tc f b x j) := fun j hj => by
        by_cases q : j = i
        · rw [q]; exact k
        · exact cl j (by omega)
      have e3 : g2 3 = f := (fr2 3 (by decide) (by decide)).trans ef
      rw [show (i : Int) + 1 = ((i + 1 : Nat) : Int) by omega]
      refine ⟨fun c => ?_, fun c => ?_⟩
      · refine S_fat (by rw [e3]; exact hb) (by omega) (by omega) ?_
        have fr' := ft_rng hb (show 0 ≤ tc f b x i by omega) (show tc f b x i ≤ 101 by omega)
        have e : tc f b x (i + 1) = ft f (tc f b x i) := by
          show nxt f b _ = _
          unfold nxt
          rw [if_neg (by omega)]
        have nx := ih (i + 1) g2 (by omega) (by rw [e]; exact fr') cl2 r2' fr2
        rw [e] at nx
        rw [e3]
        exact nx
      · have e : tc f b x (i + 1) = tc f b x i + 1 := by
          show nxt f b _ = _
          unfold nxt
          rw [if_pos (by omega)]
        have nx := ih (i + 1) g2 (by omega) (by rw [e]; omega) cl2 r2' fr2
        rw [e, wI_id (z := tc f b x i + 1) (by omega) (by omega)] at nx
        exact nx
  exact key K 0 _ (by omega) hx (fun j hj => by omega) ⟨by rw [hs_same]; rfl, by omega, fun j hj => by omega⟩ (fun o p _ => hs_o _ _ _ _ _ p)
theorem C_traceToEnd_15 {P : AH → Prop} {x : Int} {K : Nat} (hb : By (h 3)) (hn : 16 ≤ h 7 1 ∧ h 7 1 ≤ 100) (hK : 1 ≤ K ∧ K ≤ 101) (hc : ∀ i, i < K → clu (h 7 1) (tc (h 3) 0 x i)) (he : ¬ clu (h 7 1) (tc (h 3) 0 x K))
    (H : ∀ h', Ro h' 15 16 K (tc (h 3) 0 x) → (∀ o, o ≠ 15 → o ≠ 16 → h' o = h o) → P h') : RunsV G 29 [vR 15, vR 7, vI x] h P := by
  apply q_C_traceToEnd_15
  generalize ef : h 3 = f at hb hc he H
  generalize en : h 7 1 = n at hn hc he
  have ft' : ∀ i, i < K → 0 ≤ tc f 0 x (i + 1) ∧ tc f 0 x (i + 1) < 4294967296 := fun i hi => by
    have := hc i hi
    unfold clu at this
    exact ft_rng hb (by omega) (by omega)
  have rg : ∀ i, i ≤ K → 0 ≤ tc f 0 x i ∧ tc f 0 x i < 4294967296 := fun i hi => by
    cases i with
    | zero =>
      have := hc 0 (by omega)
      unfold clu at this
      omega
    | succ i => exact ft' i (by omega)
  have key : ∀ (m i : Nat) (g : AH), i + m = K → Ro g 15 16 i (tc f 0 x) → (∀ o, o ≠ 15 → o ≠ 16 → g o = h o) → Go G (pV P) 29 10 [some (vR 15), some (vR 7), none, some (vI (wI (tc f 0 x i))), some (vI (i : Int))] [] g := by
    intro m
    induction m with
    | zero =>
      intro i g hm ro fr
      apply q_C_traceToEnd_15_c10
      rw [wI_id (z := (i : Int)) (by omega) (by omega)]
      refine ⟨fun c => by omega, fun _ => ?_⟩
      have ek : i = K := (by omega)
      have e7 : g 7 = h 7 := fr 7 (by decide) (by decide)
      rw [ek] at ro
      rw [ek]
      refine S_isClusterW (by rw [e7, en]; exact hn) (rg K (Nat.le_refl K)) (fun k => absurd (by rw [e7, en] at k; exact k) he) (fun k => ⟨fun _ => H g ro fr, fun z => absurd wI_0 z⟩)
    | succ m ih =>
      intro i g hm ro fr
      apply q_C_traceToEnd_15_c10
      rw [wI_id (z := (i : Int)) (by omega) (by omega)]
      refine ⟨fun c => by omega, fun _ => ?_⟩
      have e7 : g 7 = h 7 := fr 7 (by decide) (by decide)
      have ci := hc i (by omega)
      refine S_isClusterW (by rw [e7, en]; exact hn) (rg i (by omega)) (fun k => ⟨fun z => absurd z (by decide), fun _ => ?_⟩) (fun k => absurd ci (by rw [e7, en] at k; exact k))
      unfold clu at ci
      rw [wI_id (z := tc f 0 x i) (by omega) (by omega)]
      refine C_add_15 ro (by omega) (fun g2 r2 o2 => ?_)
      have fr2 : ∀ o, o ≠ 15 → o ≠ 16 → g2 o = h o := fun o p q => (o2 o p q).trans (fr o p q)
      have r2' : Ro g2 15 16 (i + 1) (tc f 0 x) := ⟨r2.1, r2.2.1, fun j hj => by
        rw [r2.2.2 j hj]
        by_cases q : j = i
        · rw [q, st_s]
        · rw [st_n _ _ q]⟩
      have e3 : g2 3 = f := (fr2 3 (by decide) (by decide)).trans ef
      refine S_fat (by rw [e3]; exact hb) (by omega) (by omega) ?_
      rw [e3, show (i : Int) + 1 = ((i + 1 : Nat) : Int) by omega]
      exact ih (i + 1) g2 (by omega) r2' fr2
  have r0 := rg 0 (by omega)
  have c0 := hc 0 (by omega)
  unfold clu at c0
  have k0 := key K 0 (hs h 15 1 0) (by omega) ⟨by rw [hs_same]; rfl, by omega, fun j hj => by omega⟩ (fun o p _ => hs_o _ _ _ _ _ p)
  rw [wI_id (z := tc f 0 x 0) (by omega) (by omega)] at k0
  exact k0
theorem C_traceToEnd_18 {P : AH → Prop} {x : Int} {K : Nat} (hb : By (h 3)) (hn : 16 ≤ h 7 1 ∧ h 7 1 ≤ 100) (hK : 1 ≤ K ∧ K ≤ 101) (hc : ∀ i, i < K → clu (h 7 1) (tc (h 3) 0 x i)) (he : ¬ clu (h 7 1) (tc (h 3) 0 x K))
    (H : ∀ h', Ro h' 18 19 K (tc (h 3) 0 x) → (∀ o, o ≠ 18 → o ≠ 19 → h' o = h o) → P h') : RunsV G 29 [vR 18, vR 7, vI x] h P := by
  apply q_C_traceToEnd_18
  generalize ef : h 3 = f at hb hc he H
  generalize en : h 7 1 = n at hn hc he
  have ft' : ∀ i, i < K → 0 ≤ tc f 0 x (i + 1) ∧ tc f 0 x (i + 1) < 4294967296 := fun i hi => by
    have := hc i hi
    unfold clu at this
    exact ft_rng hb (by omega) (by omega)
  have rg : ∀ i, i ≤ K → 0 ≤ tc f 0 x i ∧ tc f 0 x i < 4294967296 := fun i hi => by
    cases i with
    | zero =>
      have := hc 0 (by omega)
      unfold clu at this
      omega
    | succ i => exact ft' i (by omega)
  have key : ∀ (m i : Nat) (g : AH), i + m = K → Ro g 18 19 i (tc f 0 x) → (∀ o, o ≠ 18 → o ≠ 19 → g o = h o) → Go G (pV P) 29 10 [some (vR 18), some (vR 7), none, some (vI (wI (tc f 0 x i))), some (vI (i : Int))] [] g := by
    intro m
    induction m with
    | zero =>
      intro i g hm ro fr
      apply q_C_traceToEnd_18_c10
      rw [wI_id (z := (i : Int)) (by omega) (by omega)]
      refine ⟨fun c => by omega, fun _ => ?_⟩
      have ek : i = K := (by omega)
      have e7 : g 7 = h 7 := fr 7 (by decide) (by decide)
      rw [ek] at ro
      rw [ek]
      refine S_isClusterW (by rw [e7, en]; exact hn) (rg K (Nat.le_refl K)) (fun k => absurd (by rw [e7, en] at k; exact k) he) (fun k => ⟨fun _ => H g ro fr, fun z => absurd wI_0 z⟩)
    | succ m ih =>
      intro i g hm ro fr
      apply q_C_traceToEnd_18_c10
      rw [wI_id (z := (i : Int)) (by omega) (by omega)]
      refine ⟨fun c => by omega, fun _ => ?_⟩
      have e7 : g 7 = h 7 := fr 7 (by decide) (by decide)
      have ci := hc i (by omega)
      refine S_isClusterW (by rw [e7, en]; exact hn) (rg i (by omega)) (fun k => ⟨fun z => absurd z (by decide), fun _ => ?_⟩) (fun k => absurd ci (by rw [e7, en] at k; exact k))
      unfold clu at ci
      rw [wI_id (z := tc f 0 x i) (by omega) (by omega)]
      refine C_add_18 ro (by omega) (fun g2 r2 o2 => ?_)
      have fr2 : ∀ o, o ≠ 18 → o ≠ 19 → g2 o = h o := fun o p q => (o2 o p q).trans (fr o p q)
      have r2' : Ro g2 18 19 (i + 1) (tc f 0 x) := ⟨r2.1, r2.2.1, fun j hj => by
        rw [r2.2.2 j hj]
        by_cases q : j = i
        · rw [q, st_s]
        · rw [st_n _ _ q]⟩
      have e3 : g2 3 = f := (fr2 3 (by decide) (by decide)).trans ef
      refine S_fat (by rw [e3]; exact hb) (by omega) (by omega) ?_
      rw [e3, show (i : Int) + 1 = ((i + 1 : Nat) : Int) by omega]
      exact ih (i + 1) g2 (by omega) r2' fr2
  have r0 := rg 0 (by omega)
  have c0 := hc 0 (by omega)
  unfold clu at c0
  have k0 := key K 0 (hs h 18 1 0) (by omega) ⟨by rw [hs_same]; rfl, by omega, fun j hj => by omega⟩ (fun o p _ => hs_o _ _ _ _ _ p)
  rw [wI_id (z := tc f 0 x 0) (by omega) (by omega)] at k0
  exact k0
theorem C_traceToEnd_28 {P : AH → Prop} {x : Int} {K : Nat} (hb : By (h 3)) (hn : 16 ≤ h 7 1 ∧ h 7 1 ≤ 100) (hK : 1 ≤ K ∧ K ≤ 101) (hc : ∀ i, i < K → clu (h 7 1) (tc (h 3) 0 x i)) (he : ¬ clu (h 7 1) (tc (h 3) 0 x K))
    (H : ∀ h', Ro h' 28 29 K (tc (h 3) 0 x) → (∀ o, o ≠ 28 → o ≠ 29 → h' o = h o) → P h') : RunsV G 29 [vR 28, vR 7, vI x] h P := by
  apply q_C_traceToEnd_28
  generalize ef : h 3 = f at hb hc he H
  generalize en : h 7 1 = n at hn hc he
  have ft' : ∀ i, i < K → 0 ≤ tc f 0 x (i + 1) ∧ tc f 0 x (i + 1) < 4294967296 := fun i hi => by
    have := hc i hi
    unfold clu at this
    exact ft_rng hb (by omega) (by omega)
  have rg : ∀ i, i ≤ K → 0 ≤ tc f 0 x i ∧ tc f 0 x i < 4294967296 := fun i hi => by
    cases i with
    | zero =>
      have := hc 0 (by omega)
      unfold clu at this
      omega
    | succ i => exact ft' i (by omega)
  have key : ∀ (m i : Nat) (g : AH), i + m = K → Ro g 28 29 i (tc f 0 x) → (∀ o, o ≠ 28 → o ≠ 29 → g o = h o) → Go G (pV P) 29 10 [some (vR 28), some (vR 7), none, some (vI (wI (tc f 0 x i))), some (vI (i : Int))] [] g := by
    intro m
    induction m with
    | zero =>
      intro i g hm ro fr
      apply q_C_traceToEnd_28_c10
      rw [wI_id (z := (i : Int)) (by omega) (by omega)]
      refine ⟨fun c => by omega, fun _ => ?_⟩
      have ek : i = K := (by omega)
      have e7 : g 7 = h 7 := fr 7 (by decide) (by decide)
      rw [ek] at ro
      rw [ek]
      refine S_isClusterW (by rw [e7, en]; exact hn) (rg K (Nat.le_refl K)) (fun k => absurd (by rw [e7, en] at k; exact k) he) (fun k => ⟨fun _ => H g ro fr, fun z => absurd wI_0 z⟩)
    | succ m ih =>
      intro i g hm ro fr
      apply q_C_traceToEnd_28_c10
      rw [wI_id (z := (i : Int)) (by omega) (by omega)]
      refine ⟨fun c => by omega, fun _ => ?_⟩
      have e7 : g 7 = h 7 := fr 7 (by decide) (by decide)
      have ci := hc i (by omega)
      refine S_isClusterW (by rw [e7, en]; exact hn) (rg i (by omega)) (fun k => ⟨fun z => absurd z (by decide), fun _ => ?_⟩) (fun k => absurd ci (by rw [e7, en] at k; exact k))
      unfold clu at ci
      rw [wI_id (z := tc f 0 x i) (by omega) (by omega)]
      refine C_add_28 ro (by omega) (fun g2 r2 o2 => ?_)
      have fr2 : ∀ o, o ≠ 28 → o ≠ 29 → g2 o = h o := fun o p q => (o2 o p q).trans (fr o p q)
      have r2' : Ro g2 28 29 (i + 1) (tc f 0 x) := ⟨r2.1, r2.2.1, fun j hj => by
        rw [r2.2.2 j hj]
        by_cases q : j = i
        · rw [q, st_s]
        · rw [st_n _ _ q]⟩
      have e3 : g2 3 = f := (fr2 3 (by decide) (by decide)).trans ef
      refine S_fat (by rw [e3]; exact hb) (by omega) (by omega) ?_
      rw [e3, show (i : Int) + 1 = ((i + 1 : Nat) : Int) by omega]
      exact ih (i + 1) g2 (by omega) r2' fr2
  have r0 := rg 0 (by omega)
  have c0 := hc 0 (by omega)
  unfold clu at c0
  have k0 := key K 0 (hs h 28 1 0) (by omega) ⟨by rw [hs_same]; rfl, by omega, fun j hj => by omega⟩ (fun o p _ => hs_o _ _ _ _ _ p)
  rw [wI_id (z := tc f 0 x 0) (by omega) (by omega)] at k0
  exact k0
theorem C_hasTwice {P : Int → AH → Prop} {K : Nat} {r : Nat → Int} (hr : Ro h 20 21 K r) (hv : ∀ i, i < K → 0 ≤ r i ∧ r i ≤ 101) (H1 : (∃ i i', i < i' ∧ i' < K ∧ r i = r i') → P 1 h) (H0 : ¬ (∃ i i', i < i' ∧ i' < K ∧ r i = r i') → P 0 h) : RunsI G 30 [vR 20] h P := by
  apply q_C_hasTwice
  have hk := hr.2.1
  have l2 : ∀ (m j i : Nat), j + m = i → i < K → (∀ a, a < j → r a ≠ r i) → ((∀ a, a < i → r a ≠ r i) → Go G (pI P) 30 2 [some (vR 20), some (vI ((i : Int) + 1)), none] [] h) → Go G (pI P) 30 12 [some (vR 20), some (vI (i : Int)), some (vI (j : Int))] [] h := by
    intro m
    induction m with
    | zero =>
      intro j i hm hi ne nx
      apply q_C_hasTwice_c12
      rw [wI_id (z := (i : Int)) (by omega) (by omega), wI_id (z := (j : Int)) (by omega) (by omega)]
      refine ⟨fun _ => nx (by rw [show i = j by omega] at ne ⊢; exact ne), fun c => by omega⟩
    | succ m ih =>
      intro j i hm hi ne nx
      apply q_C_hasTwice_c12
      rw [wI_id (z := (i : Int)) (by omega) (by omega), wI_id (z := (j : Int)) (by omega) (by omega)]
      refine ⟨fun c => by omega, fun _ => ?_⟩
      refine C_at_20 hr (by omega) (by omega) (C_at_20 hr (by omega) (by omega) ?_)
      rw [show (i : Int).toNat = i by omega, show (j : Int).toNat = j by omega]
      have v1 := hv i hi
      have v2 := hv j (by omega)
      rw [wI_id (z := r i) (by omega) (by omega), wI_id (z := r j) (by omega) (by omega)]
      refine ⟨fun c => ⟨Or.inr rfl, H1 ⟨j, i, by omega, hi, c.symm⟩⟩, fun c => ?_⟩
      rw [show (j : Int) + 1 = ((j + 1 : Nat) : Int) by omega]
      refine ih (j + 1) i (by omega) hi (fun a ha => ?_) nx
      by_cases q : a = j
      · rw [q]; exact fun z => c z.symm
      · exact ne a (by omega)
  have l1 : ∀ (m i : Nat), i + m = K → (∀ a a', a < a' → a' < i → r a ≠ r a') → Go G (pI P) 30 2 [some (vR 20), some (vI (i : Int)), none] [] h := by
    intro m
    induction m with
    | zero =>
      intro i hm ne
      apply q_C_hasTwice_c2
      rw [hr.1, wI_id (z := (i : Int)) (by omega) (by omega), wI_id (z := (K : Int)) (by omega) (by omega)]
      refine ⟨fun _ => ⟨Or.inl rfl, H0 (fun ⟨a, a', p, q, z⟩ => ne a a' p (by omega) z)⟩, fun c => by omega⟩
    | succ m ih =>
      intro i hm ne
      apply q_C_hasTwice_c2
      rw [hr.1, wI_id (z := (i : Int)) (by omega) (by omega), wI_id (z := (K : Int)) (by omega) (by omega)]
      refine ⟨fun c => by omega, fun _ => l2 i 0 i (by omega) (by omega) (fun a ha => by omega) (fun ne2 => ?_)⟩
      rw [show (i : Int) + 1 = ((i + 1 : Nat) : Int) by omega]
      refine ih (i + 1) (by omega) (fun a a' p q => ?_)
      by_cases z : a' = i
      · rw [z]; exact ne2 a (by omega)
      · exact ne a a' p (by omega)
  exact l1 K 0 (by omega) (fun a a' p q => by omega)
theorem C_entry_15 {P : Int → AH → Prop} {p : Int} {K : Nat} {r : Nat → Int} (hr : Ro h 15 16 K r) (h0 : 0 ≤ p) (h1 : p < 4 * K) (H : P (ea r p) h) : RunsI G 32 [vR 15, vI p] h P := by
  apply q_C_entry_15
  have hk := hr.2.1
  rw [wI_id (z := p) (by omega) (by omega)]
  refine ⟨fun c => by omega, fun _ => ?_⟩
  apply q_C_places_15
  rw [hr.1, wI_id (z := 4 * (K : Int)) (by omega) (by omega)]
  refine ⟨fun c => by omega, fun _ => ⟨by decide, ?_⟩⟩
  rw [tdiv_pos h0, tmod_pos h0]
  refine C_at_15 hr (by omega) (by omega) ?_
  apply q_S_address
  exact ⟨by decide, H⟩
theorem C_entry0_15 {P : Int → AH → Prop} {p : Int} {K : Nat} {r : Nat → Int} (hr : Ro h 15 16 K r) (h0 : 0 ≤ p) (h1 : 4 * (K : Int) ≤ p) (h2 : p ≤ 1000) (H : P (-1) h) : RunsI G 32 [vR 15, vI p] h P := by
  apply q_C_entry_15
  have hk := hr.2.1
  rw [wI_id (z := p) (by omega) (by omega)]
  refine ⟨fun c => by omega, fun _ => ?_⟩
  apply q_C_places_15
  rw [hr.1, wI_id (z := 4 * (K : Int)) (by omega) (by omega)]
  exact ⟨fun _ => H, fun c => by omega⟩
theorem C_entry_18 {P : Int → AH → Prop} {p : Int} {K : Nat} {r : Nat → Int} (hr : Ro h 18 19 K r) (h0 : 0 ≤ p) (h1 : p < 4 * K) (H : P (ea r p) h) : RunsI G 32 [vR 18, vI p] h P := by
  apply q_C_entry_18
  have hk := hr.2.1
  rw [wI_id (z := p) (by omega) (by omega)]
  refine ⟨fun c => by omega, fun _ => ?_⟩
  apply q_C_places_18
  rw [hr.1, wI_id (z := 4 * (K : Int)) (by omega) (by omega)]
  refine ⟨fun c => by omega, fun _ => ⟨by decide, ?_⟩⟩
  rw [tdiv_pos h0, tmod_pos h0]
  refine C_at_18 hr (by omega) (by omega) ?_
  apply q_S_address
  exact ⟨by decide, H⟩
theorem C_entry0_18 {P : Int → AH → Prop} {p : Int} {K : Nat} {r : Nat → Int} (hr : Ro h 18 19 K r) (h0 : 0 ≤ p) (h1 : 4 * (K : Int) ≤ p) (h2 : p ≤ 1000) (H : P (-1) h) : RunsI G 32 [vR 18, vI p] h P := by
  apply q_C_entry_18
  have hk := hr.2.1
  rw [wI_id (z := p) (by omega) (by omega)]
  refine ⟨fun c => by omega, fun _ => ?_⟩
  apply q_C_places_18
  rw [hr.1, wI_id (z := 4 * (K : Int)) (by omega) (by omega)]
  exact ⟨fun _ => H, fun c => by omega⟩
theorem C_entry_28 {P : Int → AH → Prop} {p : Int} {K : Nat} {r : Nat → Int} (hr : Ro h 28 29 K r) (h0 : 0 ≤ p) (h1 : p < 4 * K) (H : P (ea r p) h) : RunsI G 32 [vR 28, vI p] h P := by
  apply q_C_entry_28
  have hk := hr.2.1
  rw [wI_id (z := p) (by omega) (by omega)]
  refine ⟨fun c => by omega, fun _ => ?_⟩
  apply q_C_places_28
  rw [hr.1, wI_id (z := 4 * (K : Int)) (by omega) (by omega)]
  refine ⟨fun c => by omega, fun _ => ⟨by decide, ?_⟩⟩
  rw [tdiv_pos h0, tmod_pos h0]
  refine C_at_28 hr (by omega) (by omega) ?_
  apply q_S_address
  exact ⟨by decide, H⟩
theorem C_entry0_28 {P : Int → AH → Prop} {p : Int} {K : Nat} {r : Nat → Int} (hr : Ro h 28 29 K r) (h0 : 0 ≤ p) (h1 : 4 * (K : Int) ≤ p) (h2 : p ≤ 1000) (H : P (-1) h) : RunsI G 32 [vR 28, vI p] h P := by
  apply q_C_entry_28
  have hk := hr.2.1
  rw [wI_id (z := p) (by omega) (by omega)]
  refine ⟨fun c => by omega, fun _ => ?_⟩
  apply q_C_places_28
  rw [hr.1, wI_id (z := 4 * (K : Int)) (by omega) (by omega)]
  exact ⟨fun _ => H, fun c => by omega⟩
theorem T_placeOf {P : Int → AH → Prop} {p : Int} (h0 : 0 ≤ p) (h1 : p ≤ 1000) (H : P p h) : RunsI G 123 [vI (ha p)] h P := by
  apply q_T_placeOf
  refine ⟨by decide, ?_⟩
  unfold ha
  rw [wI_id (z := 768 + 32 * p - 1024 + 256) (by omega) (by omega), tdiv_pos (by omega), show (768 + 32 * p - 1024 + 256) / 32 = p by omega]
  exact H
theorem E_clusters {P : Int → AH → Prop} {x : Int} (hb : By (h 3)) (h0 : 0 ≤ x) (h1 : x + 64 ≤ 13824) (hl : u4 (h 3) (x + 56) ≤ 12800) (H : P (((u4 (h 3) (x + 56) + 127) / 128).toNat : Nat) h) : RunsI G 89 [vR 10, vI x] h P := by
  apply q_E_clusters
  apply q_E_length
  have u := u4_rng hb (show 0 ≤ x + 56 by omega) (show x + 56 + 3 < 13824 by omega)
  refine D_get4 hb (by omega) (by omega) ⟨by decide, ?_⟩
  rw [wI_id (z := u4 (h 3) (x + 56)) (by omega) (by omega), wI_id (z := u4 (h 3) (x + 56) + 128 - 1) (by omega) (by omega), tdiv_pos (by omega), show (u4 (h 3) (x + 56) + 128 - 1) / 128 = (((u4 (h 3) (x + 56) + 127) / 128).toNat : Nat) by omega]
  exact H
theorem E_first {P : Int → AH → Prop} {x : Int} (hb : By (h 3)) (h0 : 0 ≤ x) (h1 : x + 64 ≤ 13824) (H : P (wI (u4 (h 3) (x + 52))) h) : RunsI G 87 [vR 10, vI x] h P := by
  apply q_E_first
  exact D_get4 hb (by omega) (by omega) H
theorem E_entries {P : Int → AH → Prop} {x : Int} (h0 : 0 ≤ x) (h1 : x + 64 ≤ 13824) (H : P (1 + rd (h 3) (x + 1)) h) : RunsI G 81 [vR 10, vI x] h P := by
  apply q_E_entries
  exact D_get (by omega) (by omega) H
theorem E_runB {P : Int → AH → Prop} {x : Int} (hb : By (h 3)) (h0 : 0 ≤ x) (h1 : x + 64 ≤ 13824) (H : P (if rd (h 3) (x + 33) = 3 then 1 else 0) h) : RunsI G 85 [vR 10, vI x] h P := by
  refine E_isRun hb h0 h1 (fun q => ?_) (fun q => ?_)
  · unfold isR at q; rw [if_pos q] at H; exact H
  · unfold isR at q; rw [if_neg q] at H; exact H
theorem K_greatOf {P : Int → AH → Prop} {x : Int} (h0 : 0 ≤ x) (h1 : x < 256) (H : P (h 9 x.toNat) h) : RunsI G 19 [vR 8, vI x] h P := by
  apply q_K_greatOf
  rw [wI_id (z := x) (by omega) (by omega)]
  exact ⟨fun c => by omega, fun _ => ⟨fun c => by omega, fun _ => ⟨by omega, H⟩⟩⟩
theorem E_isLike_22 {P : Int → AH → Prop} {x tl : Int} (hb : By (h 3)) (h0 : 0 ≤ x) (h1 : x + 64 ≤ 13824) (t0 : 0 ≤ tl) (t1 : tl + 64 ≤ 13824) (hn : 0 ≤ h 22 1 ∧ h 22 1 ≤ 30) (hv : ∀ i : Nat, (i : Int) < h 22 1 → 0 ≤ h 23 i ∧ h 23 i < 256) (hl : rd (h 3) (x + 35) = h 22 1 → ∀ i : Nat, (i : Int) < h 22 1 → 0 ≤ lt (h 3) tl i ∧ lt (h 3) tl i < 256) (hg : Gr (h 9))
    (H1 : (h 22 1 = rd (h 3) (x + 35) ∧ ∀ i : Nat, (i : Int) < h 22 1 → h 9 (h 23 i).toNat = h 9 (lt (h 3) tl i).toNat) → P 1 h) (H0 : ¬ (h 22 1 = rd (h 3) (x + 35) ∧ ∀ i : Nat, (i : Int) < h 22 1 → h 9 (h 23 i).toNat = h 9 (lt (h 3) tl i).toNat) → P 0 h) : RunsI G 95 [vR 10, vR 22, vI x, vI tl] h P := by
  have b := hb.rd (show 0 ≤ x + 35 by omega) (show x + 35 < 13824 by omega)
  apply q_E_isLike_22
  refine D_get (by omega) (by omega) ?_
  rw [wI_id (z := h 22 1) (by omega) (by omega), wI_id (z := rd (h 3) (x + 35)) (by omega) (by omega)]
  refine ⟨fun c => ?_, fun c => ⟨Or.inl rfl, H0 (fun q => c q.1)⟩⟩
  have key : ∀ (m j : Nat), (j : Int) + m = h 22 1 → (∀ i : Nat, i < j → h 9 (h 23 i).toNat = h 9 (lt (h 3) tl i).toNat) → Go G (pI P) 95 23 [some (vR 10), some (vR 22), none, some (vI tl), some (vI (j : Int))] [] h := by
    intro m
    induction m with
    | zero =>
      intro j hm al
      apply q_E_isLike_22_c23
      rw [wI_id (z := (j : Int)) (by omega) (by omega), wI_id (z := h 22 1) (by omega) (by omega)]
      exact ⟨fun _ => ⟨Or.inr rfl, H1 ⟨c, fun i hi => al i (by omega)⟩⟩, fun q => by omega⟩
    | succ m ih =>
      intro j hm al
      apply q_E_isLike_22_c23
      rw [wI_id (z := (j : Int)) (by omega) (by omega), wI_id (z := h 22 1) (by omega) (by omega)]
      refine ⟨fun q => by omega, fun _ => ?_⟩
      refine N_at_22 (by omega) (by omega) (by omega) ?_
      rw [show (j : Int).toNat = j by omega]
      have v := hv j (by omega)
      have l := hl c.symm j (by omega)
      refine K_greatOf v.1 v.2 ?_
      have la' := la_rng (tl := tl) (i := (j : Int)) (by omega) (by omega)
      have g1 := hg (h 23 j).toNat (by omega)
      have g2 := hg (lt (h 3) tl j).toNat (by omega)
      have fin : RunsI G 55 [vR 1, vI (la tl (j : Int))] h (fun r4 h4 => RunsI G 19 [vR 8, vI r4] h4 (fun r5 h5 => ((wI (h 9 (h 23 j).toNat) = wI r5 → Go G (pI P) 95 23 [some (vR 10), some (vR 22), none, some (vI tl), some (vI ((j : Int) + 1))] [] h5) ∧ (¬ wI (h 9 (h 23 j).toNat) = wI r5 → (((0 : Int) = 0 ∨ (0 : Int) = 1) ∧ P 0 h5))))) := by
        refine D_u2 hb (by omega) (by omega) (K_greatOf l.1 l.2 ?_)
        have e : u2 (h 3) (la tl (j : Int)) = lt (h 3) tl j := rfl
        rw [e, wI_id (z := h 9 (h 23 j).toNat) (by omega) (by omega), wI_id (z := h 9 (lt (h 3) tl j).toNat) (by omega) (by omega)]
        refine ⟨fun q => ?_, fun q => ⟨Or.inl rfl, H0 (fun z => q (z.2 j (by omega)))⟩⟩
        rw [show (j : Int) + 1 = ((j + 1 : Nat) : Int) by omega]
        refine ih (j + 1) (by omega) (fun i hi => ?_)
        by_cases z : i = j
        · rw [z]; exact q
        · exact al i (by omega)
      apply q_E_letterAddress
      rw [wI_id (z := (j : Int)) (by omega) (by omega)]
      unfold la at fin
      refine ⟨fun q => ?_, fun q => ?_⟩
      · rw [if_neg (by omega)] at fin; exact fin
      · rw [if_pos (by omega)] at fin; exact fin
  exact key (h 22 1).toNat 0 (by omega) (fun i hi => by omega)
theorem E_isLike_32 {P : Int → AH → Prop} {x tl : Int} (hb : By (h 3)) (h0 : 0 ≤ x) (h1 : x + 64 ≤ 13824) (t0 : 0 ≤ tl) (t1 : tl + 64 ≤ 13824) (hn : 0 ≤ h 32 1 ∧ h 32 1 ≤ 30) (hv : ∀ i : Nat, (i : Int) < h 32 1 → 0 ≤ h 33 i ∧ h 33 i < 256) (hl : rd (h 3) (x + 35) = h 32 1 → ∀ i : Nat, (i : Int) < h 32 1 → 0 ≤ lt (h 3) tl i ∧ lt (h 3) tl i < 256) (hg : Gr (h 9))
    (H1 : (h 32 1 = rd (h 3) (x + 35) ∧ ∀ i : Nat, (i : Int) < h 32 1 → h 9 (h 33 i).toNat = h 9 (lt (h 3) tl i).toNat) → P 1 h) (H0 : ¬ (h 32 1 = rd (h 3) (x + 35) ∧ ∀ i : Nat, (i : Int) < h 32 1 → h 9 (h 33 i).toNat = h 9 (lt (h 3) tl i).toNat) → P 0 h) : RunsI G 95 [vR 10, vR 32, vI x, vI tl] h P := by
  have b := hb.rd (show 0 ≤ x + 35 by omega) (show x + 35 < 13824 by omega)
  apply q_E_isLike_32
  refine D_get (by omega) (by omega) ?_
  rw [wI_id (z := h 32 1) (by omega) (by omega), wI_id (z := rd (h 3) (x + 35)) (by omega) (by omega)]
  refine ⟨fun c => ?_, fun c => ⟨Or.inl rfl, H0 (fun q => c q.1)⟩⟩
  have key : ∀ (m j : Nat), (j : Int) + m = h 32 1 → (∀ i : Nat, i < j → h 9 (h 33 i).toNat = h 9 (lt (h 3) tl i).toNat) → Go G (pI P) 95 23 [some (vR 10), some (vR 32), none, some (vI tl), some (vI (j : Int))] [] h := by
    intro m
    induction m with
    | zero =>
      intro j hm al
      apply q_E_isLike_32_c23
      rw [wI_id (z := (j : Int)) (by omega) (by omega), wI_id (z := h 32 1) (by omega) (by omega)]
      exact ⟨fun _ => ⟨Or.inr rfl, H1 ⟨c, fun i hi => al i (by omega)⟩⟩, fun q => by omega⟩
    | succ m ih =>
      intro j hm al
      apply q_E_isLike_32_c23
      rw [wI_id (z := (j : Int)) (by omega) (by omega), wI_id (z := h 32 1) (by omega) (by omega)]
      refine ⟨fun q => by omega, fun _ => ?_⟩
      refine N_at_32 (by omega) (by omega) (by omega) ?_
      rw [show (j : Int).toNat = j by omega]
      have v := hv j (by omega)
      have l := hl c.symm j (by omega)
      refine K_greatOf v.1 v.2 ?_
      have la' := la_rng (tl := tl) (i := (j : Int)) (by omega) (by omega)
      have g1 := hg (h 33 j).toNat (by omega)
      have g2 := hg (lt (h 3) tl j).toNat (by omega)
      have fin : RunsI G 55 [vR 1, vI (la tl (j : Int))] h (fun r4 h4 => RunsI G 19 [vR 8, vI r4] h4 (fun r5 h5 => ((wI (h 9 (h 33 j).toNat) = wI r5 → Go G (pI P) 95 23 [some (vR 10), some (vR 32), none, some (vI tl), some (vI ((j : Int) + 1))] [] h5) ∧ (¬ wI (h 9 (h 33 j).toNat) = wI r5 → (((0 : Int) = 0 ∨ (0 : Int) = 1) ∧ P 0 h5))))) := by
        refine D_u2 hb (by omega) (by omega) (K_greatOf l.1 l.2 ?_)
        have e : u2 (h 3) (la tl (j : Int)) = lt (h 3) tl j := rfl
        rw [e, wI_id (z := h 9 (h 33 j).toNat) (by omega) (by omega), wI_id (z := h 9 (lt (h 3) tl j).toNat) (by omega) (by omega)]
        refine ⟨fun q => ?_, fun q => ⟨Or.inl rfl, H0 (fun z => q (z.2 j (by omega)))⟩⟩
        rw [show (j : Int) + 1 = ((j + 1 : Nat) : Int) by omega]
        refine ih (j + 1) (by omega) (fun i hi => ?_)
        by_cases z : i = j
        · rw [z]; exact q
        · exact al i (by omega)
      apply q_E_letterAddress
      rw [wI_id (z := (j : Int)) (by omega) (by omega)]
      unfold la at fin
      refine ⟨fun q => ?_, fun q => ?_⟩
      · rw [if_neg (by omega)] at fin; exact fin
      · rw [if_pos (by omega)] at fin; exact fin
  exact key (h 32 1).toNat 0 (by omega) (fun i hi => by omega)
theorem E_unuseEntry {P : AH → Prop} {x : Int} (hd : Dk h) (h0 : 0 ≤ x) (h1 : x < 13824) (ht : 128 ≤ rd (h 3) x) (H : ∀ h', Upd h h' (wb (h 3) x 1 (un (rd (h 3) x))) → P h') : RunsV G 108 [vR 10, vI x] h P := by
  have b := hd.2.1.rd h0 h1
  apply q_E_unuseEntry
  refine D_get h0 h1 ?_
  have e : mm 0 (rd (h 3) x - 128) 1 = un (rd (h 3) x) := by
    rw [mm_0, wI_id (z := rd (h 3) x - 128) (by omega) (by omega), wI_id (z := 1) (by omega) (by omega)]
    unfold un
    split <;> split <;> omega
  rw [e]
  exact D_wb1 hd h0 h1 H
theorem S_setFat {P : AH → Prop} {c v : Int} (hd : Dk h) (hn : 16 ≤ h 7 1 ∧ h 7 1 ≤ 100) (hc : clu (h 7 1) c) (H : ∀ h', Upd h h' (wb (h 3) (512 + 4 * c) 4 v) → P h') : RunsV G 112 [vR 7, vI c, vI v] h P := by
  have hc' := hc
  unfold clu at hc'
  apply q_S_setFat
  refine S_isCluster hn (by omega) (fun _ => ⟨fun z => absurd z (by decide), fun _ => ?_⟩) (fun k => absurd hc k)
  exact D_wb4 hd (by omega) (by omega) H
theorem H_strike {P : Int → AH → Prop} {p F : Int} {K : Nat} {r : Nat → Int} (hr : Ro h 18 19 K r) (h0 : 0 ≤ p) (h1 : p < 4 * K)
    (H0 : h 17 12 = 0 → ∀ h', h' 17 15 = F → h' 17 16 = r (p / 4).toNat → h' 17 17 = p % 4 → (∀ k, k ≠ 15 → k ≠ 16 → k ≠ 17 → h' 17 k = h 17 k) → (∀ o, o ≠ 17 → h' o = h o) → P 0 h')
    (H1 : h 17 12 = 1 → P 1 (hs h 17 13 (h 17 13 + 1))) (hm : h 17 12 = 0 ∨ h 17 12 = 1) : RunsI G 46 [vR 17, vI p, vI F] h P := by
  have hk := hr.2.1
  apply q_H_strike
  refine ⟨fun c => ?_, fun c => ?_⟩
  · have c' : h 17 12 = 0 := by
      rcases hm with m | m
      · exact m
      · rw [m] at c; exact absurd c (by decide)
    refine ⟨by decide, ?_⟩
    rw [wI_id (z := p) (by omega) (by omega), tdiv_pos h0, tmod_pos h0]
    refine C_at_18 hr (by omega) (by omega) ⟨by decide, ?_⟩
    apply q_H_found
    have e : (hs (hs (hs h 17 15 F) 17 16 (r (p / 4).toNat)) 17 17 (p % 4)) 17 12 = 0 := by
      rw [hs_k _ _ _ _ _ (by decide), hs_k _ _ _ _ _ (by decide), hs_k _ _ _ _ _ (by decide)]; exact c'
    rw [e]
    refine ⟨Or.inl rfl, H0 c' _ ?_ ?_ ?_ (fun k a b d => ?_) (fun o ho => ?_)⟩
    · rw [hs_k _ _ _ _ _ (by decide), hs_k _ _ _ _ _ (by decide), hs_same]
    · rw [hs_k _ _ _ _ _ (by decide), hs_same]
    · rw [hs_same]
    · rw [hs_k _ _ _ _ _ d, hs_k _ _ _ _ _ b, hs_k _ _ _ _ _ a]
    · rw [hs_o _ _ _ _ _ ho, hs_o _ _ _ _ _ ho, hs_o _ _ _ _ _ ho]
  · have c' : h 17 12 = 1 := by
      rcases hm with m | m
      · rw [m] at c; exact absurd wI_0 c
      · exact m
    have e : (hs h 17 13 (h 17 13 + 1)) 17 12 = 1 := by rw [hs_k _ _ _ _ _ (by decide)]; exact c'
    rw [e]
    exact ⟨Or.inr rfl, H1 c'⟩
end CHAIN
