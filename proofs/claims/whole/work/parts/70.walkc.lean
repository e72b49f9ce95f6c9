/-! the walk: the class -/
noncomputable def dc (f : Nat → Int) (s : AH) : Nat → Nat
  | 0 => 0
  | j + 1 => dc f s j + @ite _ (dirJ f s j) (Classical.propDecidable _) 1 0
theorem dc_y {f : Nat → Int} {s : AH} {j : Nat} (h : dirJ f s j) : dc f s (j + 1) = dc f s j + 1 := by rw [dc, if_pos h]
theorem dc_n {f : Nat → Int} {s : AH} {j : Nat} (h : ¬ dirJ f s j) : dc f s (j + 1) = dc f s j := by rw [dc, if_neg h]; rfl
theorem dc_s {f : Nat → Int} {s : AH} (j : Nat) : dc f s j ≤ dc f s (j + 1) ∧ dc f s (j + 1) ≤ dc f s j + 1 := by
  by_cases h : dirJ f s j
  · rw [dc_y h]; omega
  · rw [dc_n h]; omega
theorem dc_le {f : Nat → Int} {s : AH} : ∀ j : Nat, dc f s j ≤ j
  | 0 => Nat.le_refl 0
  | j + 1 => by have := dc_le (f := f) (s := s) j; have := dc_s (f := f) (s := s) j; omega
theorem dc_mono {f : Nat → Int} {s : AH} {i : Nat} : ∀ d : Nat, dc f s i ≤ dc f s (i + d)
  | 0 => Nat.le_refl _
  | d + 1 => by have := dc_mono (f := f) (s := s) (i := i) d; have := dc_s (f := f) (s := s) (i + d); rw [show i + (d + 1) = i + d + 1 by omega]; omega
theorem dc_lt {f : Nat → Int} {s : AH} {i j : Nat} (h : dirJ f s i) (hij : i < j) : dc f s i < dc f s j := by
  have := dc_mono (f := f) (s := s) (i := i + 1) (j - (i + 1))
  rw [show i + 1 + (j - (i + 1)) = j by omega, dc_y h] at this
  omega
theorem dc_congr {f : Nat → Int} {s s' : AH} : ∀ {j : Nat}, (∀ i, i < j → s' 2 i = s 2 i) → dc f s' j = dc f s j
  | 0, _ => rfl
  | j + 1, h => by
    have ih := dc_congr (f := f) (s := s) (s' := s') (j := j) (fun i hi => h i (by omega))
    have e : dirJ f s' j ↔ dirJ f s j := by unfold dirJ; rw [h j (by omega)]
    by_cases q : dirJ f s j
    · rw [dc_y q, dc_y (e.mpr q), ih]
    · rw [dc_n q, dc_n (fun z => q (e.mp z)), ih]
def CR (f : Nat → Int) (md : Int) (s h : AH) : Prop := Dk h ∧ h 3 = s 5 ∧ Mt (h 24) (fun x => s 0 x.toNat ≠ -1) ∧ h 17 13 = s 6 0 ∧ h 17 12 = md ∧ h 17 11 = (dc f s (s 1 0).toNat : Nat) ∧ ∀ j : Nat, (j : Int) < s 1 0 → dirJ f s j → h 25 (dc f s j) = s 2 j
def CX (g : Nat → Int) (n root md : Int) (h : AH) : Prop := h 7 1 = n ∧ h 7 2 = root ∧ h 9 = g ∧ Gr g ∧ (16 ≤ n ∧ n ≤ 100) ∧ (md = 0 ∨ md = 1)
theorem CX_congr {g : Nat → Int} {n root md : Int} {h h' : AH} (a : h' 7 = h 7) (b : h' 9 = h 9) (X : CX g n root md h) : CX g n root md h' := by unfold CX at *; rw [a, b]; exact X
theorem Dk_congr {h h' : AH} (a : h' 2 = h 2) (b : h' 3 = h 3) (c : h' 4 = h 4) (D : Dk h) : Dk h' := by unfold Dk at *; rw [a, b, c]; exact D
theorem CR_congr {f : Nat → Int} {md : Int} {s h h' : AH} (C : CR f md s h) (a : h' 2 = h 2) (b : h' 3 = h 3) (c : h' 4 = h 4) (d : h' 24 = h 24) (e : h' 25 = h 25) (p : h' 17 11 = h 17 11) (q : h' 17 12 = h 17 12) (r : h' 17 13 = h 17 13) : CR f md s h' := by
  obtain ⟨c1, c2, c3, c4, c5, c6, c7⟩ := C
  exact ⟨Dk_congr a b c c1, by rw [b]; exact c2, by rw [d]; exact c3, by rw [r]; exact c4, by rw [q]; exact c5, by rw [p]; exact c6, by rw [e]; exact c7⟩
def FM (md : Int) (h h' : AH) : Prop := (∀ o, ¬ (o = 3 ∨ o = 4 ∨ o = 17 ∨ (20 ≤ o ∧ o ≤ 25)) → h' o = h o) ∧ (∀ k, ¬ (k = 11 ∨ k = 12 ∨ k = 13) → h' 17 k = h 17 k) ∧ (md = 0 → h' 4 = h 4)
def FM0 (md : Int) (h h' : AH) : Prop := (∀ o, ¬ (o = 3 ∨ o = 4 ∨ o = 17 ∨ (20 ≤ o ∧ o ≤ 25)) → h' o = h o) ∧ (∀ k, ¬ (k = 11 ∨ k = 12 ∨ k = 13 ∨ k = 15 ∨ k = 16 ∨ k = 17) → h' 17 k = h 17 k) ∧ (md = 0 → h' 4 = h 4)
theorem FM.w {md : Int} {h h' : AH} (a : FM md h h') : FM0 md h h' := ⟨a.1, fun k p => a.2.1 k (by omega), a.2.2⟩
theorem FM0.tr {md : Int} {h h1 h2 : AH} (a : FM0 md h h1) (b : FM0 md h1 h2) : FM0 md h h2 := ⟨fun o p => (b.1 o p).trans (a.1 o p), fun o p => (b.2.1 o p).trans (a.2.1 o p), fun p => (b.2.2 p).trans (a.2.2 p)⟩
theorem FM.rf (md : Int) (h : AH) : FM md h h := ⟨fun _ _ => rfl, fun _ _ => rfl, fun _ => rfl⟩
theorem FM.tr {md : Int} {h h1 h2 : AH} (a : FM md h h1) (b : FM md h1 h2) : FM md h h2 := ⟨fun o p => (b.1 o p).trans (a.1 o p), fun o p => (b.2.1 o p).trans (a.2.1 o p), fun p => (b.2.2 p).trans (a.2.2 p)⟩
theorem FM.o {md : Int} {h h' : AH} {x y : Nat} (a : ∀ o, o ≠ x → o ≠ y → h' o = h o) (hx : 20 ≤ x ∧ x ≤ 25) (hy : 20 ≤ y ∧ y ≤ 25) : FM md h h' := ⟨fun o p => a o (by omega) (by omega), fun _ _ => by rw [a 17 (by omega) (by omega)], fun _ => a 4 (by omega) (by omega)⟩
theorem FM.u {md : Int} {h h' : AH} {F : Nat → Int} (a : Upd h h' F) (hm : md = 1) : FM md h h' := ⟨fun o p => a.2.2 o (by omega) (by omega), fun _ _ => by rw [a.2.2 17 (by omega) (by omega)], fun z => by omega⟩
theorem FM.k {md : Int} {h : AH} {j : Nat} {v : Int} (hj : j = 11 ∨ j = 12 ∨ j = 13) : FM md h (hs h 17 j v) := ⟨fun o p => hs_o _ _ _ _ _ (by omega), fun k p => hs_k _ _ _ _ _ (by omega), fun _ => hs_o _ _ _ _ _ (by decide)⟩
section WC
variable {G : GG} {h : AH}
/-- the CLUSTERS of a place -/
theorem T_open_15 {P : AH → Prop} {p : Int} {K0 : Nat} (hb : By (h 3)) (hn : 16 ≤ h 7 1 ∧ h 7 1 ≤ 100) (hp : p = 0 ∨ (clu (h 7 1) (p / 4) ∧ p % 2 = 0 ∧ u4 (h 3) (ha p + 56) ≤ 12800)) (hc : ∀ i, i < rkP (h 3) K0 p → clu (h 7 1) (rwP (h 3) (h 7 2) p i)) (h0 : p = 0 → 1 ≤ K0 ∧ K0 ≤ 101 ∧ ¬ clu (h 7 1) (tc (h 3) 0 (h 7 2) K0))
    (H : ∀ h', Ro h' 15 16 (rkP (h 3) K0 p) (rwP (h 3) (h 7 2) p) → (∀ o, o ≠ 15 → o ≠ 16 → h' o = h o) → P h') : RunsV G 127 [vR 11, vI p, vR 15] h P := by
  apply q_T_open_15
  apply q_T_headOf
  by_cases z : p = 0
  · have z2 := h0 z
    subst z
    unfold rkP rwP at hc H
    rw [if_pos rfl] at hc H
    rw [if_pos rfl] at hc H
    refine ⟨fun _ => ?_, fun c => absurd wI_0 c⟩
    exact C_traceToEnd_15 hb hn ⟨z2.1, z2.2.1⟩ hc z2.2.2 H
  · rcases hp with z1 | ⟨a, b, c⟩
    · exact absurd z1 z
    · have r1 := ha_rng a hn.2
      have r2 := ha_rng2 a hn.2 b
      rw [wI_id (z := p) (by omega) (by omega)]
      refine ⟨fun q => absurd q z, fun _ => ?_⟩
      have u := u4_rng hb (show 0 ≤ ha p + 52 by omega) (show ha p + 52 + 3 < 13824 by omega)
      have u5 := u4_rng hb (show 0 ≤ ha p + 56 by omega) (show ha p + 56 + 3 < 13824 by omega)
      show RunsI G 87 [vR 10, vI (ha p)] h _
      refine E_first hb (by omega) (by omega) ?_
      show RunsI G 85 [vR 10, vI (ha p)] h _
      refine E_runB hb (by omega) (by omega) ?_
      show RunsI G 89 [vR 10, vI (ha p)] h _
      refine E_clusters hb (by omega) (by omega) c ?_
      unfold rkP rwP at hc H
      rw [if_neg z] at hc H
      rw [if_neg z] at hc H
      refine C_trace_15 hb hn u ?_ (by omega) (fun h' q _ => ?_) (fun h' r _ q1 _ q3 => H h' q1 q3)
      · split
        · exact Or.inr rfl
        · exact Or.inl rfl
      · obtain ⟨i, i1, i2⟩ := q
        exact absurd (hc i i1) i2
/-- the CLUSTERS of a place -/
theorem T_open_18 {P : AH → Prop} {p : Int} {K0 : Nat} (hb : By (h 3)) (hn : 16 ≤ h 7 1 ∧ h 7 1 ≤ 100) (hp : p = 0 ∨ (clu (h 7 1) (p / 4) ∧ p % 2 = 0 ∧ u4 (h 3) (ha p + 56) ≤ 12800)) (hc : ∀ i, i < rkP (h 3) K0 p → clu (h 7 1) (rwP (h 3) (h 7 2) p i)) (h0 : p = 0 → 1 ≤ K0 ∧ K0 ≤ 101 ∧ ¬ clu (h 7 1) (tc (h 3) 0 (h 7 2) K0))
    (H : ∀ h', Ro h' 18 19 (rkP (h 3) K0 p) (rwP (h 3) (h 7 2) p) → (∀ o, o ≠ 18 → o ≠ 19 → h' o = h o) → P h') : RunsV G 127 [vR 11, vI p, vR 18] h P := by
  apply q_T_open_18
  apply q_T_headOf
  by_cases z : p = 0
  · have z2 := h0 z
    subst z
    unfold rkP rwP at hc H
    rw [if_pos rfl] at hc H
    rw [if_pos rfl] at hc H
    refine ⟨fun _ => ?_, fun c => absurd wI_0 c⟩
    exact C_traceToEnd_18 hb hn ⟨z2.1, z2.2.1⟩ hc z2.2.2 H
  · rcases hp with z1 | ⟨a, b, c⟩
    · exact absurd z1 z
    · have r1 := ha_rng a hn.2
      have r2 := ha_rng2 a hn.2 b
      rw [wI_id (z := p) (by omega) (by omega)]
      refine ⟨fun q => absurd q z, fun _ => ?_⟩
      have u := u4_rng hb (show 0 ≤ ha p + 52 by omega) (show ha p + 52 + 3 < 13824 by omega)
      have u5 := u4_rng hb (show 0 ≤ ha p + 56 by omega) (show ha p + 56 + 3 < 13824 by omega)
      show RunsI G 87 [vR 10, vI (ha p)] h _
      refine E_first hb (by omega) (by omega) ?_
      show RunsI G 85 [vR 10, vI (ha p)] h _
      refine E_runB hb (by omega) (by omega) ?_
      show RunsI G 89 [vR 10, vI (ha p)] h _
      refine E_clusters hb (by omega) (by omega) c ?_
      unfold rkP rwP at hc H
      rw [if_neg z] at hc H
      rw [if_neg z] at hc H
      refine C_trace_18 hb hn u ?_ (by omega) (fun h' q _ => ?_) (fun h' r _ q1 _ q3 => H h' q1 q3)
      · split
        · exact Or.inr rfl
        · exact Or.inl rfl
      · obtain ⟨i, i1, i2⟩ := q
        exact absurd (hc i i1) i2
/-- the CLUSTERS of a place -/
theorem T_open_28 {P : AH → Prop} {p : Int} {K0 : Nat} (hb : By (h 3)) (hn : 16 ≤ h 7 1 ∧ h 7 1 ≤ 100) (hp : p = 0 ∨ (clu (h 7 1) (p / 4) ∧ p % 2 = 0 ∧ u4 (h 3) (ha p + 56) ≤ 12800)) (hc : ∀ i, i < rkP (h 3) K0 p → clu (h 7 1) (rwP (h 3) (h 7 2) p i)) (h0 : p = 0 → 1 ≤ K0 ∧ K0 ≤ 101 ∧ ¬ clu (h 7 1) (tc (h 3) 0 (h 7 2) K0))
    (H : ∀ h', Ro h' 28 29 (rkP (h 3) K0 p) (rwP (h 3) (h 7 2) p) → (∀ o, o ≠ 28 → o ≠ 29 → h' o = h o) → P h') : RunsV G 127 [vR 11, vI p, vR 28] h P := by
  apply q_T_open_28
  apply q_T_headOf
  by_cases z : p = 0
  · have z2 := h0 z
    subst z
    unfold rkP rwP at hc H
    rw [if_pos rfl] at hc H
    rw [if_pos rfl] at hc H
    refine ⟨fun _ => ?_, fun c => absurd wI_0 c⟩
    exact C_traceToEnd_28 hb hn ⟨z2.1, z2.2.1⟩ hc z2.2.2 H
  · rcases hp with z1 | ⟨a, b, c⟩
    · exact absurd z1 z
    · have r1 := ha_rng a hn.2
      have r2 := ha_rng2 a hn.2 b
      rw [wI_id (z := p) (by omega) (by omega)]
      refine ⟨fun q => absurd q z, fun _ => ?_⟩
      have u := u4_rng hb (show 0 ≤ ha p + 52 by omega) (show ha p + 52 + 3 < 13824 by omega)
      have u5 := u4_rng hb (show 0 ≤ ha p + 56 by omega) (show ha p + 56 + 3 < 13824 by omega)
      show RunsI G 87 [vR 10, vI (ha p)] h _
      refine E_first hb (by omega) (by omega) ?_
      show RunsI G 85 [vR 10, vI (ha p)] h _
      refine E_runB hb (by omega) (by omega) ?_
      show RunsI G 89 [vR 10, vI (ha p)] h _
      refine E_clusters hb (by omega) (by omega) c ?_
      unfold rkP rwP at hc H
      rw [if_neg z] at hc H
      rw [if_neg z] at hc H
      refine C_trace_28 hb hn u ?_ (by omega) (fun h' q _ => ?_) (fun h' r _ q1 _ q3 => H h' q1 q3)
      · split
        · exact Or.inr rfl
        · exact Or.inl rfl
      · obtain ⟨i, i1, i2⟩ := q
        exact absurd (hc i i1) i2
theorem E_unuse {P : AH → Prop} {x tl : Int} (hd : Dk h) (x0 : 0 ≤ x) (x1 : x + 64 ≤ 13824) (t0 : 0 ≤ tl) (t1 : tl + 64 ≤ 13824) (hc : rd (h 3) (x + 1) = 2 ∨ rd (h 3) (x + 1) = 3) (y0 : 128 ≤ rd (h 3) x) (y1 : 128 ≤ rd (h 3) (x + 32)) (y2 : 128 ≤ rd (h 3) tl) (y3 : rd (h 3) (x + 1) = 3 → 128 ≤ rd (h 3) (tl + 32)) (ds : x + 64 ≤ tl ∨ tl + 64 ≤ x)
    (H : ∀ h', Upd h h' (if rd (h 3) (x + 1) = 3 then wb (wb (wb (wb (h 3) x 1 (un (rd (h 3) x))) (x + 32) 1 (un (rd (h 3) (x + 32)))) tl 1 (un (rd (h 3) tl))) (tl + 32) 1 (un (rd (h 3) (tl + 32))) else wb (wb (wb (h 3) x 1 (un (rd (h 3) x))) (x + 32) 1 (un (rd (h 3) (x + 32)))) tl 1 (un (rd (h 3) tl))) → P h') : RunsV G 107 [vR 10, vI x, vI tl] h P := by
  apply q_E_unuse
  refine E_entries (by omega) (by omega) ?_
  refine E_unuseEntry hd (by omega) (by omega) y0 (fun h1 u1 => ?_)
  have a1 : ∀ a, 0 ≤ a → a ≠ x → rd (h1 3) a = rd (h 3) a := fun a a0 ne => by rw [u1.2.1]; exact rd_wb_ne (by omega) a0 (by omega)
  refine E_unuseEntry u1.1 (by omega) (by omega) (by rw [a1 _ (by omega) (by omega)]; exact y1) (fun h2 u2 => ?_)
  rw [a1 _ (by omega) (by omega), u1.2.1] at u2
  have U2 := u1.trans u2
  have a2 : ∀ a, 0 ≤ a → a ≠ x → a ≠ x + 32 → rd (h2 3) a = rd (h 3) a := fun a a0 ne ne2 => by rw [u2.2.1, rd_wb_ne (by omega) a0 (by omega)]; exact rd_wb_ne (by omega) a0 (by omega)
  apply q_E_unuse_c24
  rw [wI_id (z := 1 + rd (h 3) (x + 1) - 2) (by omega) (by omega), wI_0]
  refine ⟨fun c => by omega, fun _ => ?_⟩
  rw [show tl + 32 * 0 = tl by omega]
  refine E_unuseEntry u2.1 (by omega) (by omega) (by rw [a2 _ (by omega) (by omega) (by omega)]; exact y2) (fun h3 u3 => ?_)
  rw [a2 _ (by omega) (by omega) (by omega), u2.2.1] at u3
  have U3 := U2.trans u3
  have a3 : ∀ a, 0 ≤ a → a ≠ x → a ≠ x + 32 → a ≠ tl → rd (h3 3) a = rd (h 3) a := fun a a0 ne ne2 ne3 => by rw [u3.2.1, rd_wb_ne (by omega) a0 (by omega), rd_wb_ne (by omega) a0 (by omega)]; exact rd_wb_ne (by omega) a0 (by omega)
  apply q_E_unuse_c24
  rw [wI_id (z := 1 + rd (h 3) (x + 1) - 2) (by omega) (by omega), wI_id (z := (0 : Int) + 1) (by omega) (by omega)]
  refine ⟨fun c => ?_, fun c => ?_⟩
  · rw [if_neg (by omega)] at H
    exact H h3 U3
  · rw [if_pos (by omega)] at H
    rw [show tl + 32 * (0 + 1) = tl + 32 by omega]
    refine E_unuseEntry u3.1 (by omega) (by omega) (by rw [a3 _ (by omega) (by omega) (by omega) (by omega)]; exact y3 (by omega)) (fun h4 u4 => ?_)
    rw [a3 _ (by omega) (by omega) (by omega) (by omega), u3.2.1] at u4
    apply q_E_unuse_c24
    rw [wI_id (z := 1 + rd (h 3) (x + 1) - 2) (by omega) (by omega), wI_id (z := (0 : Int) + 1 + 1) (by omega) (by omega)]
    exact ⟨fun _ => H h4 (U3.trans u4), fun c => by omega⟩
theorem H_meets {P : Int → AH → Prop} {p x4 : Int} {K : Nat} {t : Nat → Int} {M : Int → Prop} (hb : By (h 3)) (ro : Ro h 20 21 K t) (hv : ∀ i, i < K → 0 ≤ t i ∧ t i ≤ 101) (mt : Mt (h 24) M) (h0 : 0 ≤ ha p) (h1 : ha p + 64 ≤ 13824) (p0 : 0 ≤ p) (ad : At (u2 (h 3) (ha p + 4))) (hq : 0 ≤ h 17 11 ∧ h 17 11 < 102)
    (H0 : ∀ b, ¬ isD (h 3) (ha p) → Mt (b 24) (fun x => M x ∨ ∃ j, j < K ∧ t j = x) → (∀ o, o ≠ 24 → b o = h o) → P x4 b)
    (H1 : ∀ b, isD (h 3) (ha p) → Mt (b 24) (fun x => M x ∨ ∃ j, j < K ∧ t j = x) → b 17 11 = h 17 11 + 1 → (∀ k, k ≠ 11 → b 17 k = h 17 k) → b 25 = st (h 25) (h 17 11).toNat p → (∀ o, o ≠ 24 → o ≠ 17 → o ≠ 25 → b o = h o) → P x4 b) : Go G (pI P) 47 198 [some (vR 17), none, some (vI (ha p)), none, some (vI x4), none, none, some (vI 0)] [] h := by
  have hk := ro.2.1
  have key : ∀ (m i : Nat) (b : AH), i + m = K → Mt (b 24) (fun x => M x ∨ ∃ j, j < i ∧ t j = x) → (∀ o, o ≠ 24 → b o = h o) → Go G (pI P) 47 198 [some (vR 17), none, some (vI (ha p)), none, some (vI x4), none, none, some (vI (i : Int))] [] b := by
    intro m
    induction m with
    | zero =>
      intro i b hm mb ob
      apply q_H_meetSet_c198
      rw [ob 20 (by decide), ro.1, wI_id (z := (i : Int)) (by omega) (by omega), wI_id (z := (K : Int)) (by omega) (by omega)]
      refine ⟨fun _ => ?_, fun c => by omega⟩
      have ek : i = K := (by omega)
      rw [ek] at mb
      have e3 : b 3 = h 3 := ob 3 (by decide)
      refine E_isDirectory (by rw [e3]; exact hb) h0 h1 (by rw [e3]; exact ad) (fun q => ?_) (fun q => ⟨fun _ => H0 b (by rw [← e3]; exact q) mb ob, fun z => absurd wI_0 z⟩)
      refine ⟨fun z => absurd z (by decide), fun _ => ?_⟩
      rw [ob 17 (by decide), wI_id (z := h 17 11) (by omega) (by omega)]
      refine ⟨fun c => by omega, fun _ => ?_⟩
      refine T_placeOf p0 (by unfold ha at h1; omega) ⟨by omega, ?_⟩
      refine H1 _ (by rw [← e3]; exact q) ?_ ?_ (fun k hk => ?_) ?_ (fun o p q r => ?_)
      · rw [hs_o _ _ _ _ _ (by decide), hs_o _ _ _ _ _ (by decide)]; exact mb
      · rw [hs_o _ _ _ _ _ (by decide), hs_same]
      · rw [hs_o _ _ _ _ _ (by decide), hs_k _ _ _ _ _ hk, ob 17 (by decide)]
      · funext j
        rw [hs_app, if_pos rfl]
        by_cases z : j = (h 17 11).toNat
        · rw [if_pos z, z, st_s]
        · rw [if_neg z, st_n _ _ z, hs_o _ _ _ _ _ (by decide), ob 25 (by decide)]
      · rw [hs_o _ _ _ _ _ r, hs_o _ _ _ _ _ q]; exact ob o p
    | succ m ih =>
      intro i b hm mb ob
      apply q_H_meetSet_c198
      rw [ob 20 (by decide), ro.1, wI_id (z := (i : Int)) (by omega) (by omega), wI_id (z := (K : Int)) (by omega) (by omega)]
      refine ⟨fun c => by omega, fun _ => ?_⟩
      have rb : Ro b 20 21 K t := by unfold Ro; rw [ob 20 (by decide), ob 21 (by decide)]; exact ro
      refine C_at_20 rb (by omega) (by omega) ?_
      rw [show (i : Int).toNat = i by omega]
      have v := hv i (by omega)
      refine H_meet v (fun b2 e2 o2 => ?_)
      rw [show (i : Int) + 1 = ((i + 1 : Nat) : Int) by omega]
      refine ih (i + 1) b2 (by omega) ?_ (fun o ho => (o2 o ho).trans (ob o ho))
      rw [e2]
      refine Mt_congr (Mt_set mb v.1) (fun x _ _ => ⟨?_, ?_⟩)
      · rintro ((q | ⟨j, j1, j2⟩) | q)
        · exact Or.inl q
        · exact Or.inr ⟨j, by omega, j2⟩
        · exact Or.inr ⟨i, by omega, q.symm⟩
      · rintro (q | ⟨j, j1, j2⟩)
        · exact Or.inl (Or.inl q)
        · by_cases z : j = i
          · rw [z] at j2; exact Or.inr j2.symm
          · exact Or.inl (Or.inr ⟨j, by omega, j2⟩)
  exact key K 0 h (by omega) (Mt_congr mt (fun x _ _ => ⟨fun q => Or.inl q, fun q => by
    rcases q with q | ⟨j, j1, _⟩
    · exact q
    · omega⟩)) (fun _ _ => rfl)
section WD
variable {f g : Nat → Int} {n root : Int} {K0 : Nat} {md : Int} {s : AH} {k : Nat} {e : Int}
theorem lt_hi (S : SI f g n root K0 md s k e) {tl : Int} (t0 : 1024 ≤ tl) (t1 : tl + 64 ≤ 13824) (t2 : tl % 32 = 0) {i : Nat} (hi : i < 30) : lt (s 5) tl i = lt f tl i := by
  have r := la_rng (tl := tl) (i := (i : Int)) (by omega) (by omega)
  have m : 1 ≤ la tl (i : Int) % 32 ∧ la tl (i : Int) % 32 ≤ 30 := by
    unfold la
    split <;> omega
  exact u2_cg (SI_hi S (by omega) (by omega) (by omega)) (SI_hi S (by omega) (by omega) (by omega))
theorem H_hasLikeBefore {P : Int → AH → Prop} (S : SI f g n root K0 md s k e) (X : CX g n root md h) (h3 : h 3 = s 5) (ro : Ro h 18 19 (rkJ f K0 s k) (rwJ f root s k)) (hk : (k : Int) < s 1 0) (h0 : 0 ≤ e) (h1 : e < 4 * (rkJ f K0 s k : Int)) (he : e % 2 = 0) (ok : SetOK f g n (ea (rwJ f root s k) e) (ea (rwJ f root s k) (e + 2)) (4 * (rkJ f K0 s k : Int) - e)) (n1 : h 22 1 = rd f (ea (rwJ f root s k) e + 35)) (n2 : ∀ i : Nat, (i : Int) < rd f (ea (rwJ f root s k) e + 35) → h 23 i = lt f (ea (rwJ f root s k) (e + 2)) i) (H1 : lik f g root s k e → P 1 h) (H0 : ¬ lik f g root s k e → P 0 h) : RunsI G 49 [vR 17, vI e] h P := by
  obtain ⟨x1, x2, x3, x4, x5, x6⟩ := X
  have bw : By (s 5) := S.2.2.2.2.2.2.2.2.1.2.1
  have rl := ro.2.1
  apply q_H_hasLikeBefore
  have key : ∀ (m : Nat) (q : Int), 0 ≤ q → q % 2 = 0 → q + 2 * m = e → (∀ q', 0 ≤ q' → q' < q → inS s k q' → ¬ Lk f g (ea (rwJ f root s k) e) (ea (rwJ f root s k) (e + 2)) (ea (rwJ f root s k) q') (ea (rwJ f root s k) (q' + 2))) → Go G (pI P) 49 2 [some (vR 17), some (vI e), some (vI q), none] [] h := by
    intro m
    induction m with
    | zero =>
      intro q q0 q2 hm no
      apply q_H_hasLikeBefore_c2
      rw [wI_id (z := e) (by omega) (by omega), wI_id (z := q) (by omega) (by omega)]
      refine ⟨fun _ => ⟨Or.inl rfl, H0 (fun ⟨j, j1, j2, j3, j4⟩ => ?_)⟩, fun c => by omega⟩
      have i4 := S.2.2.2.1 j j1 j2
      have i10 := S.2.2.2.2.2.2.2.2.2 j j1 j2
      exact no (s 4 j) (by omega) (by omega) ⟨j, j1, j2, j3, rfl⟩ j4
    | succ m ih =>
      intro q q0 q2 hm no
      apply q_H_hasLikeBefore_c2
      rw [wI_id (z := e) (by omega) (by omega), wI_id (z := q) (by omega) (by omega)]
      refine ⟨fun c => by omega, fun _ => ?_⟩
      refine C_entry_18 ro q0 (by omega) ?_
      have rq := SI_ear S x5.2 hk q0 (show q < 4 * (rkJ f K0 s k : Int) by omega)
      have rq1 := SI_ear S x5.2 hk (q := q + 1) (by omega) (by omega)
      rw [ea_s q0 q2] at rq1
      refine D_get (by omega) (by omega) ?_
      have b := bw.rd (show 0 ≤ ea (rwJ f root s k) q by omega) (show ea (rwJ f root s k) q < 13824 by omega)
      rw [h3, wI_id (z := rd (s 5) (ea (rwJ f root s k) q)) (by omega) (by omega), S.2.2.2.2.2.2.2.1.1 q q0 (by omega)]
      have go : (¬ (inS s k q ∧ Lk f g (ea (rwJ f root s k) e) (ea (rwJ f root s k) (e + 2)) (ea (rwJ f root s k) q) (ea (rwJ f root s k) (q + 2)))) → Go G (pI P) 49 2 [some (vR 17), some (vI e), some (vI (q + 2)), none] [] h := by
        intro nn
        refine ih (q + 2) (by omega) (by omega) (by omega) (fun q' a0 a1 a2 a3 => ?_)
        by_cases z : q' = q
        · rw [z] at a2 a3; exact nn ⟨a2, a3⟩
        · by_cases z2 : q' = q + 1
          · obtain ⟨j, j1, j2, j3, j4⟩ := a2
            have i4 := S.2.2.2.1 j j1 j2
            omega
          · exact no q' a0 (by omega) a2 a3
      refine ⟨fun c => ?_, fun c => go (fun z => c z.1)⟩
      obtain ⟨j, j1, j2, j3, j4⟩ := id c
      obtain ⟨p1, p2, p3, p4, p5⟩ := S.2.2.2.1 j j1 j2
      rw [show (s 3 j).toNat = k by omega, j4] at p5
      have s3 := SetOK_3 p5
      have e3 := SetOK_3 ok
      have t3 : q + 2 + 1 < 4 * (rkJ f K0 s k : Int) := by omega
      have tq := SI_ear S x5.2 hk (q := q + 2) (by omega) (by omega)
      have tq1 := SI_ear S x5.2 hk (q := q + 2 + 1) (by omega) (by omega)
      rw [ea_s (q := q + 2) (by omega) (by omega)] at tq1
      refine C_entry_18 ro (by omega) (by omega) ?_
      have a35 : rd (s 5) (ea (rwJ f root s k) q + 35) = rd f (ea (rwJ f root s k) q + 35) := by
        have := ea_al (rwJ f root s k) q
        exact SI_hi S (by omega) (by omega) (by omega)
      have nq : rd f (ea (rwJ f root s k) q + 35) ≤ 30 := p5.2.2.2.1.1
      have ne' : rd f (ea (rwJ f root s k) e + 35) ≤ 30 := ok.2.2.2.1.1
      have ne1 : 1 ≤ rd f (ea (rwJ f root s k) e + 35) := ok.2.2.2.1.2.2.1.1
      have lts : ∀ i : Nat, i < 30 → lt (s 5) (ea (rwJ f root s k) (q + 2)) i = lt f (ea (rwJ f root s k) (q + 2)) i := fun i hi => lt_hi S (by omega) (by omega) (ea_al _ _) hi
      have cnd : (h 22 1 = rd (h 3) (ea (rwJ f root s k) q + 35) ∧ ∀ i : Nat, (i : Int) < h 22 1 → h 9 (h 23 i).toNat = h 9 (lt (h 3) (ea (rwJ f root s k) (q + 2)) i).toNat) ↔ Lk f g (ea (rwJ f root s k) e) (ea (rwJ f root s k) (e + 2)) (ea (rwJ f root s k) q) (ea (rwJ f root s k) (q + 2)) := by
        rw [n1, h3, a35, x3]
        refine ⟨fun z => ⟨z.1, fun i hi => ?_⟩, fun z => ⟨z.1, fun i hi => ?_⟩⟩
        · have := z.2 i hi
          rw [n2 i hi, lts i (by omega)] at this
          exact this
        · rw [n2 i hi, lts i (by omega)]
          exact z.2 i hi
      refine E_isLike_22 (by rw [h3]; exact bw) (by omega) (by omega) (by omega) (by omega) (by omega) (fun i hi => ?_) (fun q9 i hi => ?_) (by rw [x3]; exact x4) (fun z => ?_) (fun z => ?_)
      · rw [n1] at hi
        rw [n2 i hi]
        have := isLet_rng (ok.2.2.2.1.2.2.1.2.2.1 i hi)
        omega
      · rw [h3, a35] at q9
        rw [← q9] at hi
        rw [h3, lts i (by omega)]
        have := isLet_rng (p5.2.2.2.1.2.2.1.2.2.1 i hi)
        omega
      · refine ⟨fun y => absurd y (by decide), fun _ => ⟨Or.inr rfl, H1 ⟨j, j1, j2, j3, ?_⟩⟩⟩
        rw [j4]
        exact cnd.mp z
      · refine ⟨fun _ => go (fun y => z (cnd.mpr y.2)), fun y => absurd wI_0 y⟩
  exact key (e / 2).toNat 0 (by omega) (by omega) (by omega) (fun q' a b => by omega)
theorem H_faultOf {P : Int → AH → Prop} {st' : Int} {B O M D : Prop} {K : Nat} {t : Nat → Int} (S : SI f g n root K0 md s k e) (X : CX g n root md h) (h3 : h 3 = s 5) (mt : Mt (h 24) (fun x => s 0 x.toNat ≠ -1)) (m12 : h 17 12 = md) (ro : Ro h 18 19 (rkJ f K0 s k) (rwJ f root s k)) (hk : (k : Int) < s 1 0) (h0 : 0 ≤ e) (h1 : e < 4 * (rkJ f K0 s k : Int)) (he : e % 2 = 0) (ok : SetOK f g n (ea (rwJ f root s k) e) (ea (rwJ f root s k) (e + 2)) (4 * (rkJ f K0 s k : Int) - e)) (n1 : h 22 1 = rd f (ea (rwJ f root s k) e + 35)) (n2 : ∀ i : Nat, (i : Int) < rd f (ea (rwJ f root s k) e + 35) → h 23 i = lt f (ea (rwJ f root s k) (e + 2)) i)
    (hs9 : (st' = 1 ∧ B) ∨ (¬ B ∧ Ro h 20 21 K t ∧ (∀ i, i < K → clu n (t i)) ∧ ((st' = 0 ∧ ¬ O) ∨ (st' = 2 ∧ O)))) (hM : M ↔ ∃ i, i < K ∧ s 0 (t i).toNat ≠ -1) (hD : D ↔ ∃ i i', i < i' ∧ i' < K ∧ t i = t i')
    (H : ∀ F, FCA B O M D (lik f g root s k e) md F → P F h) : RunsI G 48 [vR 17, vI e, vI st'] h P := by
  have x6 := X.2.2.2.2.2
  have x5 := X.2.2.2.2.1
  have sr : 0 ≤ st' ∧ st' ≤ 2 := by
    rcases hs9 with ⟨z, _⟩ | ⟨_, _, _, ⟨z, _⟩ | ⟨z, _⟩⟩ <;> rw [z] <;> decide
  have es : wI st' = st' := wI_id (Int.le_trans (by decide) sr.1) (Int.lt_of_le_of_lt sr.2 (by decide))
  have em : wI md = md := by
    rcases x6 with z | z <;> rw [z] <;> decide
  apply q_H_faultOf
  rw [m12, es, em]
  refine ⟨fun c => ?_, fun c => ?_⟩
  · rcases hs9 with ⟨_, b⟩ | ⟨_, _, _, z⟩
    · exact H 6 (Or.inl ⟨rfl, Or.inl b⟩)
    · omega
  · rcases hs9 with ⟨z, _⟩ | ⟨nb, r2, cl, z⟩
    · exact absurd z c
    · have rl := r2.2.1
      have lp : ¬ (O ∧ md = 0) → Go G (pI P) 48 22 [some (vR 17), some (vI e), some (vI st'), some (vI 0)] [] h := by
        intro no
        have nbo : ¬ (B ∨ (O ∧ md = 0)) := fun q => q.elim nb no
        have key : ∀ (m i : Nat), i + m = K → (∀ j, j < i → s 0 (t j).toNat = -1) → Go G (pI P) 48 22 [some (vR 17), some (vI e), some (vI st'), some (vI (i : Int))] [] h := by
          intro m
          induction m with
          | zero =>
            intro i hm al
            apply q_H_faultOf_c22
            rw [r2.1, wI_id (z := (i : Int)) (by omega) (by omega), wI_id (z := (K : Int)) (by omega) (by omega), es]
            have nm : ¬ M := fun q => by
              obtain ⟨j, j1, j2⟩ := hM.mp q
              exact j2 (al j (by omega))
            refine ⟨fun _ => ⟨fun c2 => ?_, fun c2 => ?_⟩, fun q => by omega⟩
            · have hO : O := by
                rcases z with ⟨a, _⟩ | ⟨_, b⟩
                · omega
                · exact b
              refine C_hasTwice r2 (fun j hj => by have := cl j hj; unfold clu at this; omega) (fun q => ⟨fun y => absurd y (by decide), fun _ => H 7 (Or.inr (Or.inl ⟨rfl, nbo, Or.inr ⟨hO, hD.mpr q⟩⟩))⟩) (fun q => ⟨fun _ => ?_, fun y => absurd wI_0 y⟩)
              have nmd : ¬ (M ∨ (O ∧ D)) := fun y => y.elim nm (fun y => q (hD.mp y.2))
              exact H_hasLikeBefore S X h3 ro hk h0 h1 he ok n1 n2 (fun l => ⟨fun y => absurd y (by decide), fun _ => H 8 (Or.inr (Or.inr ⟨nbo, nmd, Or.inl ⟨rfl, l⟩⟩))⟩) (fun l => ⟨fun _ => H 0 (Or.inr (Or.inr ⟨nbo, nmd, Or.inr ⟨rfl, l⟩⟩)), fun y => absurd wI_0 y⟩)
            · have nO : ¬ O := by
                rcases z with ⟨_, b⟩ | ⟨a, _⟩
                · exact b
                · omega
              have nmd : ¬ (M ∨ (O ∧ D)) := fun y => y.elim nm (fun y => nO y.1)
              exact H_hasLikeBefore S X h3 ro hk h0 h1 he ok n1 n2 (fun l => ⟨fun y => absurd y (by decide), fun _ => H 8 (Or.inr (Or.inr ⟨nbo, nmd, Or.inl ⟨rfl, l⟩⟩))⟩) (fun l => ⟨fun _ => H 0 (Or.inr (Or.inr ⟨nbo, nmd, Or.inr ⟨rfl, l⟩⟩)), fun y => absurd wI_0 y⟩)
          | succ m ih =>
            intro i hm al
            apply q_H_faultOf_c22
            rw [r2.1, wI_id (z := (i : Int)) (by omega) (by omega), wI_id (z := (K : Int)) (by omega) (by omega)]
            refine ⟨fun q => by omega, fun _ => ?_⟩
            refine C_at_20 r2 (by omega) (by omega) ?_
            rw [show (i : Int).toNat = i by omega]
            have ci := cl i (by omega)
            unfold clu at ci
            refine H_isMet mt (by omega) (fun q => ⟨fun y => absurd y (by decide), fun _ => H 7 (Or.inr (Or.inl ⟨rfl, nbo, Or.inl (hM.mpr ⟨i, by omega, q⟩)⟩))⟩) (fun q => ⟨fun _ => ?_, fun y => absurd wI_0 y⟩)
            rw [show (i : Int) + 1 = ((i + 1 : Nat) : Int) by omega]
            refine ih (i + 1) (by omega) (fun j hj => ?_)
            by_cases z : j = i
            · rw [z]; exact Classical.not_not.mp q
            · exact al j (by omega)
        exact key K 0 (by omega) (fun j hj => by omega)
      refine ⟨fun c2 => ⟨fun c3 => ?_, fun c3 => lp (fun q => c3 q.2)⟩, fun c2 => lp (fun q => ?_)⟩
      · have hO : O := by
          rcases z with ⟨a, _⟩ | ⟨_, b⟩
          · omega
          · exact b
        exact H 6 (Or.inl ⟨rfl, Or.inr ⟨hO, c3⟩⟩)
      · rcases z with ⟨_, b⟩ | ⟨a, _⟩
        · exact b q.1
        · exact c2 a
end WD
end WC
