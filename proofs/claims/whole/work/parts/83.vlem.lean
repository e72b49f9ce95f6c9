/-! the mounted volume: what follows -/
section VL
variable {f g : Nat → Int} {n root mp : Int} {t R : AH}
theorem V_e (v : V f g n root mp t R) {j : Nat} (j1 : 1 ≤ j) (a : al t j) : t 3 j + 3 ≤ 4 * (Kt t (pt t j) : Int) := by
  have s3 := SetOK_3 (v.2.1 j j1 a).2
  omega
theorem V_cl (v : V f g n root mp t R) {j : Nat} (j1 : 1 ≤ j) (a : al t j) : clu n (t 1 j / 4) ∧ t 1 j % 2 = 0 ∧ ha (t 1 j) = ea (R (pt t j)) (t 3 j) ∧ 8 ≤ t 1 j ∧ t 1 j ≤ 407 ∧ t 1 j / 4 = R (pt t j) (t 3 j / 4).toNat := by
  obtain ⟨p1, p2, p3, p4, p5⟩ := v.1.2.2.2.1 j j1 a
  have e := V_e v j1 a
  have c := (v.1.2.1 _ p1 (t 3 j / 4).toNat (by omega)).1
  have nn := v.2.2.2.2.2.2.2.2.2.1
  have q : t 1 j / 4 = R (pt t j) (t 3 j / 4).toNat := (by omega)
  have c2 := c
  unfold clu at c2
  refine ⟨by rw [q]; exact c, by omega, ?_, by omega, by omega, q⟩
  rw [p3]
  exact ha_ea.symm
theorem V_n (v : V f g n root mp t R) : 16 ≤ n ∧ n ≤ 100 := v.2.2.2.2.2.2.2.2.2.1
theorem V_by (v : V f g n root mp t R) : By f := v.2.2.2.2.2.2.2.2.1
theorem V_mp (v : V f g n root mp t R) : clu n mp := v.2.2.2.2.2.2.2.2.2.2
theorem V_c1 (v : V f g n root mp t R) {j j' : Nat} (j1 : 1 ≤ j) (a : al t j) (j1' : 1 ≤ j') (a' : al t j') (h : t 1 j / 4 = t 1 j' / 4) : j = j' := by
  obtain ⟨p1, p2, p3, p4, p5⟩ := v.1.2.2.2.1 j j1 a
  obtain ⟨q1, q2, q3, q4, q5⟩ := v.1.2.2.2.1 j' j1' a'
  have e := V_e v j1 a
  have e' := V_e v j1' a'
  have c := V_cl v j1 a
  have c' := V_cl v j1' a'
  have o := v.1.2.2.1 (pt t j) (pt t j') (t 3 j / 4).toNat (t 3 j' / 4).toNat p1 q1 (by omega) (by omega) (by omega)
  have s := SetOK_3 (v.2.1 j j1 a).2
  have s' := SetOK_3 (v.2.1 j' j1' a').2
  have o1 := o.1
  have o2 := o.2
  by_cases z : t 3 j = t 3 j'
  · exact v.1.2.2.2.2 j j' j1 j1' a a' o1 z
  · rw [← o1] at s'
    by_cases z2 : t 3 j' = t 3 j + 2
    · rw [z2] at s'
      have := s.2.2.2.2.1
      have := s'.2.2.1
      omega
    · have z3 : t 3 j = t 3 j' + 2 := (by omega)
      rw [z3] at s
      have := s'.2.2.2.2.1
      have := s.2.2.1
      omega
theorem V_inj (v : V f g n root mp t R) {j j' : Nat} (a : al t j) (a' : al t j') (h : t 1 j = t 1 j') : j = j' := by
  have z0 := v.1.1.2.1
  by_cases c : j = 0
  · by_cases c' : j' = 0
    · omega
    · have := V_cl v (j := j') (by omega) a'
      rw [c] at h
      omega
  · by_cases c' : j' = 0
    · have := V_cl v (j := j) (by omega) a
      rw [c'] at h
      omega
    · exact V_c1 v (by omega) a (by omega) a' (by rw [h])
theorem V_K (v : V f g n root mp t R) {j : Nat} (a : al t j) : (Kt t j : Int) ≤ n := by
  have nn := V_n v
  exact php2 (fun i hi => (v.1.2.1 j a i hi).1) (by omega) (fun i i' p q z => by
    have := (v.1.2.2.1 j j i i' a a (by omega) q z).2
    omega)
theorem V_cnt (v : V f g n root mp t R) {Q : Nat} {κ : Nat → Nat} (h : ∀ i, i < Q → 1 ≤ κ i ∧ al t (κ i)) (d : ∀ i i', i < i' → i' < Q → κ i ≠ κ i') : (Q : Int) ≤ n := by
  have nn := V_n v
  exact php2 (F := fun i => t 1 (κ i) / 4) (fun i hi => (V_cl v (h i hi).1 (h i hi).2).1) (by omega) (fun i i' p q z => d i i' p q (V_c1 v (h i (by omega)).1 (h i (by omega)).2 (h i' q).1 (h i' q).2 z))
theorem V_ln (v : V f g n root mp t R) {j : Nat} (j1 : 1 ≤ j) (a : al t j) : SetOK f g n (ha (t 1 j)) (ea (R (pt t j)) (t 3 j + 2)) (4 * (Kt t (pt t j) : Int) - t 3 j) := by
  have s := (v.2.1 j j1 a).2
  unfold VS at s
  rw [← (V_cl v j1 a).2.2.1] at s
  exact s
theorem V_Kd (v : V f g n root mp t R) {j : Nat} (a : al t j) (d : dirT f t j) : 1 ≤ Kt t j := by
  by_cases c : j = 0
  · rw [c]; exact v.1.1.2.2
  · have j1 : 1 ≤ j := (by omega)
    have l := (V_ln v j1 a).2.2.1.2.2.2.2.1
    have cl := V_cl v j1 a
    have nn := V_n v
    have rb := ha_rng2 cl.1 nn.2 cl.2.1
    have ra := ha_rng cl.1 nn.2
    have u := u4_rng (V_by v) (show 0 ≤ ha (t 1 j) + 56 by omega) (show ha (t 1 j) + 56 + 3 < 13824 by omega)
    have d' : isD f (ha (t 1 j)) := by
      rcases d with d | d
      · exact absurd d c
      · exact d
    have l2 := l d'
    have r := (v.2.2.1 j a).1
    unfold rkP at r
    rw [if_neg (by omega)] at r
    omega
/-- an ENTRY of TYPE 133 in a DIRECTORY is a SET -/
theorem V_ty (v : V f g n root mp t R) {j : Nat} (a : al t j) (d : dirT f t j) {i : Nat} (hi : i < Kt t j) {o : Int} (o0 : 0 ≤ o) (o1 : o < 4) (ty : rd f (ha (4 * R j i + o)) = 133) : ∃ j', 1 ≤ j' ∧ al t j' ∧ pt t j' = j ∧ t 3 j' = 4 * (i : Int) + o ∧ t 1 j' = 4 * R j i + o := by
  have e : ea (R j) (4 * (i : Int) + o) = ha (4 * R j i + o) := by
    unfold ea ha ca
    rw [show ((4 * (i : Int) + o) / 4).toNat = i by omega]
    omega
  obtain ⟨j', q1, q2, q3, q4⟩ := v.2.2.2.1 j a d (4 * (i : Int) + o) (by omega) (by omega) (by rw [e]; exact ty)
  refine ⟨j', q1, q2, q3, q4, ?_⟩
  have := (v.1.2.2.2.1 j' q1 q2).2.2.1
  rw [q3, q4, show ((4 * (i : Int) + o) / 4).toNat = i by omega] at this
  omega
section VO
variable {G : GG} {h : AH}
theorem T_openV_15 {P : AH → Prop} {j : Nat} (v : V f g n root mp t R) (h3 : h 3 = f) (h71 : h 7 1 = n) (h72 : h 7 2 = root) (a : al t j) (H : ∀ h', Ro h' 15 16 (Kt t j) (R j) → (∀ o, o ≠ 15 → o ≠ 16 → h' o = h o) → P h') : RunsV G 127 [vR 11, vI (t 1 j), vR 15] h P := by
  have nn := V_n v
  obtain ⟨r1, r2, r3⟩ := v.2.2.1 j a
  have kn := V_K v a
  refine T_open_15 (K0 := Kt t 0) (by rw [h3]; exact V_by v) (by rw [h71]; exact nn) ?_ (fun i hi => ?_) (fun z => ?_) (fun h' ro fr => H h' ?_ fr)
  · by_cases c : j = 0
    · rw [c]; exact Or.inl v.1.1.2.1
    · have cl := V_cl v (j := j) (by omega) a
      have l := (V_ln v (j := j) (by omega) a).2.2.1.1
      rw [h71, h3]
      exact Or.inr ⟨cl.1, cl.2.1, by omega⟩
  · rw [h3, r1] at hi
    rw [h3, h71, h72, r2 i hi]
    exact (v.1.2.1 j a i hi).1
  · have j0 : j = 0 := V_inj v a v.1.1.1 (by rw [v.1.1.2.1]; exact z)
    subst j0
    have e := r3 (Or.inl rfl) v.1.1.2.2
    unfold rwP at e
    rw [if_pos z] at e
    rw [h3, h71, h72, e]
    refine ⟨v.1.1.2.2, by omega, ?_⟩
    unfold clu
    omega
  · rw [h3, h72, r1] at ro
    exact ⟨ro.1, ro.2.1, fun i hi => (ro.2.2 i hi).trans (r2 i hi)⟩
theorem T_openV_28 {P : AH → Prop} {j : Nat} (v : V f g n root mp t R) (h3 : h 3 = f) (h71 : h 7 1 = n) (h72 : h 7 2 = root) (a : al t j) (H : ∀ h', Ro h' 28 29 (Kt t j) (R j) → (∀ o, o ≠ 28 → o ≠ 29 → h' o = h o) → P h') : RunsV G 127 [vR 11, vI (t 1 j), vR 28] h P := by
  have nn := V_n v
  obtain ⟨r1, r2, r3⟩ := v.2.2.1 j a
  have kn := V_K v a
  refine T_open_28 (K0 := Kt t 0) (by rw [h3]; exact V_by v) (by rw [h71]; exact nn) ?_ (fun i hi => ?_) (fun z => ?_) (fun h' ro fr => H h' ?_ fr)
  · by_cases c : j = 0
    · rw [c]; exact Or.inl v.1.1.2.1
    · have cl := V_cl v (j := j) (by omega) a
      have l := (V_ln v (j := j) (by omega) a).2.2.1.1
      rw [h71, h3]
      exact Or.inr ⟨cl.1, cl.2.1, by omega⟩
  · rw [h3, r1] at hi
    rw [h3, h71, h72, r2 i hi]
    exact (v.1.2.1 j a i hi).1
  · have j0 : j = 0 := V_inj v a v.1.1.1 (by rw [v.1.1.2.1]; exact z)
    subst j0
    have e := r3 (Or.inl rfl) v.1.1.2.2
    unfold rwP at e
    rw [if_pos z] at e
    rw [h3, h71, h72, e]
    refine ⟨v.1.1.2.2, by omega, ?_⟩
    unfold clu
    omega
  · rw [h3, h72, r1] at ro
    exact ⟨ro.1, ro.2.1, fun i hi => (ro.2.2 i hi).trans (r2 i hi)⟩
end VO
end VL
