/-! a SET goes -/
section VDEL
variable {f f' g : Nat → Int} {n root mp : Int} {t R : AH}
theorem V_tt (v : V f g n root mp t R) {j jj : Nat} (j1 : 1 ≤ j) (a : al t j) (q1 : 1 ≤ jj) (q : al t jj) (ne : j ≠ jj) : ea (R (pt t j)) (t 3 j + 2) + 64 ≤ ea (R (pt t jj)) (t 3 jj + 2) ∨ ea (R (pt t jj)) (t 3 jj + 2) + 64 ≤ ea (R (pt t j)) (t 3 j + 2) := by
  have h1 := V_tl v j1 a
  have h2 := V_tl v q1 q
  have w1 := v.1.2.2.2.1 j j1 a
  have w2 := v.1.2.2.2.1 jj q1 q
  have e1 := w1.2.1
  have e2 := w2.2.1
  by_cases z : ea (R (pt t j)) (t 3 j + 2) = ea (R (pt t jj)) (t 3 jj + 2)
  · have same : R (pt t j) ((t 3 j + 2) / 4).toNat = R (pt t jj) ((t 3 jj + 2) / 4).toNat := by
      unfold ca at h1 h2
      omega
    have o := v.1.2.2.1 _ _ _ _ w1.1 w2.1 h1.2.2.1 h2.2.2.1 same
    have o1 := o.1
    have o2 := o.2
    rw [same] at h1
    have e3 : t 3 j = t 3 jj := by
      have := h1.2.2.2
      have := h2.2.2.2
      omega
    exact absurd (v.1.2.2.2.2 j jj j1 q1 a q o1 e3) ne
  · unfold ca at h1 h2
    omega
def td (t : AH) (jj : Nat) : AH := up t 0 (st (t 0) jj 0)
theorem td_al {jj j : Nat} : al (td t jj) j ↔ (al t j ∧ j ≠ jj) := by
  unfold al td
  rw [up_s]
  by_cases z : j = jj
  · rw [z, st_s]
    exact ⟨fun y => absurd y (by decide), fun y => absurd rfl y.2⟩
  · rw [st_n _ _ z]
    exact ⟨fun y => ⟨y, z⟩, fun y => y.1⟩
theorem V_del (v : V f g n root mp t R) {jj : Nat} (q1 : 1 ≤ jj) (q : al t jj) (byf' : By f') (leaf : ∀ j, 1 ≤ j → al t j → pt t j ≠ jj)
    (C1 : ∀ j, al t j → j ≠ jj → dirT f t j → ∀ i, i < Kt t j → ∀ x, ca (R j i) ≤ x → x < ca (R j i) + 128 → ¬ (x = ha (t 1 jj) ∨ x = ha (t 1 jj) + 32 ∨ x = ea (R (pt t jj)) (t 3 jj + 2) ∨ (rd f (ha (t 1 jj) + 1) = 3 ∧ x = ea (R (pt t jj)) (t 3 jj + 2) + 32)) → rd f' x = rd f x)
    (C2 : ∀ j, al t j → j ≠ jj → ∀ i, i < Kt t j → ft f' (R j i) = ft f (R j i))
    (T0 : rd f' (ha (t 1 jj)) ≠ 133) (T1 : rd f' (ha (t 1 jj) + 32) ≠ 133) (T2 : rd f' (ea (R (pt t jj)) (t 3 jj + 2)) ≠ 133) (T3 : rd f (ha (t 1 jj) + 1) = 3 → rd f' (ea (R (pt t jj)) (t 3 jj + 2) + 32) ≠ 133)
    (C6 : ∀ j, al t j → j ≠ jj → ∀ i, i < Kt t j → tb f' mp (R j i) = 1) (C6m : tb f' mp mp = 1) : V f' g n root mp (td t jj) R := by
  have nn := V_n v
  have hq := V_hd v q1 q
  have tq := V_tl v q1 q
  have hdS : ∀ j, 1 ≤ j → al t j → j ≠ jj → ∀ x, ha (t 1 j) ≤ x → x < ha (t 1 j) + 64 → rd f' x = rd f x := fun j j1 a ne x x0 x1 => by
    have hh := V_hh v j1 a q1 q ne
    have ht := V_ht v q1 q j1 a
    have hd := V_hd v j1 a
    exact C1 (pt t j) (v.1.2.2.2.1 j j1 a).1 (leaf j j1 a) (v.2.1 j j1 a).1 _ hd.2.2.1 x (by omega) (by omega) (by omega)
  have tlS : ∀ j, 1 ≤ j → al t j → j ≠ jj → ∀ x, ea (R (pt t j)) (t 3 j + 2) ≤ x → x < ea (R (pt t j)) (t 3 j + 2) + 64 → rd f' x = rd f x := fun j j1 a ne x x0 x1 => by
    have hh := V_ht v j1 a q1 q
    have tt := V_tt v j1 a q1 q ne
    have hd := V_tl v j1 a
    exact C1 (pt t j) (v.1.2.2.2.1 j j1 a).1 (leaf j j1 a) (v.2.1 j j1 a).1 _ hd.2.2.1 x (by omega) (by omega) (by omega)
  have dS : ∀ j, al t j → j ≠ jj → (dirT f' (td t jj) j ↔ dirT f t j) := fun j a z => by
    show (j = 0 ∨ isD f' (ha (t 1 j))) ↔ (j = 0 ∨ isD f (ha (t 1 j)))
    by_cases z0 : j = 0
    · exact ⟨fun _ => Or.inl z0, fun _ => Or.inl z0⟩
    · have e : u2 f' (ha (t 1 j) + 4) = u2 f (ha (t 1 j) + 4) := u2_cg (hdS j (by omega) a z _ (by omega) (by omega)) (hdS j (by omega) a z _ (by omega) (by omega))
      unfold isD
      rw [e]
  have z0 : (0 : Nat) ≠ jj := (by omega)
  refine ⟨⟨⟨td_al.mpr ⟨v.1.1.1, z0⟩, v.1.1.2.1, v.1.1.2.2⟩, fun j a i hi => v.1.2.1 j (td_al.mp a).1 i hi, fun j j' i i' a a' => v.1.2.2.1 j j' i i' (td_al.mp a).1 (td_al.mp a').1, fun j j1 a => ?_, fun j j' j1 j1' a a' => v.1.2.2.2.2 j j' j1 j1' (td_al.mp a).1 (td_al.mp a').1⟩, fun j j1 a => ?_, fun j a => ?_, fun j a d e e0 e1 ty => ?_, fun j j' j1 j1' a a' ne pp => ?_, fun j a i hi => C6 j (td_al.mp a).1 (td_al.mp a).2 i hi, C6m, ?_, byf', nn, V_mp v⟩
  · have aj := td_al.mp a
    have w := v.1.2.2.2.1 j j1 aj.1
    exact ⟨td_al.mpr ⟨w.1, leaf j j1 aj.1⟩, w.2⟩
  · have aj := td_al.mp a
    have w := v.1.2.2.2.1 j j1 aj.1
    refine ⟨(dS _ w.1 (leaf j j1 aj.1)).mpr (v.2.1 j j1 aj.1).1, ?_⟩
    have s := V_ln v j1 aj.1
    show SetOK f' g n (ea (R (pt t j)) (t 3 j)) (ea (R (pt t j)) (t 3 j + 2)) (4 * (Kt t (pt t j) : Int) - t 3 j)
    rw [← (V_cl v j1 aj.1).2.2.1]
    exact SetOK_congr (fun x p r => (hdS j j1 aj.1 aj.2 x p r).symm) (fun x p r => (tlS j j1 aj.1 aj.2 x p r).symm) s
  · have aj := td_al.mp a
    show rkP f' (Kt t 0) (t 1 j) = Kt t j ∧ (∀ i, i < Kt t j → rwP f' root (t 1 j) i = R j i) ∧ ((j = 0 ∨ bR f' (t 1 j) = 0) → 0 < Kt t j → rwP f' root (t 1 j) (Kt t j) = 4294967295)
    obtain ⟨r1, r2, r3⟩ := v.2.2.1 j aj.1
    have fS : ∀ i, i < Kt t j → ft f' (rwP f root (t 1 j) i) = ft f (rwP f root (t 1 j) i) := fun i hi => by rw [r2 i hi]; exact C2 j aj.1 aj.2 i hi
    by_cases z0 : j = 0
    · have e0 : t 1 j = 0 := by rw [z0]; exact v.1.1.2.1
      rw [e0] at r1 r2 r3 fS ⊢
      rw [rwP_0] at r2 r3 fS
      rw [rkP_0] at r1
      rw [rwP_0, rkP_0]
      have ts : ∀ i, i ≤ Kt t j → tc f' 0 root i = tc f 0 root i := tc_sm (fun i hi => Or.inr (fS i hi))
      exact ⟨r1, fun i hi => by rw [ts i (by omega)]; exact r2 i hi, fun b kp => by rw [ts _ (Nat.le_refl _)]; exact r3 (Or.inl z0) kp⟩
    · have cl := V_cl v (j := j) (by omega) aj.1
      have p0 : t 1 j ≠ 0 := (by omega)
      have e56 : u4 f' (ha (t 1 j) + 56) = u4 f (ha (t 1 j) + 56) := u4_cg (fun x _ _ => hdS j (by omega) aj.1 aj.2 _ (by omega) (by omega))
      have e52 : u4 f' (ha (t 1 j) + 52) = u4 f (ha (t 1 j) + 52) := u4_cg (fun x _ _ => hdS j (by omega) aj.1 aj.2 _ (by omega) (by omega))
      have eb : bR f' (t 1 j) = bR f (t 1 j) := by unfold bR; rw [hdS j (by omega) aj.1 aj.2 _ (by omega) (by omega)]
      rw [rwP_n f root p0] at r2 r3 fS
      rw [rkP_n f _ p0] at r1
      rw [rwP_n f' root p0, rkP_n f' _ p0, e56, e52, eb]
      have ts : ∀ i, i ≤ Kt t j → tc f' (bR f (t 1 j)) (u4 f (ha (t 1 j) + 52)) i = tc f (bR f (t 1 j)) (u4 f (ha (t 1 j) + 52)) i := tc_sm (fun i hi => Or.inr (fS i hi))
      exact ⟨r1, fun i hi => by rw [ts i (by omega)]; exact r2 i hi, fun b kp => by rw [ts _ (Nat.le_refl _)]; exact r3 b kp⟩
  · have aj := td_al.mp a
    rw [dS j aj.1 aj.2] at d
    have e1' : e < 4 * (Kt t j : Int) := e1
    have in' := ea_in (r := R j) (q := e)
    have no : ¬ (ea (R j) e = ha (t 1 jj) ∨ ea (R j) e = ha (t 1 jj) + 32 ∨ ea (R j) e = ea (R (pt t jj)) (t 3 jj + 2) ∨ (rd f (ha (t 1 jj) + 1) = 3 ∧ ea (R j) e = ea (R (pt t jj)) (t 3 jj + 2) + 32)) := by
      rintro (z | z | z | ⟨z1, z⟩)
      · rw [z] at ty; exact T0 ty
      · rw [z] at ty; exact T1 ty
      · rw [z] at ty; exact T2 ty
      · rw [z] at ty; exact T3 z1 ty
    have same := C1 j aj.1 aj.2 d (e / 4).toNat (by omega) _ in'.1 (by omega) no
    rw [same] at ty
    obtain ⟨j', w1, w2, w3, w4⟩ := v.2.2.2.1 j aj.1 d e e0 e1' ty
    refine ⟨j', w1, td_al.mpr ⟨w2, fun z => ?_⟩, w3, w4⟩
    subst z
    have c := (V_cl v w1 w2).2.2.1
    rw [w3, w4] at c
    exact no (Or.inl c.symm)
  · have aj := td_al.mp a
    have aj' := td_al.mp a'
    have pp' : pt t j = pt t j' := pp
    have nl := v.2.2.2.2.1 j j' j1 j1' aj.1 aj'.1 ne pp'
    show ¬ Lk f' g (ea (R (pt t j)) (t 3 j)) (ea (R (pt t j)) (t 3 j + 2)) (ea (R (pt t j)) (t 3 j')) (ea (R (pt t j)) (t 3 j' + 2))
    have h1 := (V_cl v j1 aj.1).2.2.1
    have h2 := (V_cl v j1' aj'.1).2.2.1
    rw [← pp'] at h2
    rw [← h1, ← h2] at nl ⊢
    intro l
    refine nl ⟨by rw [← hdS j j1 aj.1 aj.2 _ (by omega) (by omega), ← hdS j' j1' aj'.1 aj'.2 _ (by omega) (by omega)]; exact l.1, fun i hi => ?_⟩
    have i30 := (V_ln v j1 aj.1).2.2.2.1.1
    have ll := l.2 i (by rw [hdS j j1 aj.1 aj.2 _ (by omega) (by omega)]; exact hi)
    have lts : ∀ j2, 1 ≤ j2 → al t j2 → j2 ≠ jj → lt f' (ea (R (pt t j2)) (t 3 j2 + 2)) i = lt f (ea (R (pt t j2)) (t 3 j2 + 2)) i := fun j2 q2 a2 n2 => by
      have := la_rng (tl := ea (R (pt t j2)) (t 3 j2 + 2)) (i := (i : Int)) (by omega) (by omega)
      exact u2_cg (tlS j2 q2 a2 n2 _ (by omega) (by omega)) (tlS j2 q2 a2 n2 _ (by omega) (by omega))
    have l2 := lts j' j1' aj'.1 aj'.2
    rw [← pp'] at l2
    rw [lts j j1 aj.1 aj.2, l2] at ll
    exact ll
  · have r0 := (v.2.2.1 0 v.1.1.1).2.1 0 v.1.1.2.2
    rw [v.1.1.2.1, rwP_0] at r0
    simp only [tc] at r0
    have d6 := v.2.2.2.2.2.2.2.1
    have s3 := SetOK_3 (V_ln v q1 q)
    have k1 := C1 0 v.1.1.1 z0 (Or.inl rfl) 0 v.1.1.2.2
    rw [← r0] at k1
    have no : ∀ x, rd f x = 129 ∨ rd f x = 130 → ¬ (x = ha (t 1 jj) ∨ x = ha (t 1 jj) + 32 ∨ x = ea (R (pt t jj)) (t 3 jj + 2) ∨ (rd f (ha (t 1 jj) + 1) = 3 ∧ x = ea (R (pt t jj)) (t 3 jj + 2) + 32)) := by
      intro x hx
      have a1 := s3.2.2.1
      have a2 := s3.2.2.2.1
      have a3 := s3.2.2.2.2.1
      have a4 := s3.2.2.2.2.2
      rintro (z | z | z | ⟨z1, z⟩)
      · rw [z, a1] at hx; omega
      · rw [z, a2] at hx; omega
      · rw [z, a3] at hx; omega
      · rw [z, a4 z1] at hx; omega
    rw [k1 (ca root) (by omega) (by omega) (no _ (Or.inl d6.1)), k1 (ca root + 32) (by omega) (by omega) (no _ (Or.inr d6.2))]
    exact d6
end VDEL
