/-! a SET of a mounted volume becomes another -/
def tk (t : AH) (jj K' : Nat) : AH := up t 4 (st (t 4) jj (K' : Int))
section VUP
variable {f f' g : Nat → Int} {n root mp : Int} {t R : AH}
theorem SetOK_room {n hd tl r r' : Int} (h : r ≤ r') (s : SetOK f g n hd tl r) : SetOK f g n hd tl r' := ⟨⟨s.1.1, Int.le_trans s.1.2.1 h, s.1.2.2⟩, s.2⟩
theorem rwP_0 (f : Nat → Int) (root : Int) : rwP f root 0 = tc f 0 root := by unfold rwP; rw [if_pos rfl]
theorem rwP_n (f : Nat → Int) (root : Int) {P : Int} (h : P ≠ 0) : rwP f root P = tc f (bR f P) (u4 f (ha P + 52)) := by unfold rwP; rw [if_neg h]
theorem rkP_0 (f : Nat → Int) (K : Nat) : rkP f K 0 = K := by unfold rkP; rw [if_pos rfl]
theorem rkP_n (f : Nat → Int) (K : Nat) {P : Int} (h : P ≠ 0) : rkP f K P = ((u4 f (ha P + 56) + 127) / 128).toNat := by unfold rkP; rw [if_neg h]
theorem tk_Ks {jj K' : Nat} : Kt (tk t jj K') jj = K' := by unfold Kt tk; rw [up_s, st_s]; omega
theorem tk_Kn {jj K' j : Nat} (h : j ≠ jj) : Kt (tk t jj K') j = Kt t j := by unfold Kt tk; rw [up_s, st_n _ _ h]
/-- the two ENTRIES of a head lie in one CLUSTER, those of a tail too -/
theorem V_hd (v : V f g n root mp t R) {j : Nat} (j1 : 1 ≤ j) (a : al t j) : ca (R (pt t j) (t 3 j / 4).toNat) ≤ ha (t 1 j) ∧ ha (t 1 j) + 64 ≤ ca (R (pt t j) (t 3 j / 4).toNat) + 128 ∧ (t 3 j / 4).toNat < Kt t (pt t j) ∧ ha (t 1 j) = ca (R (pt t j) (t 3 j / 4).toNat) + 32 * (t 3 j % 4) := by
  have w := v.1.2.2.2.1 j j1 a
  have e := V_e v j1 a
  have c := (V_cl v j1 a).2.2.1
  unfold ea at c
  exact ⟨by omega, by omega, by omega, c⟩
theorem V_tl (v : V f g n root mp t R) {j : Nat} (j1 : 1 ≤ j) (a : al t j) : ca (R (pt t j) ((t 3 j + 2) / 4).toNat) ≤ ea (R (pt t j)) (t 3 j + 2) ∧ ea (R (pt t j)) (t 3 j + 2) + 64 ≤ ca (R (pt t j) ((t 3 j + 2) / 4).toNat) + 128 ∧ ((t 3 j + 2) / 4).toNat < Kt t (pt t j) ∧ ea (R (pt t j)) (t 3 j + 2) = ca (R (pt t j) ((t 3 j + 2) / 4).toNat) + 32 * ((t 3 j + 2) % 4) := by
  have w := v.1.2.2.2.1 j j1 a
  have e := V_e v j1 a
  unfold ea
  exact ⟨by omega, by omega, by omega, rfl⟩
/-- heads and tails of SETS do not meet -/
theorem V_hh (v : V f g n root mp t R) {j jj : Nat} (j1 : 1 ≤ j) (a : al t j) (q1 : 1 ≤ jj) (q : al t jj) (ne : j ≠ jj) : ha (t 1 j) + 64 ≤ ha (t 1 jj) ∨ ha (t 1 jj) + 64 ≤ ha (t 1 j) := by
  have h1 := V_hd v j1 a
  have h2 := V_hd v q1 q
  have c1 := V_cl v j1 a
  have c2 := V_cl v q1 q
  have nc : R (pt t j) (t 3 j / 4).toNat ≠ R (pt t jj) (t 3 jj / 4).toNat := fun z => ne (V_c1 v j1 a q1 q (by rw [c1.2.2.2.2.2, c2.2.2.2.2.2, z]))
  unfold ca at h1 h2
  omega
theorem V_ht (v : V f g n root mp t R) {j jj : Nat} (j1 : 1 ≤ j) (a : al t j) (q1 : 1 ≤ jj) (q : al t jj) : ea (R (pt t j)) (t 3 j + 2) + 64 ≤ ha (t 1 jj) ∨ ha (t 1 jj) + 64 ≤ ea (R (pt t j)) (t 3 j + 2) := by
  have h1 := V_tl v j1 a
  have h2 := V_hd v q1 q
  have s1 := SetOK_3 (V_ln v j1 a)
  have s2 := SetOK_3 (V_ln v q1 q)
  have e1 := (v.1.2.2.2.1 j j1 a).2.1.2
  have e2 := (v.1.2.2.2.1 jj q1 q).2.1.2
  by_cases z : ea (R (pt t j)) (t 3 j + 2) = ha (t 1 jj)
  · rw [z] at s1
    have := s1.2.2.2.2.1
    have := s2.2.2.1
    omega
  · unfold ca at h1 h2
    omega
theorem V_up (v : V f g n root mp t R) {jj : Nat} (q1 : 1 ≤ jj) (q : al t jj) (byf' : By f')
    (C1 : ∀ j, al t j → dirT f t j → ∀ i, i < Kt t j → ∀ x, ca (R j i) ≤ x → x < ca (R j i) + 128 → ¬ (ha (t 1 jj) ≤ x ∧ x < ha (t 1 jj) + 64) → rd f' x = rd f x)
    (C2 : ∀ j, al t j → j ≠ jj → ∀ i, i < Kt t j → ft f' (R j i) = ft f (R j i))
    (C3 : SetOK f' g n (ha (t 1 jj)) (ea (R (pt t jj)) (t 3 jj + 2)) (4 * (Kt t (pt t jj) : Int) - t 3 jj)) (C3n : rd f' (ha (t 1 jj) + 35) = rd f (ha (t 1 jj) + 35)) (C3d : isD f' (ha (t 1 jj)) ↔ isD f (ha (t 1 jj)))
    {K' : Nat} {r' : Nat → Int} (C4a : ∀ i, i < K' → clu n (r' i) ∧ r' i ≠ mp) (C4b : ∀ i i', i < i' → i' < K' → r' i ≠ r' i') (C4c : ∀ j, al t j → j ≠ jj → ∀ i i', i < Kt t j → i' < K' → R j i ≠ r' i')
    (C4d : rkP f' (Kt t 0) (t 1 jj) = K' ∧ (∀ i, i < K' → rwP f' root (t 1 jj) i = r' i) ∧ (bR f' (t 1 jj) = 0 → 0 < K' → rwP f' root (t 1 jj) K' = 4294967295))
    (C5 : isD f (ha (t 1 jj)) → Kt t jj ≤ K' ∧ (∀ i, i < Kt t jj → r' i = R jj i) ∧ ∀ i, Kt t jj ≤ i → i < K' → ∀ o : Int, 0 ≤ o → o < 4 → rd f' (ca (r' i) + 32 * o) ≠ 133)
    (C6 : ∀ j, al t j → j ≠ jj → ∀ i, i < Kt t j → tb f' mp (R j i) = 1) (C6' : ∀ i, i < K' → tb f' mp (r' i) = 1) (C6m : tb f' mp mp = 1) : V f' g n root mp (tk t jj K') (up R jj r') := by
  have nn := V_n v
  have pne : ∀ j, 1 ≤ j → al t j → pt t j ≠ j := fun j j1 a z => by
    have := (v.1.2.2.2.1 j j1 a).2.2.2.1
    rw [z] at this
    omega
  have hdS : ∀ j, 1 ≤ j → al t j → j ≠ jj → ∀ x, ha (t 1 j) ≤ x → x < ha (t 1 j) + 64 → rd f' x = rd f x := fun j j1 a ne x x0 x1 => by
    have hh := V_hh v j1 a q1 q ne
    have hd := V_hd v j1 a
    exact C1 (pt t j) (v.1.2.2.2.1 j j1 a).1 (v.2.1 j j1 a).1 _ hd.2.2.1 x (by omega) (by omega) (by omega)
  have tlS : ∀ j, 1 ≤ j → al t j → ∀ x, ea (R (pt t j)) (t 3 j + 2) ≤ x → x < ea (R (pt t j)) (t 3 j + 2) + 64 → rd f' x = rd f x := fun j j1 a x x0 x1 => by
    have hh := V_ht v j1 a q1 q
    have hd := V_tl v j1 a
    exact C1 (pt t j) (v.1.2.2.2.1 j j1 a).1 (v.2.1 j j1 a).1 _ hd.2.2.1 x (by omega) (by omega) (by omega)
  have dS : ∀ j, al t j → (dirT f' (tk t jj K') j ↔ dirT f t j) := fun j a => by
    show (j = 0 ∨ isD f' (ha (t 1 j))) ↔ (j = 0 ∨ isD f (ha (t 1 j)))
    by_cases z0 : j = 0
    · exact ⟨fun _ => Or.inl z0, fun _ => Or.inl z0⟩
    · by_cases z : j = jj
      · rw [z, C3d]
      · have e : u2 f' (ha (t 1 j) + 4) = u2 f (ha (t 1 j) + 4) := u2_cg (hdS j (by omega) a z _ (by omega) (by omega)) (hdS j (by omega) a z _ (by omega) (by omega))
        unfold isD
        rw [e]
  have Rp : ∀ j, 1 ≤ j → al t j → ∀ e : Int, 0 ≤ e → e < 4 * (Kt t (pt t j) : Int) → ea (up R jj r' (pt t j)) e = ea (R (pt t j)) e := fun j j1 a e e0 e1 => by
    by_cases z : pt t j = jj
    · have dj := (v.2.1 j j1 a).1
      rw [z] at e1 ⊢
      rw [up_s]
      have c5 := C5 (by
        rw [z] at dj
        rcases dj with d | d
        · omega
        · exact d)
      exact ea_cg c5.2.1 e0 e1
    · rw [up_n _ _ z]
  have Kp : ∀ j, 1 ≤ j → al t j → Kt t (pt t j) ≤ Kt (tk t jj K') (pt t j) := fun j j1 a => by
    by_cases z : pt t j = jj
    · have dj := (v.2.1 j j1 a).1
      rw [z, tk_Ks]
      exact (C5 (by
        rw [z] at dj
        rcases dj with d | d
        · omega
        · exact d)).1
    · rw [tk_Kn z]; exact Nat.le_refl _
  refine ⟨⟨⟨v.1.1.1, v.1.1.2.1, by rw [tk_Kn (by omega)]; exact v.1.1.2.2⟩, fun j a i hi => ?_, fun j j' i i' a a' hi hi' eq => ?_, fun j j1 a => ?_, v.1.2.2.2.2⟩, fun j j1 a => ⟨(dS _ (v.1.2.2.2.1 j j1 a).1).mpr (v.2.1 j j1 a).1, ?_⟩, fun j a => ?_, fun j a d e e0 e1 ty => ?_, fun j j' j1 j1' a a' ne pp => ?_, fun j a i hi => ?_, C6m, ?_, byf', nn, V_mp v⟩
  · by_cases z : j = jj
    · rw [z, tk_Ks] at hi
      rw [z, up_s]
      exact C4a i hi
    · rw [tk_Kn z] at hi
      rw [up_n _ _ z]
      exact v.1.2.1 j a i hi
  · by_cases z : j = jj
    · by_cases z' : j' = jj
      · rw [z, tk_Ks] at hi
        rw [z', tk_Ks] at hi'
        rw [z, z', up_s] at eq
        refine ⟨by rw [z, z'], ?_⟩
        rcases Nat.lt_trichotomy i i' with y | y | y
        · exact absurd eq (C4b i i' y hi')
        · exact y
        · exact absurd eq.symm (C4b i' i y hi)
      · rw [z, tk_Ks] at hi
        rw [tk_Kn z'] at hi'
        rw [z, up_s, up_n _ _ z'] at eq
        exact absurd eq.symm (C4c j' a' z' i' i hi' hi)
    · by_cases z' : j' = jj
      · rw [tk_Kn z] at hi
        rw [z', tk_Ks] at hi'
        rw [z', up_s, up_n _ _ z] at eq
        exact absurd eq (C4c j a z i i' hi hi')
      · rw [tk_Kn z] at hi
        rw [tk_Kn z'] at hi'
        rw [up_n _ _ z, up_n _ _ z'] at eq
        exact v.1.2.2.1 j j' i i' a a' hi hi' eq
  · have w := v.1.2.2.2.1 j j1 a
    have e := V_e v j1 a
    refine ⟨w.1, w.2.1, ?_, w.2.2.2⟩
    show t 1 j = 4 * up R jj r' (pt t j) (t 3 j / 4).toNat + t 3 j % 4
    have rp := Rp j j1 a (t 3 j) w.2.1.1 (by omega)
    unfold ea ca at rp
    have := w.2.2.1
    omega
  · show SetOK f' g n (ea (up R jj r' (pt t j)) (t 3 j)) (ea (up R jj r' (pt t j)) (t 3 j + 2)) (4 * (Kt (tk t jj K') (pt t j) : Int) - t 3 j)
    have w := v.1.2.2.2.1 j j1 a
    have e := V_e v j1 a
    have kp := Kp j j1 a
    rw [Rp j j1 a _ w.2.1.1 (by omega), Rp j j1 a _ (by omega) (by omega), ← (V_cl v j1 a).2.2.1]
    by_cases z : j = jj
    · subst z
      exact SetOK_room (by omega) C3
    · refine SetOK_room (r := 4 * (Kt t (pt t j) : Int) - t 3 j) (by omega) ?_
      exact SetOK_congr (fun x p r => (hdS j j1 a z x p r).symm) (fun x p r => (tlS j j1 a x p r).symm) (V_ln v j1 a)
  · by_cases z : j = jj
    · unfold VR
      rw [z, tk_Ks, tk_Kn (by omega), up_s]
      refine ⟨C4d.1, C4d.2.1, fun b kp => C4d.2.2 ?_ kp⟩
      rcases b with b | b
      · omega
      · exact b
    · unfold VR
      rw [tk_Kn z, tk_Kn (by omega), up_n _ _ z]
      show rkP f' (Kt t 0) (t 1 j) = Kt t j ∧ (∀ i, i < Kt t j → rwP f' root (t 1 j) i = R j i) ∧ ((j = 0 ∨ bR f' (t 1 j) = 0) → 0 < Kt t j → rwP f' root (t 1 j) (Kt t j) = 4294967295)
      obtain ⟨r1, r2, r3⟩ := v.2.2.1 j a
      have fS : ∀ i, i < Kt t j → ft f' (rwP f root (t 1 j) i) = ft f (rwP f root (t 1 j) i) := fun i hi => by rw [r2 i hi]; exact C2 j a z i hi
      by_cases z0 : j = 0
      · have e0 : t 1 j = 0 := by rw [z0]; exact v.1.1.2.1
        rw [e0] at r1 r2 r3 fS ⊢
        rw [rwP_0] at r2 r3 fS
        rw [rkP_0] at r1
        rw [rwP_0, rkP_0]
        have ts : ∀ i, i ≤ Kt t j → tc f' 0 root i = tc f 0 root i := tc_sm (fun i hi => Or.inr (fS i hi))
        exact ⟨r1, fun i hi => by rw [ts i (by omega)]; exact r2 i hi, fun b kp => by rw [ts _ (Nat.le_refl _)]; exact r3 (Or.inl z0) kp⟩
      · have cl := V_cl v (j := j) (by omega) a
        have p0 : t 1 j ≠ 0 := (by omega)
        have e56 : u4 f' (ha (t 1 j) + 56) = u4 f (ha (t 1 j) + 56) := u4_cg (fun x _ _ => hdS j (by omega) a z _ (by omega) (by omega))
        have e52 : u4 f' (ha (t 1 j) + 52) = u4 f (ha (t 1 j) + 52) := u4_cg (fun x _ _ => hdS j (by omega) a z _ (by omega) (by omega))
        have eb : bR f' (t 1 j) = bR f (t 1 j) := by unfold bR; rw [hdS j (by omega) a z _ (by omega) (by omega)]
        rw [rwP_n f root p0] at r2 r3 fS
        rw [rkP_n f _ p0] at r1
        rw [rwP_n f' root p0, rkP_n f' _ p0, e56, e52, eb]
        have ts : ∀ i, i ≤ Kt t j → tc f' (bR f (t 1 j)) (u4 f (ha (t 1 j) + 52)) i = tc f (bR f (t 1 j)) (u4 f (ha (t 1 j) + 52)) i := tc_sm (fun i hi => Or.inr (fS i hi))
        exact ⟨r1, fun i hi => by rw [ts i (by omega)]; exact r2 i hi, fun b kp => by rw [ts _ (Nat.le_refl _)]; exact r3 b kp⟩
  · rw [dS j a] at d
    have old : e < 4 * (Kt t j : Int) → ea (up R jj r' j) e = ea (R j) e → ∃ j', 1 ≤ j' ∧ al t j' ∧ pt t j' = j ∧ t 3 j' = e := fun lt' eq => by
      rw [eq] at ty
      have i0 : (e / 4).toNat < Kt t j := (by omega)
      have in' := ea_in (r := R j) (q := e)
      by_cases hx : ha (t 1 jj) ≤ ea (R j) e ∧ ea (R j) e < ha (t 1 jj) + 64
      · have hd := V_hd v q1 q
        have w := v.1.2.2.2.1 jj q1 q
        have cj := (v.1.2.1 j a _ i0).1
        have cq := (v.1.2.1 _ w.1 _ hd.2.2.1).1
        have same : R j (e / 4).toNat = R (pt t jj) (t 3 jj / 4).toNat := by
          unfold ca at in' hd
          omega
        have o := v.1.2.2.1 j (pt t jj) _ _ a w.1 i0 hd.2.2.1 same
        have o1 := o.1
        have o2 := o.2
        have s3 := SetOK_3 C3
        have al1 := ea_al (R j) e
        by_cases y : ea (R j) e = ha (t 1 jj)
        · refine ⟨jj, q1, q, o1.symm, ?_⟩
          have hh : ea (R j) e = ca (R j (e / 4).toNat) + 32 * (e % 4) := rfl
          rw [same] at hh
          have := hd.2.2.2
          omega
        · have hal : ha (t 1 jj) % 32 = 0 := by unfold ha; omega
          have : ea (R j) e = ha (t 1 jj) + 32 := (by omega)
          rw [this] at ty
          have := s3.2.2.2.1
          omega
      · rw [C1 j a d _ i0 _ in'.1 (by omega) hx] at ty
        exact v.2.2.2.1 j a d e e0 lt' ty
    by_cases z : j = jj
    · subst z
      rw [tk_Ks] at e1
      have dd : isD f (ha (t 1 j)) := by
        rcases d with d | d
        · omega
        · exact d
      have c5 := C5 dd
      by_cases lt' : e < 4 * (Kt t j : Int)
      · exact old lt' (by rw [up_s]; exact ea_cg c5.2.1 e0 lt')
      · rw [up_s] at ty
        exact absurd ty (c5.2.2 (e / 4).toNat (by omega) (by omega) (e % 4) (by omega) (by omega))
    · rw [tk_Kn z] at e1
      exact old e1 (by rw [up_n _ _ z])
  · have pp' : pt t j = pt t j' := pp
    have w := v.1.2.2.2.1 j j1 a
    have w' := v.1.2.2.2.1 j' j1' a'
    have e := V_e v j1 a
    have e' := V_e v j1' a'
    have nl := v.2.2.2.2.1 j j' j1 j1' a a' ne pp'
    show ¬ Lk f' g (ea (up R jj r' (pt t j)) (t 3 j)) (ea (up R jj r' (pt t j)) (t 3 j + 2)) (ea (up R jj r' (pt t j)) (t 3 j')) (ea (up R jj r' (pt t j)) (t 3 j' + 2))
    rw [← pp'] at e'
    rw [Rp j j1 a _ w.2.1.1 (by omega), Rp j j1 a _ (by omega) (by omega), Rp j j1 a _ w'.2.1.1 (by omega), Rp j j1 a _ (by omega) (by omega)]
    have n35 : ∀ j2, 1 ≤ j2 → al t j2 → rd f' (ha (t 1 j2) + 35) = rd f (ha (t 1 j2) + 35) := fun j2 q2 a2 => by
      by_cases z : j2 = jj
      · rw [z]; exact C3n
      · exact hdS j2 q2 a2 z _ (by omega) (by omega)
    have n30 : ∀ j2, 1 ≤ j2 → al t j2 → rd f (ha (t 1 j2) + 35) ≤ 30 := fun j2 q2 a2 => (V_ln v q2 a2).2.2.2.1.1
    have lts : ∀ j2, 1 ≤ j2 → al t j2 → ∀ i : Nat, i < 30 → lt f' (ea (R (pt t j2)) (t 3 j2 + 2)) i = lt f (ea (R (pt t j2)) (t 3 j2 + 2)) i := fun j2 q2 a2 i hi => by
      have := la_rng (tl := ea (R (pt t j2)) (t 3 j2 + 2)) (i := (i : Int)) (by omega) (by omega)
      exact u2_cg (tlS j2 q2 a2 _ (by omega) (by omega)) (tlS j2 q2 a2 _ (by omega) (by omega))
    have h1 := (V_cl v j1 a).2.2.1
    have h2 := (V_cl v j1' a').2.2.1
    rw [← pp'] at h2
    rw [← h1, ← h2] at nl ⊢
    intro l
    refine nl ⟨by rw [← n35 j j1 a, ← n35 j' j1' a']; exact l.1, fun i hi => ?_⟩
    have i30 := n30 j j1 a
    have ll := l.2 i (by rw [n35 j j1 a]; exact hi)
    have l2 := lts j' j1' a' i (by omega)
    rw [← pp'] at l2
    rw [lts j j1 a i (by omega), l2] at ll
    exact ll
  · by_cases z : j = jj
    · rw [z, tk_Ks] at hi
      rw [z, up_s]
      exact C6' i hi
    · rw [tk_Kn z] at hi
      rw [up_n _ _ z]
      exact C6 j a z i hi
  · have r0 := (v.2.2.1 0 v.1.1.1).2.1 0 v.1.1.2.2
    rw [v.1.1.2.1] at r0
    unfold rwP at r0
    rw [if_pos rfl] at r0
    simp only [tc] at r0
    have d6 := v.2.2.2.2.2.2.2.1
    have s3 := SetOK_3 (V_ln v q1 q)
    have hd := V_hd v q1 q
    have e2 := (v.1.2.2.2.1 jj q1 q).2.1.2
    have ne1 : ha (t 1 jj) ≠ ca root := fun z => by
      have := s3.2.2.1
      rw [z, d6.1] at this
      omega
    have no : ∀ x, ca root ≤ x → x < ca root + 64 → ¬ (ha (t 1 jj) ≤ x ∧ x < ha (t 1 jj) + 64) := fun x p r z => by
      unfold ca at hd ne1 p r
      omega
    have k1 := C1 0 v.1.1.1 (Or.inl rfl) 0 v.1.1.2.2
    rw [← r0] at k1
    rw [k1 (ca root) (by omega) (by omega) (no _ (by omega) (by omega)), k1 (ca root + 32) (by omega) (by omega) (no _ (by omega) (by omega))]
    exact d6
end VUP
