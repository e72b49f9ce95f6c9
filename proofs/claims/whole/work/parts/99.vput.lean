/-! a SET comes, or moves: the volume -/
section VPUT2
variable {f f' g : Nat → Int} {n root mp : Int} {t R : AH}
theorem V_put (v : V f g n root mp t R) {jn jd K' : Nat} {e m : Int} {r' ρ : Nat → Int} (n1 : 1 ≤ jn) (dA : al t jd) (dN : jd ≠ jn) (dD : dirT f t jd) (e0 : 0 ≤ e) (e2 : e % 2 = 0) (m34 : m = 3 ∨ m = 4) (em : e + m ≤ 4 * (Kt t jd : Int)) (un : ∀ i : Int, 0 ≤ i → i < m → rd f (ea (R jd) (e + i)) < 128) (byf' : By f')
    (A1 : ∀ j, al t j → dirT f t j → ∀ i, i < Kt t j → ∀ x, ca (R j i) ≤ x → x < ca (R j i) + 128 → ¬ NewX R jd e m x → ¬ OldX f t R jn x → rd f' x = rd f x ∨ (x % 32 = 0 ∧ rd f x = 0 ∧ rd f' x ≠ 133))
    (A1o : ∀ x, OldX f t R jn x → rd f' x ≠ 133)
    (A2 : ∀ j, al t j → ∀ i, i < Kt t j → ft f' (R j i) = ft f (R j i))
    (A3 : ∀ c, clu n c → tb f' mp c = tb f mp c)
    (A4 : SetOK f' g n (ea (R jd) e) (ea (R jd) (e + 2)) (4 * (Kt t jd : Int) - e)) (A4m : rd f' (ea (R jd) e + 1) = m - 1)
    (A5a : ∀ i, i < K' → clu n (r' i) ∧ r' i ≠ mp) (A5b : ∀ i i', i < i' → i' < K' → r' i ≠ r' i') (A5c : ∀ j, al t j → j ≠ jn → ∀ i i', i < Kt t j → i' < K' → R j i ≠ r' i')
    (A5d : rkP f' (Kt t 0) (4 * R jd (e / 4).toNat + e % 4) = K' ∧ (∀ i, i < K' → rwP f' root (4 * R jd (e / 4).toNat + e % 4) i = r' i) ∧ (bR f' (4 * R jd (e / 4).toNat + e % 4) = 0 → 0 < K' → rwP f' root (4 * R jd (e / 4).toNat + e % 4) K' = 4294967295)) (A5e : ∀ i, i < K' → tb f' mp (r' i) = 1)
    (A6 : al t jn → K' = Kt t jn ∧ (∀ i, i < K' → r' i = R jn i) ∧ (isD f' (ea (R jd) e) ↔ isD f (ha (t 1 jn))))
    (A6' : ¬ al t jn → isD f' (ea (R jd) e) → ∀ i, i < K' → ∀ o : Int, 0 ≤ o → o < 4 → rd f' (ca (r' i) + 32 * o) ≠ 133)
    (A7 : ∀ j, 1 ≤ j → al t j → j ≠ jn → pt t j = jd → ¬ Lk f' g (ha (t 1 j)) (ea (R jd) (t 3 j + 2)) (ea (R jd) e) (ea (R jd) (e + 2)))
    (A8 : ∀ j, 1 ≤ j → al t j → j ≠ jn → ρ (pt t j) < ρ j ∧ 0 ≤ ρ (pt t j)) (A8' : ρ jd < ρ jn ∧ 0 ≤ ρ jd) : V f' g n root mp (tn t jn (4 * R jd (e / 4).toNat + e % 4) jd e K' ρ) (up R jn r') := by
  have nn := V_n v
  have nr := new_rng v dA e0 e2 m34 em
  have hP : ha (4 * R jd (e / 4).toNat + e % 4) = ea (R jd) e := ha_ea.symm
  have noN : ∀ j, 1 ≤ j → al t j → ∀ x, (ha (t 1 j) ≤ x ∧ x < ha (t 1 j) + 64) ∨ (ea (R (pt t j)) (t 3 j + 2) ≤ x ∧ x < ea (R (pt t j)) (t 3 j + 2) + 64) → ¬ NewX R jd e m x := fun j j1 a x hx => new_no v dA e0 e2 m34 em un j1 a hx
  have noO : ∀ j, 1 ≤ j → al t j → j ≠ jn → ∀ x, (ha (t 1 j) ≤ x ∧ x < ha (t 1 j) + 64) ∨ (ea (R (pt t j)) (t 3 j + 2) ≤ x ∧ x < ea (R (pt t j)) (t 3 j + 2) + 64) → ¬ OldX f t R jn x := fun j j1 a ne x hx o => by
    have an := o.1
    have h1 := V_hh v j1 a n1 an ne
    have h2 := V_ht v j1 a n1 an
    have h3 := V_ht v n1 an j1 a
    have h4 := V_tt v j1 a n1 an ne
    have o2 := o.2
    clear A1 A1o A2 A3 A4 A5a A5b A5c A5d A5e A6 A6' A7 A8 A8' un nr m34 o noN
    generalize ha (t 1 j) = A at *
    generalize ha (t 1 jn) = B at *
    generalize ea (R (pt t j)) (t 3 j + 2) = C at *
    generalize ea (R (pt t jn)) (t 3 jn + 2) = D at *
    rcases o2 with o2 | o2 | o2 | o2
    · omega
    · omega
    · omega
    · have o3 := o2.2
      clear o2
      omega
  have hdS : ∀ j, 1 ≤ j → al t j → j ≠ jn → ∀ x, ha (t 1 j) ≤ x → x < ha (t 1 j) + 64 → rd f' x = rd f x := fun j j1 a ne x x0 x1 => by
    have hd := V_hd v j1 a
    have s3 := SetOK_3 (V_ln v j1 a)
    have a64 := (V_al64 v j1 a).1
    rcases A1 _ (v.1.2.2.2.1 j j1 a).1 (v.2.1 j j1 a).1 _ hd.2.2.1 x (Int.le_trans hd.1 x0) (Int.lt_of_lt_of_le x1 hd.2.1) (noN j j1 a x (Or.inl ⟨x0, x1⟩)) (noO j j1 a ne x (Or.inl ⟨x0, x1⟩)) with y | ⟨y1, y2, y3⟩
    · exact y
    · have : x = ha (t 1 j) ∨ x = ha (t 1 j) + 32 := by
        clear A1 A1o A2 A3 A4 A5a A5b A5c A5d A5e A6 A6' A7 A8 A8' un nr m34 noN noO s3 hd
        omega
      rcases this with z | z
      · rw [z, s3.2.2.1] at y2; exact absurd y2 (by decide)
      · rw [z, s3.2.2.2.1] at y2; exact absurd y2 (by decide)
  have tlS : ∀ j, 1 ≤ j → al t j → j ≠ jn → ∀ x, ea (R (pt t j)) (t 3 j + 2) ≤ x → x < ea (R (pt t j)) (t 3 j + 2) + 32 * (rd f (ha (t 1 j) + 1) - 1) → rd f' x = rd f x := fun j j1 a ne x x0 x1 => by
    have tl := V_tl v j1 a
    have s3 := SetOK_3 (V_ln v j1 a)
    have a64 := (V_al64 v j1 a).2
    have k23 := s3.1
    have x2 : x < ea (R (pt t j)) (t 3 j + 2) + 64 := by
      clear A1 A1o A2 A3 A4 A5a A5b A5c A5d A5e A6 A6' A7 A8 A8' un nr m34 noN noO s3 hdS tl
      omega
    rcases A1 _ (v.1.2.2.2.1 j j1 a).1 (v.2.1 j j1 a).1 _ tl.2.2.1 x (Int.le_trans tl.1 x0) (Int.lt_of_lt_of_le x2 tl.2.1) (noN j j1 a x (Or.inr ⟨x0, x2⟩)) (noO j j1 a ne x (Or.inr ⟨x0, x2⟩)) with y | ⟨y1, y2, y3⟩
    · exact y
    · have : x = ea (R (pt t j)) (t 3 j + 2) ∨ (rd f (ha (t 1 j) + 1) = 3 ∧ x = ea (R (pt t j)) (t 3 j + 2) + 32) := by
        clear A1 A1o A2 A3 A4 A5a A5b A5c A5d A5e A6 A6' A7 A8 A8' un nr m34 noN noO s3 hdS tl
        omega
      rcases this with z | ⟨z0, z⟩
      · rw [z, s3.2.2.2.2.1] at y2; exact absurd y2 (by decide)
      · rw [z, s3.2.2.2.2.2 z0] at y2; exact absurd y2 (by decide)
  have z0n : (0 : Nat) ≠ jn := fun z => absurd n1 (by rw [← z]; decide)
  have dS : ∀ j, al t j → j ≠ jn → (dirT f' (tn t jn (4 * R jd (e / 4).toNat + e % 4) jd e K' ρ) j ↔ dirT f t j) := fun j a ne => by
    unfold dirT
    rw [tn_1, st_n _ _ ne]
    by_cases z0 : j = 0
    · exact ⟨fun _ => Or.inl z0, fun _ => Or.inl z0⟩
    · have j1 : 1 ≤ j := Nat.pos_of_ne_zero z0
      have e4 : u2 f' (ha (t 1 j) + 4) = u2 f (ha (t 1 j) + 4) := u2_cg (hdS j j1 a ne _ (by omega) (by omega)) (hdS j j1 a ne _ (by omega) (by omega))
      unfold isD
      rw [e4]
  have dN' : dirT f' (tn t jn (4 * R jd (e / 4).toNat + e % 4) jd e K' ρ) jn ↔ isD f' (ea (R jd) e) := by
    unfold dirT
    rw [tn_1, st_s, hP]
    exact ⟨fun y => y.resolve_left (fun z => z0n z.symm), fun y => Or.inr y⟩
  have Kp : ∀ j, 1 ≤ j → al t j → Kt (tn t jn (4 * R jd (e / 4).toNat + e % 4) jd e K' ρ) (pt t j) = Kt t (pt t j) := fun j j1 a => by
    by_cases z : pt t j = jn
    · have aw := (v.1.2.2.2.1 j j1 a).1
      rw [z] at aw ⊢
      rw [tn_Ks]
      exact (A6 aw).1
    · exact tn_Kn z
  have Rp : ∀ j, 1 ≤ j → al t j → ∀ q : Int, 0 ≤ q → q < 4 * (Kt t (pt t j) : Int) → ea (up R jn r' (pt t j)) q = ea (R (pt t j)) q := fun j j1 a q q0 q1 => by
    by_cases z : pt t j = jn
    · have aw := (v.1.2.2.2.1 j j1 a).1
      rw [z] at aw q1 ⊢
      rw [up_s]
      obtain ⟨a1, a2, _⟩ := A6 aw
      exact ea_cg (K := K') a2 q0 (by rw [a1]; exact q1)
    · rw [up_n _ _ z]
  have pne : ∀ j, 1 ≤ j → al t j → pt t j ≠ j := fun j j1 a z => by
    have := (v.1.2.2.2.1 j j1 a).2.2.2.1
    rw [z] at this
    exact absurd this (Int.lt_irrefl _)
  have Kd : Kt (tn t jn (4 * R jd (e / 4).toNat + e % 4) jd e K' ρ) jd = Kt t jd := tn_Kn dN
  have Rd : up R jn r' jd = R jd := up_n _ _ dN
  have spl : ∀ j, al (tn t jn (4 * R jd (e / 4).toNat + e % 4) jd e K' ρ) j → j = jn ∨ (j ≠ jn ∧ al t j) := fun j a => by
    by_cases z : j = jn
    · exact Or.inl z
    · exact Or.inr ⟨z, (tn_al.mp a).resolve_left z⟩
  refine ⟨⟨⟨tn_al.mpr (Or.inr v.1.1.1), by rw [tn_1, st_n _ _ z0n]; exact v.1.1.2.1, by rw [tn_Kn z0n]; exact v.1.1.2.2⟩, fun j a i hi => ?_, fun j j' i i' a a' hi hi' eq => ?_, fun j j1 a => ?_, fun j j' j1 j1' a a' e1 e2' => ?_⟩, fun j j1 a => ?_, fun j a => ?_, fun j a d q q0 q1 ty => ?_, fun j j' j1 j1' a a' ne pp => ?_, fun j a i hi => ?_, by rw [A3 _ (V_mp v)]; exact v.2.2.2.2.2.2.1, ?_, byf', nn, V_mp v⟩
  · rcases spl j a with z | ⟨z, aj⟩
    · rw [z, tn_Ks] at hi
      rw [z, up_s]
      exact A5a i hi
    · rw [tn_Kn z] at hi
      rw [up_n _ _ z]
      exact v.1.2.1 j aj i hi
  · rcases spl j a with z | ⟨z, aj⟩
    · rcases spl j' a' with z' | ⟨z', aj'⟩
      · rw [z, tn_Ks] at hi
        rw [z', tn_Ks] at hi'
        rw [z, z', up_s] at eq
        refine ⟨by rw [z, z'], ?_⟩
        rcases Nat.lt_trichotomy i i' with y | y | y
        · exact absurd eq (A5b i i' y hi')
        · exact y
        · exact absurd eq.symm (A5b i' i y hi)
      · rw [z, tn_Ks] at hi
        rw [tn_Kn z'] at hi'
        rw [z, up_s, up_n _ _ z'] at eq
        exact absurd eq.symm (A5c j' aj' z' i' i hi' hi)
    · rcases spl j' a' with z' | ⟨z', aj'⟩
      · rw [tn_Kn z] at hi
        rw [z', tn_Ks] at hi'
        rw [z', up_s, up_n _ _ z] at eq
        exact absurd eq (A5c j aj z i i' hi hi')
      · rw [tn_Kn z] at hi
        rw [tn_Kn z'] at hi'
        rw [up_n _ _ z, up_n _ _ z'] at eq
        exact v.1.2.2.1 j j' i i' aj aj' hi hi' eq
  · rcases spl j a with z | ⟨z, aj⟩
    · subst z
      rw [tn_ps, tn_1, tn_3, tn_5, st_s, st_s, Rd]
      exact ⟨tn_al.mpr (Or.inr dA), ⟨e0, e2⟩, rfl, A8'⟩
    · have w := v.1.2.2.2.1 j j1 aj
      rw [tn_pn z, tn_1, tn_3, tn_5, st_n _ _ z, st_n _ _ z]
      refine ⟨tn_al.mpr (Or.inr w.1), w.2.1, ?_, A8 j j1 aj z⟩
      have ee := V_e v j1 aj
      have rp := Rp j j1 aj (t 3 j) w.2.1.1 (by omega)
      unfold ea ca at rp
      have := w.2.2.1
      omega
  · rcases spl j a with z | ⟨z, aj⟩
    · rcases spl j' a' with z' | ⟨z', aj'⟩
      · rw [z, z']
      · rw [z, tn_ps, tn_pn z'] at e1
        rw [z, tn_3, st_s, st_n _ _ z'] at e2'
        have s3 := SetOK_3 (v.2.1 j' j1' aj').2
        rw [← e1, ← e2'] at s3
        have u0 := un 0 (by omega) (by omega)
        rw [show e + 0 = e by omega, s3.2.2.1] at u0
        exact absurd u0 (by decide)
    · rcases spl j' a' with z' | ⟨z', aj'⟩
      · rw [z', tn_ps, tn_pn z] at e1
        rw [z', tn_3, st_s, st_n _ _ z] at e2'
        have s3 := SetOK_3 (v.2.1 j j1 aj).2
        rw [e1, e2'] at s3
        have u0 := un 0 (by omega) (by omega)
        rw [show e + 0 = e by omega, s3.2.2.1] at u0
        exact absurd u0 (by decide)
      · rw [tn_pn z, tn_pn z'] at e1
        rw [tn_3, st_n _ _ z, st_n _ _ z'] at e2'
        exact v.1.2.2.2.2 j j' j1 j1' aj aj' e1 e2'
  · rcases spl j a with z | ⟨z, aj⟩
    · subst z
      unfold VS
      rw [tn_ps, tn_3, st_s, Kd, Rd]
      exact ⟨(dS jd dA dN).mpr dD, A4⟩
    · have w := v.1.2.2.2.1 j j1 aj
      have dj := (v.2.1 j j1 aj).1
      have ee := V_e v j1 aj
      unfold VS
      rw [tn_pn z, tn_3, st_n _ _ z, Kp j j1 aj, Rp j j1 aj _ w.2.1.1 (by omega), Rp j j1 aj _ (by omega) (by omega), ← (V_cl v j1 aj).2.2.1]
      refine ⟨?_, SetOK_cg2 (V_ln v j1 aj) (hdS j j1 aj z) (tlS j j1 aj z)⟩
      by_cases y : pt t j = jn
      · have aw := w.1
        rw [y] at aw dj ⊢
        rw [dN']
        refine (A6 aw).2.2.mpr ?_
        rcases dj with dj | dj
        · exact absurd dj.symm z0n
        · exact dj
      · exact (dS _ w.1 y).mpr dj
  · rcases spl j a with z | ⟨z, aj⟩
    · subst z
      unfold VR
      rw [tn_1, st_s, tn_Ks, tn_Kn z0n, up_s]
      exact ⟨A5d.1, A5d.2.1, fun b kp => A5d.2.2 (b.resolve_left (fun y => z0n y.symm)) kp⟩
    · unfold VR
      rw [tn_1, st_n _ _ z, tn_Kn z, tn_Kn z0n, up_n _ _ z]
      obtain ⟨r1, r2, r3⟩ := v.2.2.1 j aj
      have fS : ∀ i, i < Kt t j → ft f' (rwP f root (t 1 j) i) = ft f (rwP f root (t 1 j) i) := fun i hi => by rw [r2 i hi]; exact A2 j aj i hi
      by_cases z0 : j = 0
      · have e0' : t 1 j = 0 := by rw [z0]; exact v.1.1.2.1
        rw [e0'] at r1 r2 r3 fS ⊢
        rw [rwP_0] at r2 r3 fS
        rw [rkP_0] at r1
        rw [rwP_0, rkP_0]
        have ts : ∀ i, i ≤ Kt t j → tc f' 0 root i = tc f 0 root i := tc_sm (fun i hi => Or.inr (fS i hi))
        exact ⟨r1, fun i hi => by rw [ts i (Nat.le_of_lt hi)]; exact r2 i hi, fun b kp => by rw [ts _ (Nat.le_refl _)]; exact r3 (Or.inl z0) kp⟩
      · have j1 : 1 ≤ j := Nat.pos_of_ne_zero z0
        have p0 : t 1 j ≠ 0 := by have := V_cl v j1 aj; omega
        have e56 : u4 f' (ha (t 1 j) + 56) = u4 f (ha (t 1 j) + 56) := u4_cg (fun x _ _ => hdS j j1 aj z _ (by omega) (by omega))
        have e52 : u4 f' (ha (t 1 j) + 52) = u4 f (ha (t 1 j) + 52) := u4_cg (fun x _ _ => hdS j j1 aj z _ (by omega) (by omega))
        have eb : bR f' (t 1 j) = bR f (t 1 j) := by unfold bR; rw [hdS j j1 aj z _ (by omega) (by omega)]
        rw [rwP_n f root p0] at r2 r3 fS
        rw [rkP_n f _ p0] at r1
        rw [rwP_n f' root p0, rkP_n f' _ p0, e56, e52, eb]
        have ts : ∀ i, i ≤ Kt t j → tc f' (bR f (t 1 j)) (u4 f (ha (t 1 j) + 52)) i = tc f (bR f (t 1 j)) (u4 f (ha (t 1 j) + 52)) i := tc_sm (fun i hi => Or.inr (fS i hi))
        exact ⟨r1, fun i hi => by rw [ts i (Nat.le_of_lt hi)]; exact r2 i hi, fun b kp => by rw [ts _ (Nat.le_refl _)]; exact r3 b kp⟩
  · rcases spl j a with z | ⟨z, aj⟩
    · subst z
      rw [dN'] at d
      rw [tn_Ks] at q1
      rw [up_s] at ty
      by_cases an : al t j
      · obtain ⟨a1, a2, a3⟩ := A6 an
        rw [ea_cg (K := K') a2 q0 q1] at ty
        rw [a1] at q1
        have i0 : (q / 4).toNat < Kt t j := by omega
        have in' := ea_in (r := R j) (q := q)
        have dj : dirT f t j := Or.inr (a3.mp d)
        have far : ¬ NewX R jd e m (ea (R j) q) := fun nx => by
          have c1 := v.1.2.2.1 j jd (q / 4).toNat (e / 4).toNat an dA i0 nr.1.2.2
          have c2 := v.1.2.2.1 j jd (q / 4).toNat ((e + 2) / 4).toNat an dA i0 nr.2.1.2.2
          have d1 : R j (q / 4).toNat ≠ R jd (e / 4).toNat := fun y => dN (c1 y).1.symm
          have d2 : R j (q / 4).toNat ≠ R jd ((e + 2) / 4).toNat := fun y => dN (c2 y).1.symm
          have n1' := nr.1
          have n2' := nr.2.1
          unfold NewX at nx
          clear A1 A1o A2 A3 A4 A5a A5b A5c A5d A5e A6 A6' A7 A8 A8' un nr noN noO hdS tlS dS Kp Rp c1 c2 a2
          unfold ca at in' n1' n2'
          omega
        have farO : ¬ OldX f t R j (ea (R j) q) := fun o => by
          have o2 := o.2
          have wp := v.1.2.2.2.1 j n1 an
          have hd := V_hd v n1 an
          have tl := V_tl v n1 an
          have pn := pne j n1 an
          have d1 : R j (q / 4).toNat ≠ R (pt t j) (t 3 j / 4).toNat := fun y => pn (v.1.2.2.1 _ _ _ _ an wp.1 i0 hd.2.2.1 y).1.symm
          have d2 : R j (q / 4).toNat ≠ R (pt t j) ((t 3 j + 2) / 4).toNat := fun y => pn (v.1.2.2.1 _ _ _ _ an wp.1 i0 tl.2.2.1 y).1.symm
          clear A1 A1o A2 A3 A4 A5a A5b A5c A5d A5e A6 A6' A7 A8 A8' un nr noN noO hdS tlS dS Kp Rp wp a2 m34 o far
          unfold ca at in' hd tl
          generalize ea (R (pt t j)) (t 3 j + 2) = D at *
          rcases o2 with o2 | o2 | o2 | o2
          · omega
          · omega
          · omega
          · have o3 := o2.2
            clear o2
            omega
        rcases A1 j an dj _ i0 _ in'.1 (Int.lt_of_lt_of_le (show ea (R j) q < ea (R j) q + 32 by omega) in'.2) far farO with y | ⟨_, _, y⟩
        · rw [y] at ty
          obtain ⟨j', w1, w2, w3, w4⟩ := v.2.2.2.1 j an dj q q0 q1 ty
          have jn' : j' ≠ j := fun x => pne j n1 an (by rw [x] at w3; exact w3)
          exact ⟨j', w1, tn_al.mpr (Or.inr w2), by rw [tn_pn jn']; exact w3, by rw [tn_3, st_n _ _ jn']; exact w4⟩
        · exact absurd ty y
      · exact absurd ty (A6' an d (q / 4).toNat (by omega) (q % 4) (by omega) (by omega))
    · rw [dS j aj z] at d
      rw [tn_Kn z] at q1
      rw [up_n _ _ z] at ty
      have i0 : (q / 4).toNat < Kt t j := by omega
      have in' := ea_in (r := R j) (q := q)
      have al32 := ea_al (R j) q
      by_cases nx : NewX R jd e m (ea (R j) q)
      · have s3 := SetOK_3 A4
        have cj := V_rr v aj _ i0
        have cd := V_rr v dA _ nr.1.2.2
        have a64 := nr.2.2.1
        have four : ea (R j) q = ea (R jd) e ∨ ea (R j) q = ea (R jd) e + 32 ∨ ea (R j) q = ea (R jd) (e + 2) ∨ (m = 4 ∧ ea (R j) q = ea (R jd) (e + 2) + 32) := by
          unfold NewX at nx
          clear A1 A1o A2 A3 A4 A5a A5b A5c A5d A5e A6 A6' A7 A8 A8' un nr noN noO hdS tlS dS Kp Rp s3 in'
          omega
        rcases four with y | y | y | ⟨ym, y⟩
        · have same : R j (q / 4).toNat = R jd (e / 4).toNat := by
            have n1' := nr.1
            clear A1 A1o A2 A3 A4 A5a A5b A5c A5d A5e A6 A6' A7 A8 A8' un nr noN noO hdS tlS dS Kp Rp s3 nx m34
            unfold ca at in' n1'
            omega
          have o := v.1.2.2.1 j jd _ _ aj dA i0 nr.1.2.2 same
          have qe : q = e := by
            have o2 := o.2
            have y' := y
            unfold ea at y'
            rw [same] at y'
            clear A1 A1o A2 A3 A4 A5a A5b A5c A5d A5e A6 A6' A7 A8 A8' un nr noN noO hdS tlS dS Kp Rp s3 nx m34 y in' a64 al32
            omega
          exact ⟨jn, n1, tn_al.mpr (Or.inl rfl), by rw [tn_ps, o.1], by rw [tn_3, st_s, qe]⟩
        · rw [y, s3.2.2.2.1] at ty; exact absurd ty (by decide)
        · rw [y, s3.2.2.2.2.1] at ty; exact absurd ty (by decide)
        · rw [y, s3.2.2.2.2.2 (by rw [A4m, ym]; decide)] at ty; exact absurd ty (by decide)
      · by_cases ox : OldX f t R jn (ea (R j) q)
        · exact absurd ty (A1o _ ox)
        · rcases A1 j aj d _ i0 _ in'.1 (Int.lt_of_lt_of_le (show ea (R j) q < ea (R j) q + 32 by omega) in'.2) nx ox with y | ⟨_, _, y⟩
          · rw [y] at ty
            obtain ⟨j', w1, w2, w3, w4⟩ := v.2.2.2.1 j aj d q q0 q1 ty
            have jn' : j' ≠ jn := fun x => by
              subst x
              refine ox ⟨w2, Or.inl ?_⟩
              rw [(V_cl v w1 w2).2.2.1, w3, w4]
            exact ⟨j', w1, tn_al.mpr (Or.inr w2), by rw [tn_pn jn']; exact w3, by rw [tn_3, st_n _ _ jn']; exact w4⟩
          · exact absurd ty y
  · have lts : ∀ j2, 1 ≤ j2 → al t j2 → j2 ≠ jn → ∀ i : Nat, (i : Int) < rd f (ha (t 1 j2) + 35) → lt f' (ea (R (pt t j2)) (t 3 j2 + 2)) i = lt f (ea (R (pt t j2)) (t 3 j2 + 2)) i := fun j2 q2 a2 ne2 i hi => by
      have nm := (V_ln v q2 a2).2.2.2.1
      have nm2 := nm.2.1
      have k23 := (SetOK_3 (V_ln v q2 a2)).1
      have la' : ea (R (pt t j2)) (t 3 j2 + 2) ≤ la (ea (R (pt t j2)) (t 3 j2 + 2)) (i : Int) ∧ la (ea (R (pt t j2)) (t 3 j2 + 2)) (i : Int) + 2 ≤ ea (R (pt t j2)) (t 3 j2 + 2) + 32 * (rd f (ha (t 1 j2) + 1) - 1) := by
        clear A1 A1o A2 A3 A4 A5a A5b A5c A5d A5e A6 A6' A7 A8 A8' un nr noN noO hdS tlS dS Kp Rp
        unfold la
        split <;> omega
      unfold lt
      exact u2_cg (tlS j2 q2 a2 ne2 _ (by omega) (by omega)) (tlS j2 q2 a2 ne2 _ (by omega) (by omega))
    rcases spl j a with z | ⟨z, aj⟩
    · rcases spl j' a' with z' | ⟨z', aj'⟩
      · exact absurd (z.trans z'.symm) ne
      · rw [z, tn_ps, tn_pn z'] at pp
        rw [z, tn_ps, tn_3, st_s, st_n _ _ z', Rd]
        have hj := (V_cl v j1' aj').2.2.1
        rw [← pp] at hj
        intro l
        refine A7 j' j1' aj' z' pp.symm ?_
        rw [hj]
        exact Lk_sy l
    · rcases spl j' a' with z' | ⟨z', aj'⟩
      · rw [z', tn_ps, tn_pn z] at pp
        rw [z', tn_pn z, tn_3, st_s, st_n _ _ z, pp, Rd]
        have hj := (V_cl v j1 aj).2.2.1
        rw [pp] at hj
        intro l
        refine A7 j j1 aj z pp ?_
        rw [hj]
        exact l
      · rw [tn_pn z, tn_pn z'] at pp
        have w := v.1.2.2.2.1 j j1 aj
        have w' := v.1.2.2.2.1 j' j1' aj'
        have ee := V_e v j1 aj
        have ee' := V_e v j1' aj'
        rw [← pp] at ee'
        rw [tn_pn z, tn_3, st_n _ _ z, st_n _ _ z', Rp j j1 aj _ w.2.1.1 (by omega), Rp j j1 aj _ (by omega) (by omega), Rp j j1 aj _ w'.2.1.1 (by omega), Rp j j1 aj _ (by omega) (by omega)]
        have nl := v.2.2.2.2.1 j j' j1 j1' aj aj' ne pp
        have h1 := (V_cl v j1 aj).2.2.1
        have h2 := (V_cl v j1' aj').2.2.1
        rw [← pp] at h2
        rw [← h1, ← h2] at nl ⊢
        intro l
        have n35 := hdS j j1 aj z (ha (t 1 j) + 35) (by omega) (by omega)
        have n35' := hdS j' j1' aj' z' (ha (t 1 j') + 35) (by omega) (by omega)
        have l1 := l.1
        rw [n35, n35'] at l1
        refine nl ⟨l1, fun i hi => ?_⟩
        have ll := l.2 i (by rw [n35]; exact hi)
        have l2 := lts j' j1' aj' z' i (by rw [← l1]; exact hi)
        rw [← pp] at l2
        rw [lts j j1 aj z i hi, l2] at ll
        exact ll
  · rcases spl j a with z | ⟨z, aj⟩
    · rw [z, tn_Ks] at hi
      rw [z, up_s]
      exact A5e i hi
    · rw [tn_Kn z] at hi
      rw [up_n _ _ z, A3 _ (v.1.2.1 j aj i hi).1]
      exact v.2.2.2.2.2.1 j aj i hi
  · have r0 := (v.2.2.1 0 v.1.1.1).2.1 0 v.1.1.2.2
    rw [v.1.1.2.1, rwP_0] at r0
    simp only [tc] at r0
    have d6 := v.2.2.2.2.2.2.2.1
    have c0 := V_rr v v.1.1.1 0 v.1.1.2.2
    have gen : ∀ x ty, (x = ca root ∨ x = ca root + 32) → rd f x = ty → (ty = 129 ∨ ty = 130) → rd f' x = ty := fun x ty hx tx hty => by
      have nx : ¬ NewX R jd e m x := fun nx => by
        have u0 := un 0 (by omega) (by omega)
        have u1 := un 1 (by omega) (by omega)
        have u2' := un 2 (by omega) (by omega)
        rw [show e + 0 = e by omega] at u0
        rw [ea_s e0 e2] at u1
        have a64 := nr.2.2.1
        have four : x = ea (R jd) e ∨ x = ea (R jd) e + 32 ∨ x = ea (R jd) (e + 2) ∨ (m = 4 ∧ x = ea (R jd) (e + 2) + 32) := by
          unfold NewX at nx
          clear A1 A1o A2 A3 A4 A5a A5b A5c A5d A5e A6 A6' A7 A8 A8' un nr noN noO hdS tlS dS Kp Rp d6 u0 u1 u2' r0 tx hty
          unfold ca at hx
          omega
        rcases four with y | y | y | ⟨ym, y⟩
        · rw [← y, tx] at u0; omega
        · rw [← y, tx] at u1; omega
        · rw [← y, tx] at u2'; omega
        · have u3 := un 3 (by omega) (by omega)
          rw [show e + 3 = e + 2 + 1 by omega, ea_s (by omega) (by omega), ← y, tx] at u3
          omega
      have ox : ¬ OldX f t R jn x := fun ox => by
        have s3 := SetOK_3 (V_ln v n1 ox.1)
        rcases ox.2 with y | y | y | ⟨ym, y⟩
        · rw [← y, tx] at s3; have := s3.2.2.1; omega
        · rw [← y, tx] at s3; have := s3.2.2.2.1; omega
        · have := s3.2.2.2.2.1; rw [← y, tx] at this; omega
        · have := s3.2.2.2.2.2 ym; rw [← y, tx] at this; omega
      have x0 : ca (R 0 0) ≤ x ∧ x < ca (R 0 0) + 128 := by
        rw [← r0]
        rcases hx with y | y <;> rw [y] <;> exact ⟨by omega, by omega⟩
      rcases A1 0 v.1.1.1 (Or.inl rfl) 0 v.1.1.2.2 x x0.1 x0.2 nx ox with y | ⟨_, y, _⟩
      · rw [y]; exact tx
      · rw [tx] at y; omega
    exact ⟨gen _ _ (Or.inl rfl) d6.1 (Or.inl rfl), gen _ _ (Or.inr rfl) d6.2 (Or.inr rfl)⟩
end VPUT2
