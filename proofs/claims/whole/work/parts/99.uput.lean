/-! a SET comes, or moves -/
theorem SetOK_cg2 {f f' g : Nat → Int} {n hd tl room : Int} (s : SetOK f g n hd tl room) (a : ∀ x, hd ≤ x → x < hd + 64 → rd f' x = rd f x) (b : ∀ x, tl ≤ x → x < tl + 32 * (rd f (hd + 1) - 1) → rd f' x = rd f x) : SetOK f' g n hd tl room := by
  have s3 := SetOK_3 s
  obtain ⟨⟨p1, p2, p3, p4, p5⟩, ⟨q1, q2, q3, q4, q5⟩, ⟨l1, l2, l3, l4, l5, l6, l7⟩, ⟨n1, n2, n3, n4, n5, n6⟩, sm⟩ := s
  have e1 : rd f' (hd + 1) = rd f (hd + 1) := a _ (by omega) (by omega)
  have e35 : rd f' (hd + 35) = rd f (hd + 35) := a _ (by omega) (by omega)
  have e4 : u2 f' (hd + 4) = u2 f (hd + 4) := u2_cg (a _ (by omega) (by omega)) (a _ (by omega) (by omega))
  have e36 : u2 f' (hd + 36) = u2 f (hd + 36) := u2_cg (a _ (by omega) (by omega)) (a _ (by omega) (by omega))
  have e2 : u2 f' (hd + 2) = u2 f (hd + 2) := u2_cg (a _ (by omega) (by omega)) (a _ (by omega) (by omega))
  have e40 : u4 f' (hd + 40) = u4 f (hd + 40) := u4_cg (fun j _ _ => a _ (by omega) (by omega))
  have e44 : u4 f' (hd + 44) = u4 f (hd + 44) := u4_cg (fun j _ _ => a _ (by omega) (by omega))
  have e52 : u4 f' (hd + 52) = u4 f (hd + 52) := u4_cg (fun j _ _ => a _ (by omega) (by omega))
  have e56 : u4 f' (hd + 56) = u4 f (hd + 56) := u4_cg (fun j _ _ => a _ (by omega) (by omega))
  have e60 : u4 f' (hd + 60) = u4 f (hd + 60) := u4_cg (fun j _ _ => a _ (by omega) (by omega))
  have e33 : rd f' (hd + 33) = rd f (hd + 33) := a _ (by omega) (by omega)
  have lts : ∀ i : Nat, (i : Int) < 15 * (rd f (hd + 1) - 1) → lt f' tl i = lt f tl i := fun i hi => by
    unfold lt
    have la' : tl ≤ la tl (i : Int) ∧ la tl (i : Int) + 2 ≤ tl + 32 * (rd f (hd + 1) - 1) := by
      unfold la
      split <;> omega
    exact u2_cg (b _ (by omega) (by omega)) (b _ (by omega) (by omega))
  refine ⟨⟨by rw [a hd (by omega) (by omega)]; exact p1, by rw [e1]; exact p2, by rw [e4]; exact p3, fun x x0 x1 => by rw [a x (by omega) (by omega)]; exact p4 x x0 x1, fun x x0 x1 => by rw [a x (by omega) (by omega)]; exact p5 x x0 x1⟩, ⟨by rw [a _ (by omega) (by omega)]; exact q1, by rw [e33]; exact q2, by rw [a _ (by omega) (by omega)]; exact q3, fun x x0 x1 => by rw [a x (by omega) (by omega)]; exact q4 x x0 x1, fun x x0 x1 => by rw [a x (by omega) (by omega)]; exact q5 x x0 x1⟩, ?_, ⟨by rw [e35]; exact n1, by rw [e1, e35]; exact n2, ?_, ?_, fun i i0 i1 => ?_, fun i i0 i1 => ?_⟩, ?_⟩
  · unfold LnOK isD isR
    rw [e40, e44, e52, e56, e60, e4, e33]
    exact ⟨l1, l2, l3, l4, l5, l6, l7⟩
  · rw [e35]
    exact isNm_congr (fun i hi => (lts i (by omega)).symm) n3
  · rw [e35, e36, ← n4]
    refine (hsh_congr (fun i hi => ⟨(lts i (by omega)).symm, ?_⟩) (fun _ _ => rfl)).symm
    have := isLet_rng (n3.2.2.1 i (by omega))
    omega
  · rw [e1] at i1
    rw [b _ (by omega) (by omega), b _ (by omega) (by omega)]
    exact n5 i i0 i1
  · rw [e1] at i1
    rw [e35] at i0
    rw [lts i i1]
    exact n6 i i0 i1
  · unfold SmOK at sm ⊢
    rw [e1, e2, ← sm]
    refine ssum_congr (fun j hj _ _ => ?_)
    unfold so
    split
    · exact a _ (by omega) (by omega)
    · exact b _ (by omega) (by omega)
def tn (t : AH) (jn : Nat) (P' : Int) (jd : Nat) (e : Int) (K' : Nat) (ρ : Nat → Int) : AH := up (up (up (up (up (up t 0 (st (t 0) jn 1)) 1 (st (t 1) jn P')) 2 (st (t 2) jn (jd : Int))) 3 (st (t 3) jn e)) 4 (st (t 4) jn (K' : Int))) 5 ρ
section TN
variable {t : AH} {jn jd K' : Nat} {P' e : Int} {ρ : Nat → Int}
theorem tn_0 : tn t jn P' jd e K' ρ 0 = st (t 0) jn 1 := by unfold tn; rw [up_n _ _ (by decide), up_n _ _ (by decide), up_n _ _ (by decide), up_n _ _ (by decide), up_n _ _ (by decide), up_s]
theorem tn_1 : tn t jn P' jd e K' ρ 1 = st (t 1) jn P' := by unfold tn; rw [up_n _ _ (by decide), up_n _ _ (by decide), up_n _ _ (by decide), up_n _ _ (by decide), up_s]
theorem tn_2 : tn t jn P' jd e K' ρ 2 = st (t 2) jn (jd : Int) := by unfold tn; rw [up_n _ _ (by decide), up_n _ _ (by decide), up_n _ _ (by decide), up_s]
theorem tn_3 : tn t jn P' jd e K' ρ 3 = st (t 3) jn e := by unfold tn; rw [up_n _ _ (by decide), up_n _ _ (by decide), up_s]
theorem tn_4 : tn t jn P' jd e K' ρ 4 = st (t 4) jn (K' : Int) := by unfold tn; rw [up_n _ _ (by decide), up_s]
theorem tn_5 : tn t jn P' jd e K' ρ 5 = ρ := by unfold tn; rw [up_s]
theorem tn_al {j : Nat} : al (tn t jn P' jd e K' ρ) j ↔ (j = jn ∨ al t j) := by
  unfold al
  rw [tn_0]
  by_cases z : j = jn
  · rw [z, st_s]; exact ⟨fun _ => Or.inl rfl, fun _ => rfl⟩
  · rw [st_n _ _ z]; exact ⟨fun y => Or.inr y, fun y => y.resolve_left z⟩
theorem tn_Ks : Kt (tn t jn P' jd e K' ρ) jn = K' := by unfold Kt; rw [tn_4, st_s]; omega
theorem tn_Kn {j : Nat} (h : j ≠ jn) : Kt (tn t jn P' jd e K' ρ) j = Kt t j := by unfold Kt; rw [tn_4, st_n _ _ h]
theorem tn_ps : pt (tn t jn P' jd e K' ρ) jn = jd := by unfold pt; rw [tn_2, st_s]; omega
theorem tn_pn {j : Nat} (h : j ≠ jn) : pt (tn t jn P' jd e K' ρ) j = pt t j := by unfold pt; rw [tn_2, st_n _ _ h]
end TN
section VPUT
variable {f f' g : Nat → Int} {n root mp : Int} {t R : AH}
def NewX (R : AH) (jd : Nat) (e m x : Int) : Prop := (ea (R jd) e ≤ x ∧ x < ea (R jd) e + 64) ∨ (ea (R jd) (e + 2) ≤ x ∧ x < ea (R jd) (e + 2) + 32 * (m - 2))
def OldX (f : Nat → Int) (t R : AH) (jn : Nat) (x : Int) : Prop := al t jn ∧ (x = ha (t 1 jn) ∨ x = ha (t 1 jn) + 32 ∨ x = ea (R (pt t jn)) (t 3 jn + 2) ∨ (rd f (ha (t 1 jn) + 1) = 3 ∧ x = ea (R (pt t jn)) (t 3 jn + 2) + 32))
/-- where the new ENTRIES lie -/
theorem new_rng (v : V f g n root mp t R) {jd : Nat} {e m : Int} (dA : al t jd) (e0 : 0 ≤ e) (e2 : e % 2 = 0) (m34 : m = 3 ∨ m = 4) (em : e + m ≤ 4 * (Kt t jd : Int)) : (ca (R jd (e / 4).toNat) ≤ ea (R jd) e ∧ ea (R jd) e + 64 ≤ ca (R jd (e / 4).toNat) + 128 ∧ (e / 4).toNat < Kt t jd) ∧ (ca (R jd ((e + 2) / 4).toNat) ≤ ea (R jd) (e + 2) ∧ ea (R jd) (e + 2) + 64 ≤ ca (R jd ((e + 2) / 4).toNat) + 128 ∧ ((e + 2) / 4).toNat < Kt t jd) ∧ (ea (R jd) e % 64 = 0 ∧ ea (R jd) (e + 2) % 64 = 0) ∧ (1024 ≤ ea (R jd) e ∧ 1024 ≤ ea (R jd) (e + 2)) := by
  have c1 := V_rr v dA (e / 4).toNat (by omega)
  have c2 := V_rr v dA ((e + 2) / 4).toNat (by omega)
  unfold ea ca
  exact ⟨⟨by omega, by omega, by omega⟩, ⟨by omega, by omega, by omega⟩, ⟨by omega, by omega⟩, by omega, by omega⟩
theorem V_al64 (v : V f g n root mp t R) {j : Nat} (j1 : 1 ≤ j) (a : al t j) : ha (t 1 j) % 64 = 0 ∧ ea (R (pt t j)) (t 3 j + 2) % 64 = 0 := by
  have hd := V_hd v j1 a
  have tl := V_tl v j1 a
  have w := v.1.2.2.2.1 j j1 a
  unfold ca at hd tl
  omega
/-- those of a SET are not among them -/
theorem new_no (v : V f g n root mp t R) {jd j : Nat} {e m : Int} (dA : al t jd) (e0 : 0 ≤ e) (e2 : e % 2 = 0) (m34 : m = 3 ∨ m = 4) (em : e + m ≤ 4 * (Kt t jd : Int)) (un : ∀ i : Int, 0 ≤ i → i < m → rd f (ea (R jd) (e + i)) < 128) (j1 : 1 ≤ j) (a : al t j) {x : Int} (hx : (ha (t 1 j) ≤ x ∧ x < ha (t 1 j) + 64) ∨ (ea (R (pt t j)) (t 3 j + 2) ≤ x ∧ x < ea (R (pt t j)) (t 3 j + 2) + 64)) : ¬ NewX R jd e m x := by
  have rg := new_rng v dA e0 e2 m34 em
  have a64 := V_al64 v j1 a
  have s3 := SetOK_3 (V_ln v j1 a)
  have u0 := un 0 (by omega) (by omega)
  have u2' := un 2 (by omega) (by omega)
  rw [show e + 0 = e by omega] at u0
  have al' := rg.2.2.1
  clear rg em
  unfold NewX
  have d1 : ha (t 1 j) ≠ ea (R jd) e := fun z => by rw [← z, s3.2.2.1] at u0; omega
  have d2 : ha (t 1 j) ≠ ea (R jd) (e + 2) := fun z => by rw [← z, s3.2.2.1] at u2'; omega
  have d3 : ea (R (pt t j)) (t 3 j + 2) ≠ ea (R jd) e := fun z => by rw [← z, s3.2.2.2.2.1] at u0; omega
  have d4 : ea (R (pt t j)) (t 3 j + 2) ≠ ea (R jd) (e + 2) := fun z => by rw [← z, s3.2.2.2.2.1] at u2'; omega
  clear s3 u0 u2' un
  generalize ha (t 1 j) = A at *
  generalize ea (R (pt t j)) (t 3 j + 2) = B at *
  generalize ea (R jd) e = C at *
  generalize ea (R jd) (e + 2) = D at *
  omega
end VPUT
