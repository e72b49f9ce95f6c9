/-! ROOT grows, or none -/
section UPR
variable {f f' g : Nat → Int} {n root mp : Int} {t R : AH}
theorem V_upR (v : V f g n root mp t R) (byf' : By f')
    (C1 : ∀ j, al t j → dirT f t j → ∀ i, i < Kt t j → ∀ x, ca (R j i) ≤ x → x < ca (R j i) + 128 → rd f' x = rd f x)
    (C2 : ∀ j, al t j → j ≠ 0 → ∀ i, i < Kt t j → ft f' (R j i) = ft f (R j i))
    {K' : Nat} {r' : Nat → Int} (k0 : Kt t 0 ≤ K') (ra : ∀ i, i < Kt t 0 → r' i = R 0 i) (C4a : ∀ i, i < K' → clu n (r' i) ∧ r' i ≠ mp) (C4b : ∀ i i', i < i' → i' < K' → r' i ≠ r' i') (C4c : ∀ j, al t j → j ≠ 0 → ∀ i i', i < Kt t j → i' < K' → R j i ≠ r' i')
    (C4d : (∀ i, i < K' → tc f' 0 root i = r' i) ∧ tc f' 0 root K' = 4294967295)
    (C5 : ∀ i, Kt t 0 ≤ i → i < K' → ∀ o : Int, 0 ≤ o → o < 4 → rd f' (ca (r' i) + 32 * o) ≠ 133)
    (C6 : ∀ j, al t j → j ≠ 0 → ∀ i, i < Kt t j → tb f' mp (R j i) = 1) (C6' : ∀ i, i < K' → tb f' mp (r' i) = 1) (C6m : tb f' mp mp = 1) : V f' g n root mp (tk t 0 K') (up R 0 r') := by
  have nn := V_n v
  have hdS : ∀ j, 1 ≤ j → al t j → ∀ x, ha (t 1 j) ≤ x → x < ha (t 1 j) + 64 → rd f' x = rd f x := fun j j1 a x x0 x1 => by
    have hd := V_hd v j1 a
    exact C1 (pt t j) (v.1.2.2.2.1 j j1 a).1 (v.2.1 j j1 a).1 _ hd.2.2.1 x (by omega) (by omega)
  have tlS : ∀ j, 1 ≤ j → al t j → ∀ x, ea (R (pt t j)) (t 3 j + 2) ≤ x → x < ea (R (pt t j)) (t 3 j + 2) + 64 → rd f' x = rd f x := fun j j1 a x x0 x1 => by
    have hd := V_tl v j1 a
    exact C1 (pt t j) (v.1.2.2.2.1 j j1 a).1 (v.2.1 j j1 a).1 _ hd.2.2.1 x (by omega) (by omega)
  have dS : ∀ j, al t j → (dirT f' (tk t 0 K') j ↔ dirT f t j) := fun j a => by
    show (j = 0 ∨ isD f' (ha (t 1 j))) ↔ (j = 0 ∨ isD f (ha (t 1 j)))
    by_cases z0 : j = 0
    · exact ⟨fun _ => Or.inl z0, fun _ => Or.inl z0⟩
    · have e : u2 f' (ha (t 1 j) + 4) = u2 f (ha (t 1 j) + 4) := u2_cg (hdS j (by omega) a _ (by omega) (by omega)) (hdS j (by omega) a _ (by omega) (by omega))
      unfold isD
      rw [e]
  have Rp : ∀ j, 1 ≤ j → al t j → ∀ e : Int, 0 ≤ e → e < 4 * (Kt t (pt t j) : Int) → ea (up R 0 r' (pt t j)) e = ea (R (pt t j)) e := fun j j1 a e e0 e1 => by
    by_cases z : pt t j = 0
    · rw [z] at e1 ⊢
      rw [up_s]
      exact ea_cg ra e0 e1
    · rw [up_n _ _ z]
  have Kp : ∀ j, 1 ≤ j → al t j → Kt t (pt t j) ≤ Kt (tk t 0 K') (pt t j) := fun j j1 a => by
    by_cases z : pt t j = 0
    · rw [z, tk_Ks]; exact k0
    · rw [tk_Kn z]; exact Nat.le_refl _
  have K1 := v.1.1.2.2
  refine ⟨⟨⟨v.1.1.1, v.1.1.2.1, by rw [tk_Ks]; omega⟩, fun j a i hi => ?_, fun j j' i i' a a' hi hi' eq => ?_, fun j j1 a => ?_, v.1.2.2.2.2⟩, fun j j1 a => ⟨(dS _ (v.1.2.2.2.1 j j1 a).1).mpr (v.2.1 j j1 a).1, ?_⟩, fun j a => ?_, fun j a d e e0 e1 ty => ?_, fun j j' j1 j1' a a' ne pp => ?_, fun j a i hi => ?_, C6m, ?_, byf', nn, V_mp v⟩
  · by_cases z : j = 0
    · rw [z, tk_Ks] at hi
      rw [z, up_s]
      exact C4a i hi
    · rw [tk_Kn z] at hi
      rw [up_n _ _ z]
      exact v.1.2.1 j a i hi
  · by_cases z : j = 0
    · by_cases z' : j' = 0
      · rw [z, tk_Ks] at hi
        rw [z', tk_Ks] at hi'
        rw [z, z', up_s] at eq
        refine ⟨by rw [z, z'], ?_⟩
        rcases Nat.lt_trichotomy i i' with y | y | y
        · exact absurd eq (C4b i i' y hi')
        · exact y
        · exact absurd eq.symm (C4b i' i y hi)
      · rw [z, tk_Ks] at hi
        rw [tk_Kn z'] at hi'
        rw [z, up_s, up_n _ _ z'] at eq
        exact absurd eq.symm (C4c j' a' z' i' i hi' hi)
    · by_cases z' : j' = 0
      · rw [tk_Kn z] at hi
        rw [z', tk_Ks] at hi'
        rw [z', up_s, up_n _ _ z] at eq
        exact absurd eq (C4c j a z i i' hi hi')
      · rw [tk_Kn z] at hi
        rw [tk_Kn z'] at hi'
        rw [up_n _ _ z, up_n _ _ z'] at eq
        exact v.1.2.2.1 j j' i i' a a' hi hi' eq
  · have w := v.1.2.2.2.1 j j1 a
    have e := V_e v j1 a
    refine ⟨w.1, w.2.1, ?_, w.2.2.2⟩
    show t 1 j = 4 * up R 0 r' (pt t j) (t 3 j / 4).toNat + t 3 j % 4
    have rp := Rp j j1 a (t 3 j) w.2.1.1 (by omega)
    unfold ea ca at rp
    have := w.2.2.1
    omega
  · show SetOK f' g n (ea (up R 0 r' (pt t j)) (t 3 j)) (ea (up R 0 r' (pt t j)) (t 3 j + 2)) (4 * (Kt (tk t 0 K') (pt t j) : Int) - t 3 j)
    have w := v.1.2.2.2.1 j j1 a
    have e := V_e v j1 a
    have kp := Kp j j1 a
    rw [Rp j j1 a _ w.2.1.1 (by omega), Rp j j1 a _ (by omega) (by omega), ← (V_cl v j1 a).2.2.1]
    refine SetOK_room (r := 4 * (Kt t (pt t j) : Int) - t 3 j) (by omega) ?_
    exact SetOK_congr (fun x p r => (hdS j j1 a x p r).symm) (fun x p r => (tlS j j1 a x p r).symm) (V_ln v j1 a)
  · by_cases z : j = 0
    · subst z
      unfold VR
      have e0 : tk t 0 K' 1 0 = 0 := v.1.1.2.1
      rw [tk_Ks, up_s, e0, rwP_0, rkP_0]
      exact ⟨rfl, C4d.1, fun _ _ => C4d.2⟩
    · unfold VR
      rw [tk_Kn z, up_n _ _ z]
      show rkP f' (Kt (tk t 0 K') 0) (t 1 j) = Kt t j ∧ (∀ i, i < Kt t j → rwP f' root (t 1 j) i = R j i) ∧ ((j = 0 ∨ bR f' (t 1 j) = 0) → 0 < Kt t j → rwP f' root (t 1 j) (Kt t j) = 4294967295)
      obtain ⟨r1, r2, r3⟩ := v.2.2.1 j a
      have fS : ∀ i, i < Kt t j → ft f' (rwP f root (t 1 j) i) = ft f (rwP f root (t 1 j) i) := fun i hi => by rw [r2 i hi]; exact C2 j a z i hi
      have cl := V_cl v (j := j) (by omega) a
      have p0 : t 1 j ≠ 0 := (by omega)
      have e56 : u4 f' (ha (t 1 j) + 56) = u4 f (ha (t 1 j) + 56) := u4_cg (fun x _ _ => hdS j (by omega) a _ (by omega) (by omega))
      have e52 : u4 f' (ha (t 1 j) + 52) = u4 f (ha (t 1 j) + 52) := u4_cg (fun x _ _ => hdS j (by omega) a _ (by omega) (by omega))
      have eb : bR f' (t 1 j) = bR f (t 1 j) := by unfold bR; rw [hdS j (by omega) a _ (by omega) (by omega)]
      rw [rwP_n f root p0] at r2 r3 fS
      rw [rkP_n f _ p0] at r1
      rw [rwP_n f' root p0, rkP_n f' _ p0, e56, e52, eb]
      have ts : ∀ i, i ≤ Kt t j → tc f' (bR f (t 1 j)) (u4 f (ha (t 1 j) + 52)) i = tc f (bR f (t 1 j)) (u4 f (ha (t 1 j) + 52)) i := tc_sm (fun i hi => Or.inr (fS i hi))
      exact ⟨r1, fun i hi => by rw [ts i (by omega)]; exact r2 i hi, fun b kp => by rw [ts _ (Nat.le_refl _)]; exact r3 b kp⟩
  · rw [dS j a] at d
    have old : e < 4 * (Kt t j : Int) → ea (up R 0 r' j) e = ea (R j) e → ∃ j', 1 ≤ j' ∧ al t j' ∧ pt t j' = j ∧ t 3 j' = e := fun lt' eq => by
      rw [eq] at ty
      have i0 : (e / 4).toNat < Kt t j := (by omega)
      have in' := ea_in (r := R j) (q := e)
      rw [C1 j a d _ i0 _ in'.1 (by omega)] at ty
      exact v.2.2.2.1 j a d e e0 lt' ty
    by_cases z : j = 0
    · subst z
      rw [tk_Ks] at e1
      by_cases lt' : e < 4 * (Kt t 0 : Int)
      · exact old lt' (by rw [up_s]; exact ea_cg ra e0 lt')
      · rw [up_s] at ty
        exact absurd ty (C5 (e / 4).toNat (by omega) (by omega) (e % 4) (by omega) (by omega))
    · rw [tk_Kn z] at e1
      exact old e1 (by rw [up_n _ _ z])
  · have pp' : pt t j = pt t j' := pp
    have w := v.1.2.2.2.1 j j1 a
    have w' := v.1.2.2.2.1 j' j1' a'
    have e := V_e v j1 a
    have e' := V_e v j1' a'
    have nl := v.2.2.2.2.1 j j' j1 j1' a a' ne pp'
    show ¬ Lk f' g (ea (up R 0 r' (pt t j)) (t 3 j)) (ea (up R 0 r' (pt t j)) (t 3 j + 2)) (ea (up R 0 r' (pt t j)) (t 3 j')) (ea (up R 0 r' (pt t j)) (t 3 j' + 2))
    rw [← pp'] at e'
    rw [Rp j j1 a _ w.2.1.1 (by omega), Rp j j1 a _ (by omega) (by omega), Rp j j1 a _ w'.2.1.1 (by omega), Rp j j1 a _ (by omega) (by omega)]
    have n30 : ∀ j2, 1 ≤ j2 → al t j2 → rd f (ha (t 1 j2) + 35) ≤ 30 := fun j2 q2 a2 => (V_ln v q2 a2).2.2.2.1.1
    have lts : ∀ j2, 1 ≤ j2 → al t j2 → ∀ i : Nat, i < 30 → lt f' (ea (R (pt t j2)) (t 3 j2 + 2)) i = lt f (ea (R (pt t j2)) (t 3 j2 + 2)) i := fun j2 q2 a2 i hi => by
      have := la_rng (tl := ea (R (pt t j2)) (t 3 j2 + 2)) (i := (i : Int)) (by omega) (by omega)
      exact u2_cg (tlS j2 q2 a2 _ (by omega) (by omega)) (tlS j2 q2 a2 _ (by omega) (by omega))
    have h1 := (V_cl v j1 a).2.2.1
    have h2 := (V_cl v j1' a').2.2.1
    rw [← pp'] at h2
    rw [← h1, ← h2] at nl ⊢
    intro l
    refine nl ⟨by rw [← hdS j j1 a _ (by omega) (by omega), ← hdS j' j1' a' _ (by omega) (by omega)]; exact l.1, fun i hi => ?_⟩
    have i30 := n30 j j1 a
    have ll := l.2 i (by rw [hdS j j1 a _ (by omega) (by omega)]; exact hi)
    have l2 := lts j' j1' a' i (by omega)
    rw [← pp'] at l2
    rw [lts j j1 a i (by omega), l2] at ll
    exact ll
  · by_cases z : j = 0
    · rw [z, tk_Ks] at hi
      rw [z, up_s]
      exact C6' i hi
    · rw [tk_Kn z] at hi
      rw [up_n _ _ z]
      exact C6 j a z i hi
  · have r0 := (v.2.2.1 0 v.1.1.1).2.1 0 v.1.1.2.2
    rw [v.1.1.2.1] at r0
    unfold rwP at r0
    rw [if_pos rfl] at r0
    simp only [tc] at r0
    have d6 := v.2.2.2.2.2.2.2.1
    have k1 := C1 0 v.1.1.1 (Or.inl rfl) 0 v.1.1.2.2
    rw [← r0] at k1
    rw [k1 (ca root) (by omega) (by omega), k1 (ca root + 32) (by omega) (by omega)]
    exact d6
end UPR
