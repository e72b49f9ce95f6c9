/-! bar: both -/
theorem wI_bO (x y : Int) : wI (bO x y) = bO x y := by
  have : -2147483648 ≤ bO x y ∧ bO x y < 2147483648 := by
    unfold bO
    have := Int32.toInt_lt (Int32.ofInt x ||| Int32.ofInt y)
    have := Int32.le_toInt (Int32.ofInt x ||| Int32.ofInt y)
    omega
  exact wI_id this.1 this.2
section BAR2
variable {f f' g : Nat → Int} {n root mp : Int} {t R : AH}
theorem V_low (v : V f g n root mp t R) (by' : By f') (e : ∀ x : Int, 512 ≤ x → x < 13824 → rd f' x = rd f x) : V f' g n root mp t R := by
  have nn := V_n v
  have hdS : ∀ j, 1 ≤ j → al t j → ∀ x, ha (t 1 j) ≤ x → x < ha (t 1 j) + 64 → rd f' x = rd f x := fun j j1 a x x0 x1 => by
    have cl := V_cl v j1 a
    have ra := ha_rng cl.1 nn.2
    have rb := ha_rng2 cl.1 nn.2 cl.2.1
    exact e x (by omega) (by omega)
  have tlS : ∀ j, 1 ≤ j → al t j → ∀ x, ea (R (pt t j)) (t 3 j + 2) ≤ x → x < ea (R (pt t j)) (t 3 j + 2) + 64 → rd f' x = rd f x := fun j j1 a x x0 x1 => by
    have tl := V_tl v j1 a
    have c := (v.1.2.1 _ (v.1.2.2.2.1 j j1 a).1 _ tl.2.2.1).1
    unfold clu at c
    unfold ca at tl
    exact e x (by omega) (by omega)
  have dS : ∀ j, al t j → (dirT f' t j ↔ dirT f t j) := fun j a => by
    unfold dirT
    by_cases z0 : j = 0
    · exact ⟨fun _ => Or.inl z0, fun _ => Or.inl z0⟩
    · have e2 : u2 f' (ha (t 1 j) + 4) = u2 f (ha (t 1 j) + 4) := u2_cg (hdS j (by omega) a _ (by omega) (by omega)) (hdS j (by omega) a _ (by omega) (by omega))
      unfold isD
      rw [e2]
  have tbS : ∀ c, clu n c → tb f' mp c = tb f mp c := fun c hc => by
    have m := V_mp v
    unfold clu at hc m
    unfold tb
    rw [e _ (by unfold ca; omega) (by unfold ca; omega)]
  refine ⟨v.1, fun j j1 a => ⟨(dS _ (v.1.2.2.2.1 j j1 a).1).mpr (v.2.1 j j1 a).1, ?_⟩, fun j a => ?_, fun j a d q q0 q1 ty => ?_, fun j j' j1 j1' a a' ne pp => ?_, fun j a i hi => by rw [tbS _ (v.1.2.1 j a i hi).1]; exact v.2.2.2.2.2.1 j a i hi, by rw [tbS _ (V_mp v)]; exact v.2.2.2.2.2.2.1, ?_, by', nn, V_mp v⟩
  · have s := (v.2.1 j j1 a).2
    unfold VS at s ⊢
    refine SetOK_congr (fun x p r => (hdS j j1 a x ?_ ?_).symm) (fun x p r => (tlS j j1 a x p r).symm) s
    · rw [(V_cl v j1 a).2.2.1]; exact p
    · rw [(V_cl v j1 a).2.2.1]; exact r
  · obtain ⟨r1, r2, r3⟩ := v.2.2.1 j a
    have fS : ∀ i, i < Kt t j → ft f' (rwP f root (t 1 j) i) = ft f (rwP f root (t 1 j) i) := fun i hi => by
      rw [r2 i hi]
      have c := (v.1.2.1 j a i hi).1
      unfold clu at c
      exact u4_cg (fun x _ _ => e _ (by omega) (by omega))
    unfold VR
    by_cases z0 : j = 0
    · have e0 : t 1 j = 0 := by rw [z0]; exact v.1.1.2.1
      rw [e0] at r1 r2 r3 fS ⊢
      rw [rwP_0] at r2 r3 fS
      rw [rkP_0] at r1
      rw [rwP_0, rkP_0]
      have ts : ∀ i, i ≤ Kt t j → tc f' 0 root i = tc f 0 root i := tc_sm (fun i hi => Or.inr (fS i hi))
      exact ⟨r1, fun i hi => by rw [ts i (by omega)]; exact r2 i hi, fun b kp => by rw [ts _ (Nat.le_refl _)]; exact r3 (Or.inl z0) kp⟩
    · have cl := V_cl v (j := j) (by omega) a
      have p0 : t 1 j ≠ 0 := (by omega)
      have e56 : u4 f' (ha (t 1 j) + 56) = u4 f (ha (t 1 j) + 56) := u4_cg (fun x _ _ => hdS j (by omega) a _ (by omega) (by omega))
      have e52 : u4 f' (ha (t 1 j) + 52) = u4 f (ha (t 1 j) + 52) := u4_cg (fun x _ _ => hdS j (by omega) a _ (by omega) (by omega))
      have eb : bR f' (t 1 j) = bR f (t 1 j) := by unfold bR; rw [hdS j (by omega) a _ (by omega) (by omega)]
      rw [rwP_n f root p0] at r2 r3 fS
      rw [rkP_n f _ p0] at r1
      rw [rwP_n f' root p0, rkP_n f' _ p0, e56, e52, eb]
      have ts : ∀ i, i ≤ Kt t j → tc f' (bR f (t 1 j)) (u4 f (ha (t 1 j) + 52)) i = tc f (bR f (t 1 j)) (u4 f (ha (t 1 j) + 52)) i := tc_sm (fun i hi => Or.inr (fS i hi))
      exact ⟨r1, fun i hi => by rw [ts i (by omega)]; exact r2 i hi, fun b kp => by rw [ts _ (Nat.le_refl _)]; exact r3 b kp⟩
  · rw [dS j a] at d
    have c := (v.1.2.1 j a (q / 4).toNat (by omega)).1
    unfold clu at c
    have er := ea_rng (r := R j) (e := q) q0 (by omega)
    rw [e _ (by omega) (by omega)] at ty
    exact v.2.2.2.1 j a d q q0 q1 ty
  · have nl := v.2.2.2.2.1 j j' j1 j1' a a' ne pp
    have h1 := (V_cl v j1 a).2.2.1
    have h2 := (V_cl v j1' a').2.2.1
    rw [← pp] at h2
    rw [← h1, ← h2] at nl ⊢
    intro l
    refine nl ⟨by rw [← hdS j j1 a _ (by omega) (by omega), ← hdS j' j1' a' _ (by omega) (by omega)]; exact l.1, fun i hi => ?_⟩
    have i30 := (V_ln v j1 a).2.2.2.1.1
    have ll := l.2 i (by rw [hdS j j1 a _ (by omega) (by omega)]; exact hi)
    have lts : ∀ j2, 1 ≤ j2 → al t j2 → lt f' (ea (R (pt t j2)) (t 3 j2 + 2)) i = lt f (ea (R (pt t j2)) (t 3 j2 + 2)) i := fun j2 q2 a2 => by
      have := la_rng (tl := ea (R (pt t j2)) (t 3 j2 + 2)) (i := (i : Int)) (by omega) (by omega)
      exact u2_cg (tlS j2 q2 a2 _ (by omega) (by omega)) (tlS j2 q2 a2 _ (by omega) (by omega))
    have l2 := lts j' j1' a'
    rw [← pp] at l2
    rw [lts j j1 a, l2] at ll
    exact ll
  · have r0 := (v.2.2.1 0 v.1.1.1).2.1 0 v.1.1.2.2
    rw [v.1.1.2.1, rwP_0] at r0
    simp only [tc] at r0
    have c := (v.1.2.1 0 v.1.1.1 0 v.1.1.2.2).1
    unfold clu at c
    rw [e _ (by unfold ca; omega) (by unfold ca; omega), e _ (by unfold ca; omega) (by unfold ca; omega)]
    exact v.2.2.2.2.2.2.2.1
theorem so1_hi (f : Nat → Int) {x : Int} (h : 512 ≤ x) : rd (so1 f) x = rd f x := by unfold so1; exact rd_wb_ne (by omega) (by omega) (by omega)
theorem V_so1 (v : V f g n root mp t R) : V (so1 f) g n root mp t R := V_low v (By_wb (V_by v)) (fun x p _ => so1_hi f p)
section
variable {G : GG} {h : AH}
theorem M_rowW {Q : AH → Prop} {w : Nat → Int} {k jj : Nat} (vw : V w g n root mp t R) (hE : E (ub (h 35)) w) (h1 : h 34 1 = root) (a : al t jj) (k0 : k = 0 ↔ jj = 0) (k2 : k < 200) (arr : 1 ≤ k → h 46 k = bR w (t 1 jj) ∧ h 47 k = u4 w (ha (t 1 jj) + 56) ∧ h 48 k = u4 w (ha (t 1 jj) + 52)) (H : ∀ h', Rm h' (Kt t jj) (R jj) → (∀ k, k ≠ 17 → h' 34 k = h 34 k) → (∀ o, o ≠ 34 → o ≠ 39 → h' o = h o) → Q h') : RunsV G 210 [vR 34, vI (k : Int)] h Q := by
  have nn := V_n vw
  have kn := V_K vw a
  have hf := V_by vw
  obtain ⟨r1, r2, r3⟩ := vw.2.2.1 jj a
  have rr : ∀ i, i < Kt t jj → 2 ≤ R jj i ∧ R jj i ≤ 101 := fun i hi => by
    have := (vw.1.2.1 jj a i hi).1
    unfold clu at this
    omega
  by_cases z : k = 0
  · have j0 := k0.mp z
    subst z j0
    rw [vw.1.1.2.1, rwP_0] at r2 r3
    have K1 := vw.1.1.2.2
    have c0 := rr 0 (by omega)
    rw [← r2 0 (by omega)] at c0
    simp only [tc] at c0
    apply q_M_rowOfSet
    refine ⟨fun _ => ?_, fun c => absurd wI_0 c⟩
    refine M_rowOfRoot (K := Kt t 0) (f := w) hE (by omega) (fun i hi => by rw [h1, r2 i hi]; exact rr i hi) (by rw [h1]; exact r3 (Or.inl rfl) K1) (by rw [h1]; omega) (fun h' rm p q => H h' ⟨rm.1, rm.2.1, fun i hi => ?_⟩ p q)
    rw [rm.2.2 i hi, h1]
    exact r2 i hi
  · have j1 : 1 ≤ jj := (by omega)
    have cl := V_cl vw j1 a
    have wa := V_at vw j1 a
    have p0 : t 1 jj ≠ 0 := (by omega)
    obtain ⟨q1, q2, q3⟩ := arr (by omega)
    have ln := (V_ln vw j1 a).2.2.1
    have u5 := u4_rng hf (show 0 ≤ ha (t 1 jj) + 56 by omega) (show ha (t 1 jj) + 56 + 3 < 13824 by omega)
    have c52 : 0 ≤ u4 w (ha (t 1 jj) + 52) ∧ u4 w (ha (t 1 jj) + 52) ≤ 101 := by
      by_cases y : u4 w (ha (t 1 jj) + 56) = 0
      · rw [(ln.2.2.2.2.2.1 y).1]; omega
      · have := ln.2.2.2.2.2.2 y
        omega
    rw [rwP_n w root p0] at r2
    rw [rkP_n w _ p0] at r1
    refine M_rowOfSet (f := w) (K := Kt t jj) hE (by omega) ⟨u5.1, by have := ln.1; omega⟩ r1.symm q2 q3 q1 ?_ c52 (fun i hi => by rw [r2 i hi]; exact rr i hi) (fun h' rm p q => H h' ⟨rm.1, rm.2.1, fun i hi => ?_⟩ p q)
    · unfold bR
      split
      · exact Or.inr rfl
      · exact Or.inl rfl
    · rw [rm.2.2 i hi]; exact r2 i hi
end
/-- what bar makes of the disk -/
noncomputable def ba2 (w : Nat → Int) (hd tl A : Int) : Nat → Int := sl (wb w (hd + 4) 2 A) hd tl
theorem ba2_ne {w : Nat → Int} {hd tl A x : Int} (h0 : 0 ≤ hd) (x0 : 0 ≤ x) (h : x < hd + 2 ∨ hd + 6 ≤ x) : rd (ba2 w hd tl A) x = rd w x := by
  unfold ba2 sl
  rw [rd_wb_ne (by omega) x0 (by omega)]
  exact rd_wb_ne (by omega) x0 (by omega)
theorem V_ba2 (v : V f g n root mp t R) {jj : Nat} (q1 : 1 ≤ jj) (q : al t jj) {A : Int} (at' : At A) (d' : 16 ≤ A ↔ 16 ≤ u2 f (ha (t 1 jj) + 4)) : V (ba2 f (ha (t 1 jj)) (ea (R (pt t jj)) (t 3 jj + 2)) A) g n root mp (tk t jj (Kt t jj)) (up R jj (R jj)) := by
  have nn := V_n v
  have wa := V_at v q1 q
  have cl := V_cl v q1 q
  have hd := V_hd v q1 q
  have tl := V_tl v q1 q
  have ht := V_ht v q1 q q1 q
  have ok := V_ln v q1 q
  have s3 := SetOK_3 ok
  have ra := ha_rng cl.1 nn.2
  have wp := v.1.2.2.2.1 jj q1 q
  have ct := (v.1.2.1 _ wp.1 _ tl.2.2.1).1
  unfold clu at ct
  have tr : 1024 ≤ ea (R (pt t jj)) (t 3 jj + 2) := by unfold ca at tl; omega
  have ne : ∀ x, 0 ≤ x → (x < ha (t 1 jj) + 2 ∨ ha (t 1 jj) + 6 ≤ x) → rd (ba2 f (ha (t 1 jj)) (ea (R (pt t jj)) (t 3 jj + 2)) A) x = rd f x := fun x x0 h => ba2_ne wa.1 x0 h
  have e4 : u2 (ba2 f (ha (t 1 jj)) (ea (R (pt t jj)) (t 3 jj + 2)) A) (ha (t 1 jj) + 4) = A := by
    unfold ba2 sl
    rw [u2_wb_ne (by omega) (by omega) (by omega), u2_wb (by omega)]
    rcases at' with z | z | z | z <;> rw [z] <;> decide
  have e56 : u4 (ba2 f (ha (t 1 jj)) (ea (R (pt t jj)) (t 3 jj + 2)) A) (ha (t 1 jj) + 56) = u4 f (ha (t 1 jj) + 56) := u4_cg (fun j _ _ => ne _ (by omega) (by omega))
  have e52 : u4 (ba2 f (ha (t 1 jj)) (ea (R (pt t jj)) (t 3 jj + 2)) A) (ha (t 1 jj) + 52) = u4 f (ha (t 1 jj) + 52) := u4_cg (fun j _ _ => ne _ (by omega) (by omega))
  have e40 : u4 (ba2 f (ha (t 1 jj)) (ea (R (pt t jj)) (t 3 jj + 2)) A) (ha (t 1 jj) + 40) = u4 f (ha (t 1 jj) + 40) := u4_cg (fun j _ _ => ne _ (by omega) (by omega))
  have e44 : u4 (ba2 f (ha (t 1 jj)) (ea (R (pt t jj)) (t 3 jj + 2)) A) (ha (t 1 jj) + 44) = u4 f (ha (t 1 jj) + 44) := u4_cg (fun j _ _ => ne _ (by omega) (by omega))
  have e60 : u4 (ba2 f (ha (t 1 jj)) (ea (R (pt t jj)) (t 3 jj + 2)) A) (ha (t 1 jj) + 60) = u4 f (ha (t 1 jj) + 60) := u4_cg (fun j _ _ => ne _ (by omega) (by omega))
  have dd : isD (ba2 f (ha (t 1 jj)) (ea (R (pt t jj)) (t 3 jj + 2)) A) (ha (t 1 jj)) ↔ isD f (ha (t 1 jj)) := by unfold isD; rw [e4]; exact d'
  have rr : isR (ba2 f (ha (t 1 jj)) (ea (R (pt t jj)) (t 3 jj + 2)) A) (ha (t 1 jj)) ↔ isR f (ha (t 1 jj)) := by unfold isR; rw [ne _ (by omega) (by omega)]
  have by' : By (ba2 f (ha (t 1 jj)) (ea (R (pt t jj)) (t 3 jj + 2)) A) := by unfold ba2 sl; exact By_wb (By_wb (V_by v))
  have ftS : ∀ c, clu n c → ft (ba2 f (ha (t 1 jj)) (ea (R (pt t jj)) (t 3 jj + 2)) A) c = ft f c := fun c hc => by
    unfold clu at hc
    exact u4_cg (fun j _ _ => ne _ (by omega) (by omega))
  have tbS : ∀ c, clu n c → tb (ba2 f (ha (t 1 jj)) (ea (R (pt t jj)) (t 3 jj + 2)) A) mp c = tb f mp c := fun c hc => by
    have m := V_mp v
    have nm := (v.1.2.1 _ wp.1 _ hd.2.2.1).2
    unfold clu at hc m
    unfold ca at hd
    unfold tb
    rw [ne _ (by unfold ca; omega) (by unfold ca; omega)]
  have ln : LnOK (ba2 f (ha (t 1 jj)) (ea (R (pt t jj)) (t 3 jj + 2)) A) n (ha (t 1 jj)) := by
    obtain ⟨r1, r2, r3, r4, r5, r6, r7⟩ := ok.2.2.1
    unfold LnOK
    rw [e56, e52, e40, e44, e60]
    exact ⟨r1, r2, r3, r4, fun z => r5 (dd.mp z), fun z => ⟨(r6 z).1, fun y => (r6 z).2 (rr.mp y)⟩, r7⟩
  obtain ⟨r1, r2, r3⟩ := v.2.2.1 jj q
  have p0 : t 1 jj ≠ 0 := (by omega)
  rw [rwP_n f root p0] at r2 r3
  rw [rkP_n f _ p0] at r1
  have eb : bR (ba2 f (ha (t 1 jj)) (ea (R (pt t jj)) (t 3 jj + 2)) A) (t 1 jj) = bR f (t 1 jj) := by unfold bR; rw [ne _ (by omega) (by omega)]
  have ts : ∀ i, i ≤ Kt t jj → tc (ba2 f (ha (t 1 jj)) (ea (R (pt t jj)) (t 3 jj + 2)) A) (bR f (t 1 jj)) (u4 f (ha (t 1 jj) + 52)) i = tc f (bR f (t 1 jj)) (u4 f (ha (t 1 jj) + 52)) i := tc_sm (fun i hi => Or.inr (by
    rw [r2 i hi]
    exact ftS _ (v.1.2.1 jj q i hi).1))
  refine V_up v q1 q by' (fun j a d i hi x x0 x1 no => ?_) (fun j a _ i hi => ftS _ (v.1.2.1 j a i hi).1) ?_ (ne _ (by omega) (by omega)) dd (fun i hi => v.1.2.1 jj q i hi) (fun i i' a b z => ?_) (fun j a nj i i' hi hi' z => nj (v.1.2.2.1 j jj i i' a q hi hi' z).1) ⟨?_, ?_, ?_⟩ (fun _ => ⟨Nat.le_refl _, fun _ _ => rfl, fun i a b => by omega⟩) (fun j a _ i hi => by rw [tbS _ (v.1.2.1 j a i hi).1]; exact v.2.2.2.2.2.1 j a i hi) (fun i hi => by rw [tbS _ (v.1.2.1 jj q i hi).1]; exact v.2.2.2.2.2.1 jj q i hi) (by rw [tbS _ (V_mp v)]; exact v.2.2.2.2.2.2.1)
  · have c := (v.1.2.1 j a i hi).1
    unfold clu at c
    exact ne x (by unfold ca at x0; omega) (by omega)
  · refine SetOK_re ok (fun x x0 x1 no => ne _ (by omega) (by omega)) (fun x x0 x1 => ne x (by omega) (by omega)) (by rw [e4]; exact at') (by rw [ne _ (by omega) (by omega)]; exact ok.2.1.2.1) ln ?_
    unfold ba2
    refine SmOK_sl wa.1 (by omega) (by omega) ?_
    rw [rd_wb_ne (by omega) (by omega) (by omega)]
    omega
  · have := (v.1.2.2.1 jj jj i i' q q (by omega) b z).2
    omega
  · rw [rkP_n _ _ p0, e56]; exact r1
  · intro i hi
    rw [rwP_n _ root p0, eb, e52, ts i (by omega)]
    exact r2 i hi
  · intro b kp
    rw [eb] at b
    rw [rwP_n _ root p0, eb, e52, ts _ (Nat.le_refl _)]
    exact r3 (Or.inr b) kp
end BAR2
