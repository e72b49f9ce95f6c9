/-! what there is: cluster, told, letter -/
section QUERY
variable {G : GG} {h : AH} {f g : Nat → Int} {n root mp : Int} {t R : AH}
theorem RX_Q {h h' : AH} (a : FQ h h') (X : RX f g n root h) : RX f g n root h' := by unfold RX at *; rw [a.1 35 (by decide), a.1 38 (by decide), a.2 0 (by omega), a.2 1 (by omega)]; exact X
theorem T_tailOf {P : Int → AH → Prop} {jj : Nat} (v : V f g n root mp t R) (hd : Hd f t R h) (j1 : 1 ≤ jj) (a : al t jj) (H : P (ea (R (pt t jj)) (t 3 jj + 2)) h) : RunsI G 124 [vR 11, vI (t 1 jj)] h P := by
  have w := v.1.2.2.2.1 jj j1 a
  have dp := (v.2.1 jj j1 a).1
  have e := V_e v j1 a
  have cl := V_cl v j1 a
  apply q_T_tailOf
  rw [bA_3, wI_id (z := t 1 jj % 4) (by omega) (by omega)]
  refine ⟨fun c => ?_, fun c => ?_⟩
  · apply q_T_headOf
    have eq : 768 + 32 * t 1 jj + 64 = ea (R (pt t jj)) (t 3 jj + 2) := by
      have q := cl.2.2.1
      unfold ha at q
      unfold ea at q ⊢
      rw [show (t 3 jj + 2) / 4 = t 3 jj / 4 by omega]
      omega
    rw [eq]
    exact H
  · rw [sRI_2 (by omega) (by omega), wI_id (z := t 1 jj / 4) (by omega) (by omega)]
    have cl1 := cl.1
    have nn := V_n v
    unfold clu at cl1
    refine ⟨fun z => by omega, fun _ => ⟨fun z => by omega, fun _ => ⟨by omega, ?_⟩⟩⟩
    have hh := (hd.2 (pt t jj) (t 3 jj / 4).toNat w.1 dp (by omega)).2
    rw [← cl.2.2.2.2.2, if_pos (by omega)] at hh
    rw [hh]
    apply q_S_address
    have eq : 1024 + 128 * (R (pt t jj) ((t 3 jj / 4).toNat + 1) - 2) = ea (R (pt t jj)) (t 3 jj + 2) := by
      unfold ea ca
      rw [show ((t 3 jj + 2) / 4).toNat = (t 3 jj / 4).toNat + 1 by omega]
      omega
    rw [eq]
    exact H
theorem T_cluster (hI : Inv Mo h) {x1 x2 : Int} (hx : in32 x1) (hy : in32 x2) : okI G (Inv Mo) 161 274 [vI x1, vI x2] h := by
  have c01 := hI.1.2.1.2.2.2.2.1
  have e34 := hI.1.2.1.2.2.2.1
  rcases c01 with h8 | h8
  · exact O_cluster hI h8
  obtain ⟨t, R, v, hd, X, gr, m2⟩ := Mo_get hI h8
  have hy' := hy
  unfold in32 at hy'
  apply q_V_cluster
  rw [h8]
  refine ⟨fun z => absurd z (by decide), fun _ => ?_⟩
  have ref : ∀ (b : AH) (r : Int), FQ h b → ((∀ jj, al t jj → t 1 jj ≠ x1) ∧ r = -1 ∨ ∃ jj, al t jj ∧ t 1 jj = x1 ∧ ((0 ≤ x2 ∧ x2 < Kt t jj ∧ r = R jj x2.toNat) ∨ (¬ (0 ≤ x2 ∧ x2 < Kt t jj) ∧ r = -9))) → RunsI G 274 [vR 34, vI x1, vI x2] b (fun r2 h2 => wI r = wI r2 ∧ Inv Mo h2) := by
    intro b r fq cs
    apply q_M_cluster
    rw [fq.2 3 (by omega), ← e34, h8]
    refine ⟨fun z => absurd z (by decide), fun _ => ?_⟩
    refine M_setAt v (RX_Q fq X) hx (fun b2 z k jj Z hk a e ez k2 k0 fr => ?_) (fun b2 no fr => ⟨fun _ => ?_, fun q => absurd (by decide) q⟩)
    · rw [wI_id (z := (k : Int)) (by omega) (by omega)]
      refine ⟨fun q => by omega, fun _ => ?_⟩
      have kn := V_K v a
      have nn := V_n v
      refine M_rowZ v (RX_congr fr (RX_Q fq X)) Z hk a (by rw [e, ez]) (fun b3 rm k3 o3 => ?_)
      have fq3 : FQ h b3 := (fq.tr (FQ_n fr)).tr (FQ_17 k3 o3)
      rw [rm.1, wI_id (z := x2) (by omega) (by omega), wI_id (z := (Kt t jj : Int) - 1) (by omega) (by omega)]
      have cs' : (0 ≤ x2 ∧ x2 < Kt t jj ∧ r = R jj x2.toNat) ∨ (¬ (0 ≤ x2 ∧ x2 < Kt t jj) ∧ r = -9) := by
        rcases cs with ⟨no, _⟩ | ⟨j2, a2, e2, cs⟩
        · exact absurd e (no jj a)
        · have : j2 = jj := V_inj v a2 a (e2.trans e.symm)
          subst this
          exact cs
      refine M_in (by omega) (by omega) (by omega) (fun i0 i1 => ⟨fun q => absurd q (by decide), fun _ => ⟨by omega, ?_, Inv_Q hI fq3⟩⟩) (fun no => ⟨fun _ => ⟨?_, Inv_Q hI fq3⟩, fun q => absurd wI_0 q⟩)
      · rw [rm.2.2 _ (by omega)]
        rcases cs' with ⟨_, _, q⟩ | ⟨q, _⟩
        · rw [q]
        · omega
      · rcases cs' with ⟨q1, q2, _⟩ | ⟨_, q⟩
        · omega
        · rw [q]
    · refine ⟨?_, Inv_Q hI (fq.tr (FQ_n fr))⟩
      rcases cs with ⟨_, q⟩ | ⟨j2, a2, e2, _⟩
      · rw [q]
      · exact absurd e2 (no j2 a2)
  refine T_isPlace v rfl rfl hd hx (fun jj a e => ⟨fun z => absurd z (by decide), fun _ => ?_⟩) (fun no => ⟨fun _ => ref h (-1) (FQ.rf h) (Or.inl ⟨no, rfl⟩), fun z => absurd wI_0 z⟩)
  have kn := V_K v a
  have nn := V_n v
  apply q_T_clusterOf
  rw [← e]
  refine T_openV_15 v rfl rfl rfl a (fun b ro fr => ?_)
  rw [ro.1, wI_id (z := x2) (by omega) (by omega), wI_id (z := (Kt t jj : Int)) (by omega) (by omega), e]
  refine ⟨fun z => ref b (-9) (FQ_15 fr) (Or.inr ⟨jj, a, e, Or.inr ⟨by omega, rfl⟩⟩), fun z => ⟨fun y => ref b (-9) (FQ_15 fr) (Or.inr ⟨jj, a, e, Or.inr ⟨by omega, rfl⟩⟩), fun y => ?_⟩⟩
  refine C_at_15 ro (by omega) (by omega) (ref b _ (FQ_15 fr) (Or.inr ⟨jj, a, e, Or.inl ⟨by omega, by omega, rfl⟩⟩))
theorem T_letter (hI : Inv Mo h) {x1 x2 : Int} (hx : in32 x1) (hy : in32 x2) : okI G (Inv Mo) 160 273 [vI x1, vI x2] h := by
  have c01 := hI.1.2.1.2.2.2.2.1
  have e34 := hI.1.2.1.2.2.2.1
  rcases c01 with h8 | h8
  · exact O_letter hI h8
  obtain ⟨t, R, v, hd, X, gr, m2⟩ := Mo_get hI h8
  have hy' := hy
  unfold in32 at hy'
  have nn := V_n v
  apply q_V_letter
  rw [h8]
  refine ⟨fun z => absurd z (by decide), fun _ => ?_⟩
  have ref : ∀ r : Int, ((∀ jj, 1 ≤ jj → al t jj → t 1 jj ≠ x1) ∧ r = -1 ∨ ∃ jj, 1 ≤ jj ∧ al t jj ∧ t 1 jj = x1 ∧ ((0 ≤ x2 ∧ x2 < rd (h 3) (ha x1 + 35) ∧ r = lt (h 3) (ea (R (pt t jj)) (t 3 jj + 2)) x2.toNat) ∨ (¬ (0 ≤ x2 ∧ x2 < rd (h 3) (ha x1 + 35)) ∧ r = -1))) → RunsI G 273 [vR 34, vI x1, vI x2] h (fun r2 h2 => wI r = wI r2 ∧ Inv Mo h2) := by
    intro r cs
    apply q_M_letter
    rw [← e34, h8]
    refine ⟨fun z => absurd z (by decide), fun _ => ?_⟩
    refine M_setAt v X hx (fun b2 z k jj Z hk a e ez k2 k0 fr => ?_) (fun b2 no fr => ⟨fun _ => ?_, fun q => absurd (by decide) q⟩)
    · rw [wI_id (z := (k : Int)) (by omega) (by omega), show (k : Int).toNat = k by omega]
      refine ⟨fun q => by omega, fun _ => ⟨fun q => ⟨?_, Inv_Q hI (FQ_n fr)⟩, fun q => ⟨by omega, ?_⟩⟩⟩
      · rcases cs with ⟨_, y⟩ | ⟨j2, j21, a2, e2, _⟩
        · rw [y]
        · have : j2 = jj := V_inj v a2 a (e2.trans e.symm)
          omega
      · obtain ⟨kp, p42, pk, pp, p43, p44, p46, p47, p48, p49, j1⟩ := ZR_par v Z hk a (by rw [e, ez]) (by omega)
        have w := v.1.2.2.2.1 jj j1 a
        have ee := V_e v j1 a
        have kn := V_K v w.1
        rw [p42]
        refine M_rowZ v (RX_congr fr X) Z pk w.1 pp (fun b3 rm k3 o3 => ⟨by omega, ?_⟩)
        have fq3 : FQ h b3 := (FQ_n fr).tr (FQ_17 k3 o3)
        have X3 := RX_Q fq3 X
        rw [o3 43 (by decide) (by decide), p43]
        have ok := (v.2.1 jj j1 a).2
        unfold VS at ok
        have sok : SetOK (h 3) (b3 38) (b3 34 0) (ea (b3 39) (t 3 jj)) (ea (b3 39) (t 3 jj + 2)) (4 * b3 34 17 - t 3 jj) := by
          rw [X3.2.2.1, rm.1]
          exact (SetOK_row rm.2.2 w.2.1.1 (by omega)).mpr (SetOK_g X3.2.2.2.2.1.sm ok)
        have ea0 : ea (b3 39) (t 3 jj) = ha (t 1 jj) := by rw [(V_cl v j1 a).2.2.1]; exact ea_cg rm.2.2 w.2.1.1 (by omega)
        have ea2 : ea (b3 39) (t 3 jj + 2) = ea (R (pt t jj)) (t 3 jj + 2) := ea_cg rm.2.2 (by omega) (by omega)
        refine M_isSet (f := h 3) X3.1 X3.2.1 (by rw [X3.2.2.1]; exact nn) w.2.1.1 (by rw [rm.1]; omega) (by rw [rm.1]; omega) (fun i hi => ?_) X3.2.2.2.2.2 (fun b4 _ _ rs fz => ?_) (fun b4 no fz => absurd ⟨w.2.1.2, sok⟩ no)
        · rw [rm.1] at hi
          rw [rm.2.2 i (by omega)]
          have := (v.1.2.1 _ w.1 i (by omega)).1
          unfold clu at this
          omega
        · rw [ea0, ea2, e] at rs
          have n30 := (V_ln v j1 a).2.2.2.1.1
          have n1 := (V_ln v j1 a).2.2.2.1.2.2.1.1
          rw [e] at n30 n1
          rw [rs.2.1, wI_id (z := x2) (by omega) (by omega), wI_id (z := rd (h 3) (ha x1 + 35) - 1) (by omega) (by omega)]
          have fq4 : FQ h b4 := fq3.tr (FQ_z fz)
          have cs' : (0 ≤ x2 ∧ x2 < rd (h 3) (ha x1 + 35) ∧ r = lt (h 3) (ea (R (pt t jj)) (t 3 jj + 2)) x2.toNat) ∨ (¬ (0 ≤ x2 ∧ x2 < rd (h 3) (ha x1 + 35)) ∧ r = -1) := by
            rcases cs with ⟨no, _⟩ | ⟨j2, _, a2, e2, cs⟩
            · exact absurd e (no jj j1 a)
            · have : j2 = jj := V_inj v a2 a (e2.trans e.symm)
              subst this
              exact cs
          refine M_in (by omega) (by omega) (by omega) (fun i0 i1 => ⟨fun q => absurd q (by decide), fun _ => ⟨by omega, ?_, Inv_Q hI fq4⟩⟩) (fun no => ⟨fun _ => ⟨?_, Inv_Q hI fq4⟩, fun q => absurd wI_0 q⟩)
          · rw [rs.2.2.2.2.2.2 _ (by omega)]
            rcases cs' with ⟨_, _, q⟩ | ⟨q, _⟩
            · rw [q]
            · omega
          · rcases cs' with ⟨q1, q2, _⟩ | ⟨_, q⟩
            · omega
            · rw [q]
    · refine ⟨?_, Inv_Q hI (FQ_n fr)⟩
      rcases cs with ⟨_, q⟩ | ⟨j2, _, a2, e2, _⟩
      · rw [q]
      · exact absurd e2 (no j2 a2)
  refine T_isEntry v rfl rfl hd hx (fun jj j1 a e => ⟨fun z => absurd z (by decide), fun _ => ?_⟩) (fun no => ⟨fun _ => ref (-1) (Or.inl ⟨no, rfl⟩), fun z => absurd wI_0 z⟩)
  have w := V_at v j1 a
  rw [e] at w
  have by' := (V_by v).rd (show 0 ≤ ha x1 + 35 by omega) (show ha x1 + 35 < 13824 by omega)
  have n30 := (V_ln v j1 a).2.2.2.1.1
  rw [e] at n30
  rw [wI_id (z := x2) (by omega) (by omega)]
  refine ⟨fun z => ref (-1) (Or.inr ⟨jj, j1, a, e, Or.inr ⟨by omega, rfl⟩⟩), fun z => ?_⟩
  apply q_T_headOf
  show RunsI G 86 [vR 10, vI (ha x1)] h _
  apply q_E_nameSize
  refine D_get (by omega) (by omega) ?_
  rw [wI_id (z := rd (h 3) (ha x1 + 35)) (by omega) (by omega)]
  refine ⟨fun y => ?_, fun y => ref (-1) (Or.inr ⟨jj, j1, a, e, Or.inr ⟨by omega, rfl⟩⟩)⟩
  rw [← e]
  refine T_tailOf v hd j1 a ?_
  have wp := v.1.2.2.2.1 jj j1 a
  have ee := V_e v j1 a
  have c2 := (v.1.2.1 _ wp.1 ((t 3 jj + 2) / 4).toNat (by omega)).1
  unfold clu at c2
  have r2 : 1024 ≤ ea (R (pt t jj)) (t 3 jj + 2) ∧ ea (R (pt t jj)) (t 3 jj + 2) + 64 ≤ 13824 := by
    have w2 := wp.2.1.2
    unfold ea ca
    omega
  have la' := E_letterAt (G := G) (P := fun r5 h5 => RunsI G 273 [vR 34, vI (t 1 jj), vI x2] h5 (fun r2 h2 => wI r5 = wI r2 ∧ Inv Mo h2)) (h := h) (tl := ea (R (pt t jj)) (t 3 jj + 2)) (i := x2.toNat) (V_by v) (by omega) (by omega) (by omega)
  rw [show ((x2.toNat : Nat) : Int) = x2 by omega] at la'
  refine la' ?_
  rw [e]
  exact ref _ (Or.inr ⟨jj, j1, a, e, Or.inl ⟨by omega, by omega, rfl⟩⟩)
end QUERY
