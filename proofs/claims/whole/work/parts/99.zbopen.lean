/-! where a SET goes: the class makes room -/
section OPENR
variable {f g w r s : Nat → Int} {n root mp X m : Int} {t R : AH} {G : GG} {h : AH}
theorem V_len (v : V f g n root mp t R) {jd : Nat} (j1 : 1 ≤ jd) (a : al t jd) (dd : dirT f t jd) : u4 f (ha (t 1 jd) + 56) = 128 * (Kt t jd : Int) := by
  have ok := V_ln v j1 a
  have l := ok.2.2.1.2.2.2.2.1 (dd.resolve_left (by omega))
  have r1 := (v.2.2.1 jd a).1
  rw [rkP_n f _ (by have := V_cl v j1 a; omega)] at r1
  have wa := V_at v j1 a
  have u5 := u4_rng (V_by v) (show 0 ≤ ha (t 1 jd) + 56 by omega) (show ha (t 1 jd) + 56 + 3 < 13824 by omega)
  have l2 := l.2
  omega
theorem A_growDir {P : AH → Prop} {jd K k : Nat} {run : Int} (v : V f g n root mp t R) (hd : Hd f t R h) (dk : Dk h) (h3 : h 3 = w) (ro : Ro h 28 29 K r) (rf : Ro h 30 31 k s) (e5 : h 27 5 = run) (r01 : run = 0 ∨ run = 1) (j1 : 1 ≤ jd) (a : al t jd) (dd : dirT f t jd) (eK : K = Kt t jd) (pos : 0 < K) (sm : ∀ x, ha (t 1 jd) ≤ x → x < ha (t 1 jd) + 64 → rd w x = rd f x) (H : ∀ h', Upd h h' (rly w (ha (t 1 jd)) (ea (R (pt t jd)) (t 3 jd + 2)) run (app r K s 0) (128 * ((K + k : Nat) : Int)) (h 26 5)) → P h') : RunsV G 5 [vR 26, vI (t 1 jd)] h P := by
  have wa := V_at v j1 a
  have rg := V_rng v j1 a
  have s3 := SetOK_3 (V_ln v j1 a)
  have vl := V_len v j1 a dd
  have kn := V_K v a
  have nn := V_n v
  have k1 := ro.2.1
  have k2 := rf.2.1
  apply q_A_growDirectory
  apply q_T_headOf
  refine G_atA ro rf (by omega) (by omega) ?_
  show RunsI G 88 [vR 10, vI (ha (t 1 jd))] h _
  apply q_E_length
  refine D_get4 dk.2.1 (by omega) (by omega) ?_
  have e56 : u4 (h 3) (ha (t 1 jd) + 56) = 128 * (K : Int) := by rw [h3, u4_cg (fun j _ _ => sm _ (by omega) (by omega)), vl, eK]
  rw [e56, rf.1, e5, wI_id (z := 128 * (K : Int)) (by omega) (by omega), show 128 * (K : Int) + 128 * (k : Int) = 128 * ((K + k : Nat) : Int) by omega]
  show RunsV G 104 [vR 10, vI (ha (t 1 jd)), vI run, vI (app r K s 0), vI (128 * ((K + k : Nat) : Int))] h _
  refine E_setStream dk wa.1 wa.2.1 r01 (fun b1 u1 => ?_)
  show RunsV G 103 [vR 10, vI (ha (t 1 jd)), vI (b1 26 5)] b1 _
  apply q_E_setChanged
  rw [u1.2.2 26 (by decide) (by decide)]
  refine D_wb4 u1.1 (by omega) (by omega) (fun b2 u2 => ?_)
  rw [u1.2.1, h3] at u2
  have hd2 : Hd f t R b2 := by
    unfold Hd at hd ⊢
    rw [u2.2.2 12 (by decide) (by decide), u2.2.2 13 (by decide) (by decide), u1.2.2 12 (by decide) (by decide), u1.2.2 13 (by decide) (by decide)]
    exact hd
  refine T_tailOf v hd2 j1 a ?_
  have e1 : rd (b2 3) (ha (t 1 jd) + 1) = rd f (ha (t 1 jd) + 1) := by
    rw [u2.2.1, rd_wb_ne (by omega) (by omega) (by omega)]
    unfold sst
    rw [rd_wb_ne (by omega) (by omega) (by omega), rd_wb_ne (by omega) (by omega) (by omega), rd_wb_ne (by omega) (by omega) (by omega), rd_wb_ne (by omega) (by omega) (by omega)]
    exact sm _ (by omega) (by omega)
  show RunsV G 106 [vR 10, vI (ha (t 1 jd)), vI (ea (R (pt t jd)) (t 3 jd + 2))] b2 _
  refine E_seal u2.1 wa.1 wa.2.1 (by rw [e1]; omega) (by omega) (by omega) (fun b3 u3 => ?_)
  rw [u2.2.1] at u3
  exact H b3 ((u1.trans u2).trans u3)
/-- what lies in the row, once there is room -/
theorem d4_row (v : V f g n root mp t R) {jd k : Nat} (a : al t jd) (dd : dirT f t jd) (kc : 0 < k → k ≤ cf f mp n X n.toNat) (px : PX f mp n X) (tm : Int) : (∀ j, al t j → dirT f t j → ∀ i, i < Kt t j → ∀ x, ca (R j i) ≤ x → x < ca (R j i) + 128 → ¬ (jd ≠ 0 ∧ ha (t 1 jd) ≤ x ∧ x < ha (t 1 jd) + 64) → rd (d4 f n mp X t R jd k tm) x = rd f x) ∧ (∀ q : Int, 0 ≤ q → q < 4 * (Kt t jd : Int) → rd (d4 f n mp X t R jd k tm) (ea (dRo f n mp X t R jd k) q) = rd f (ea (R jd) q)) ∧ (∀ q : Int, 4 * (Kt t jd : Int) ≤ q → q < 4 * ((Kt t jd + k : Nat) : Int) → rd (d4 f n mp X t R jd k tm) (ea (dRo f n mp X t R jd k) q) = 0) ∧ (∀ i, i < Kt t jd + k → (2 ≤ dRo f n mp X t R jd k i ∧ dRo f n mp X t R jd k i ≤ 101)) := by
  have nn := V_n v
  obtain ⟨o1, o2⟩ := dSq_ok (t := t) (R := R) (jd := jd) kc
  have d4n : ∀ x, 0 ≤ x → ¬ (jd ≠ 0 ∧ ha (t 1 jd) ≤ x ∧ x < ha (t 1 jd) + 64) → rd (d4 f n mp X t R jd k tm) x = rd (d3 f n mp X t R jd k) x := fun x x0 no => by
    unfold d4
    split
    · rfl
    · rename_i c
      have j1 : 1 ≤ jd := (by omega)
      have rg := V_rng v j1 a
      exact rly_ne (by omega) x0 (by omega)
  have rng : ∀ i, i < Kt t jd + k → (2 ≤ dRo f n mp X t R jd k i ∧ dRo f n mp X t R jd k i ≤ 101) := fun i hi => by
    unfold dRo app
    split
    · exact V_rr v a i (by assumption)
    · have := (o1 (i - Kt t jd) (by omega)).1
      unfold clu at this
      omega
  have far : ∀ (i : Nat) (x : Int), i < Kt t jd → ca (R jd i) ≤ x → x < ca (R jd i) + 128 → ¬ (jd ≠ 0 ∧ ha (t 1 jd) ≤ x ∧ x < ha (t 1 jd) + 64) := fun i x hi x0 x1 z => by
    have j1 : 1 ≤ jd := (by omega)
    have hdd := V_hd v j1 a
    have wp := v.1.2.2.2.1 jd j1 a
    have pne : pt t jd ≠ jd := fun y => by
      have := wp.2.2.2.1
      rw [y] at this
      omega
    have ne : R jd i ≠ R (pt t jd) (t 3 jd / 4).toNat := fun y => pne (v.1.2.2.1 _ _ _ _ a wp.1 hi hdd.2.2.1 y).1.symm
    unfold ca at hdd x0 x1
    omega
  refine ⟨fun j aj dj i hi x x0 x1 no => ?_, fun q q0 q1 => ?_, fun q q0 q1 => ?_, rng⟩
  · have c := V_rr v aj i hi
    rw [d4n x (by unfold ca at x0; omega) no]
    exact d3_dir v a kc px aj dj hi x0 x1
  · have e0 : ea (dRo f n mp X t R jd k) q = ea (R jd) q := ea_cg (K := Kt t jd) (fun i hi => by unfold dRo app; rw [if_pos hi]) q0 q1
    have in' := ea_in (r := R jd) (q := q)
    have c := V_rr v a (q / 4).toNat (by omega)
    rw [e0, d4n _ (by unfold ca at in'; omega) (far (q / 4).toNat _ (by omega) in'.1 (by omega))]
    exact d3_dir v a kc px a dd (i := (q / 4).toNat) (by omega) in'.1 (by omega)
  · have e0 : dRo f n mp X t R jd k (q / 4).toNat = dSq f n mp X t R jd k ((q / 4).toNat - Kt t jd) := by unfold dRo app; rw [if_neg (by omega)]
    have in' := ea_in (r := dRo f n mp X t R jd k) (q := q)
    have c := o1 ((q / 4).toNat - Kt t jd) (by omega)
    rw [e0] at in'
    have c1 := c.1
    unfold clu at c1
    have no : ¬ (jd ≠ 0 ∧ ha (t 1 jd) ≤ ea (dRo f n mp X t R jd k) q ∧ ea (dRo f n mp X t R jd k) q < ha (t 1 jd) + 64) := fun z => by
      have j1 : 1 ≤ jd := (by omega)
      have hdd := V_hd v j1 a
      have wp := v.1.2.2.2.1 jd j1 a
      have ne := (V_fresh v c.2.1).2 _ wp.1 _ hdd.2.2.1
      unfold ca at hdd in'
      omega
    rw [d4n _ (by unfold ca at in'; omega) no]
    exact d3_new v a kc px (i := (q / 4).toNat - Kt t jd) (by omega) in'.1 (by omega)
theorem A_openRow {P : Int → AH → Prop} {jd k : Nat} {e : Int} {ws : List (Nat → Int)} {Q : Int → (Nat → Int) → Int → Int → Prop} (v : V f g n root mp t R) (sy : Syn h) (hf : 0 ≤ h 1 3 ∧ h 1 3 ≤ 1000) (hd : Hd f t R h) (h3 : h 3 = f) (h71 : h 7 1 = n) (h73 : h 7 3 = mp) (h74 : h 7 4 = X) (a : al t jd) (dd : dirT f t jd) (px : PX f mp n X) (szr : 1 ≤ h 32 1 ∧ h 32 1 ≤ 30) (em : m = 2 + (h 32 1 + 14) / 15) (sp : Spc f (R jd) (Kt t jd) m e k) (kc : 0 < k → k ≤ cf f mp n X n.toNat) (ro : Ro h 28 29 (Kt t jd) (R jd)) (rf : Ro h 30 31 k (dSq f n mp X t R jd k)) (e4 : h 27 4 = dWr f t jd) (e5 : h 27 5 = dRn f n mp X t R jd k)
    (pc : ∀ r' d' f' n', Ph f (so1 f :: dB f n mp X t R jd k :: d1 f n mp X t R jd k :: d2 f n mp X t R jd k :: d3 f n mp X t R jd k :: ws) (h 1 3) (h 1 4) r' d' f' n' → Q r' d' f' n')
    (H0 : ∀ b, Q 0 (b 2) (b 1 3) (b 1 4) → Syn b → (∀ o, ¬ ((1 ≤ o ∧ o ≤ 4) ∨ o = 28 ∨ o = 29) → b o = h o) → P 0 b)
    (H1 : ∀ b, (∀ r' d' f' n', Ph (d3 f n mp X t R jd k) ws (b 1 3) (b 1 4) r' d' f' n' → Q r' d' f' n') → Dk b → b 3 = mks (d4 f n mp X t R jd k (h 26 5)) (dRo f n mp X t R jd k) e.toNat → (∀ j, j < 13824 → b 2 j = d3 f n mp X t R jd k j) → (0 ≤ b 1 3 ∧ b 1 3 ≤ 1000) → b 26 6 = ea (dRo f n mp X t R jd k) e → b 26 7 = ea (dRo f n mp X t R jd k) (e + 2) → (∀ j, j ≠ 6 → j ≠ 7 → b 26 j = h 26 j) → (∀ o, ¬ ((1 ≤ o ∧ o ≤ 4) ∨ o = 26 ∨ o = 28 ∨ o = 29) → b o = h o) → P 1 b) : RunsI G 4 [vR 26, vI (t 1 jd), vR 32] h P := by
  have nn := V_n v
  have hb := V_by v
  have mpc := V_mp v
  unfold clu at mpc
  have Kpos := V_Kd v a dd
  have kn := V_K v a
  have rr := V_rr v a
  have xr := PX_rng v px
  have m34 : m = 3 ∨ m = 4 := (by omega)
  have k1 : k = 0 ∨ k = 1 := by
    rcases sp.2.2 with ⟨z, _⟩ | ⟨z, _⟩
    · exact Or.inl z
    · exact Or.inr z
  obtain ⟨o1, o2⟩ := dSq_ok (t := t) (R := R) (jd := jd) kc
  have cs : ∀ i, i < k → clu n (dSq f n mp X t R jd k i) := fun i hi => (o1 i hi).1
  have pz : t 1 jd = 0 ↔ jd = 0 := ⟨fun z => V_inj v a v.1.1.1 (by rw [v.1.1.2.1]; exact z), fun z => by rw [z]; exact v.1.1.2.1⟩
  have pr : 0 ≤ t 1 jd ∧ t 1 jd ≤ 407 := by
    by_cases z : jd = 0
    · rw [pz.mpr z]; decide
    · have := V_cl v (show 1 ≤ jd by omega) a
      omega
  obtain ⟨g1, g2, g3, g4⟩ := d4_row v a dd kc px (h 26 5)
  have e0 := sp.1
  have ev := sp.2.1
  have emK : e + m ≤ 4 * ((Kt t jd + k : Nat) : Int) := by
    rcases sp.2.2 with ⟨z, y, _⟩ | ⟨z, _, y, _⟩ <;> omega
  have K102 : Kt t jd + k ≤ 102 := (by omega)
  -- from the take on
  have c195 : ∀ (c : AH), (∀ r' d' f' n', Ph (d3 f n mp X t R jd k) ws (c 1 3) (c 1 4) r' d' f' n' → Q r' d' f' n') → (∀ j, j < 13824 → c 2 j = d3 f n mp X t R jd k j) → (0 ≤ c 1 3 ∧ c 1 3 ≤ 1000) → Ro c 28 29 (Kt t jd + k) (dRo f n mp X t R jd k) → (∀ o, ¬ ((1 ≤ o ∧ o ≤ 4) ∨ o = 28 ∨ o = 29) → c o = h o) → ∀ (z q : Nat), q + z = e.toNat → ∀ b, Upd c b (mks (d4 f n mp X t R jd k (h 26 5)) (dRo f n mp X t R jd k) q) → Go G (pI P) 4 195 [some (vR 26), none, none, some (vI e), some (vI (q : Int))] [] b := by
    intro c pcc cd cf' roc oc z
    induction z with
    | zero =>
      intro q hq b u
      have ob : ∀ o, ¬ (o = 3 ∨ o = 4) → b o = c o := fun o p => u.2.2 o (by omega) (by omega)
      have rob : Ro b 28 29 (Kt t jd + k) (dRo f n mp X t R jd k) := by unfold Ro; rw [ob 28 (by decide), ob 29 (by decide)]; exact roc
      rw [show q = e.toNat by omega] at u
      apply q_A_openRow_c195
      rw [wI_id (z := e) (by omega) (by omega), wI_id (z := (q : Int)) (by omega) (by omega)]
      refine ⟨fun _ => C_entry_28 rob (by omega) (by omega) ?_, fun y => by omega⟩
      have rob2 : Ro (hs b 26 6 (ea (dRo f n mp X t R jd k) e)) 28 29 (Kt t jd + k) (dRo f n mp X t R jd k) := by unfold Ro; rw [hs_o _ _ _ _ _ (by decide), hs_o _ _ _ _ _ (by decide)]; exact rob
      refine C_entry_28 rob2 (by omega) (by omega) ⟨Or.inr rfl, H1 _ ?_ ?_ ?_ ?_ ?_ ?_ ?_ (fun j p q' => ?_) (fun o p => ?_)⟩
      · rw [hs_o _ _ _ _ _ (by decide), hs_o _ _ _ _ _ (by decide), ob 1 (by decide)]; exact pcc
      · exact Dk_congr (by rw [hs_o _ _ _ _ _ (by decide), hs_o _ _ _ _ _ (by decide)]) (by rw [hs_o _ _ _ _ _ (by decide), hs_o _ _ _ _ _ (by decide)]) (by rw [hs_o _ _ _ _ _ (by decide), hs_o _ _ _ _ _ (by decide)]) u.1
      · rw [hs_o _ _ _ _ _ (by decide), hs_o _ _ _ _ _ (by decide)]; exact u.2.1
      · rw [hs_o _ _ _ _ _ (by decide), hs_o _ _ _ _ _ (by decide), ob 2 (by decide)]; exact cd
      · rw [hs_o _ _ _ _ _ (by decide), hs_o _ _ _ _ _ (by decide), ob 1 (by decide)]; exact cf'
      · rw [hs_k _ _ _ _ _ (by decide), hs_same]
      · rw [hs_same]
      · rw [hs_k _ _ _ _ _ q', hs_k _ _ _ _ _ p, ob 26 (by decide), oc 26 (by decide)]
      · rw [hs_o _ _ _ _ _ (by omega), hs_o _ _ _ _ _ (by omega), ob o (by omega)]; exact oc o (by omega)
    | succ z ih =>
      intro q hq b u
      have ob : ∀ o, ¬ (o = 3 ∨ o = 4) → b o = c o := fun o p => u.2.2 o (by omega) (by omega)
      have rob : Ro b 28 29 (Kt t jd + k) (dRo f n mp X t R jd k) := by unfold Ro; rw [ob 28 (by decide), ob 29 (by decide)]; exact roc
      have er := ea_rng (r := dRo f n mp X t R jd k) (e := (q : Int)) (by omega) (g4 _ (by omega))
      have hv := u.1.2.1.rd (show 0 ≤ ea (dRo f n mp X t R jd k) (q : Int) by omega) (show ea (dRo f n mp X t R jd k) (q : Int) < 13824 by omega)
      apply q_A_openRow_c195
      rw [wI_id (z := e) (by omega) (by omega), wI_id (z := (q : Int)) (by omega) (by omega)]
      refine ⟨fun y => by omega, fun _ => C_entry_28 rob (by omega) (by omega) (D_get (by omega) (by omega) ?_)⟩
      rw [wI_id (z := rd (b 3) (ea (dRo f n mp X t R jd k) (q : Int))) (by omega) (by omega), show (q : Int) + 1 = ((q + 1 : Nat) : Int) by omega]
      refine ⟨fun y => C_entry_28 rob (by omega) (by omega) (D_wb1 u.1 (by omega) (by omega) (fun b2 u2 => ih (q + 1) (by omega) b2 ?_)), fun y => ih (q + 1) (by omega) b ?_⟩
      · rw [u.2.1] at u2 y
        rw [mks, if_pos y]
        exact u.trans u2
      · rw [u.2.1] at y
        rw [mks, if_neg y]
        exact u
  have c131 : ∀ (b : AH), (∀ r' d' f' n', Ph (d3 f n mp X t R jd k) ws (b 1 3) (b 1 4) r' d' f' n' → Q r' d' f' n') → Dk b → b 3 = d4 f n mp X t R jd k (h 26 5) → (∀ j, j < 13824 → b 2 j = d3 f n mp X t R jd k j) → (0 ≤ b 1 3 ∧ b 1 3 ≤ 1000) → (∀ o, ¬ (1 ≤ o ∧ o ≤ 4) → b o = h o) → Go G (pI P) 4 131 [some (vR 26), some (vI (t 1 jd)), some (vR 32), some (vI 0), none] [] b := by
    intro b pb dkb b3 bd bf ob
    have key : ∀ (z i : Nat) (c : AH), i + z = k → Ro c 28 29 (Kt t jd + i) (dRo f n mp X t R jd k) → (∀ o, o ≠ 28 → o ≠ 29 → c o = b o) → Go G (pI P) 4 131 [some (vR 26), some (vI (t 1 jd)), some (vR 32), some (vI (i : Int)), none] [] c := by
      intro z
      induction z with
      | zero =>
        intro i c hi roc oc
        have och : ∀ o, ¬ ((1 ≤ o ∧ o ≤ 4) ∨ o = 28 ∨ o = 29) → c o = h o := fun o p => (oc o (by omega) (by omega)).trans (ob o (by omega))
        rw [show i = k by omega] at roc
        apply q_A_openRow_c131
        rw [och 30 (by decide), rf.1, wI_id (z := (k : Int)) (by omega) (by omega), wI_id (z := (i : Int)) (by omega) (by omega)]
        refine ⟨fun _ => ?_, fun y => by omega⟩
        apply q_N_entriesOf
        rw [och 32 (by decide), wI_id (z := h 32 1 + 14) (by omega) (by omega), tdiv_pos (by omega), ← em]
        have c3 : c 3 = d4 f n mp X t R jd k (h 26 5) := (oc 3 (by decide) (by decide)).trans b3
        have by4 : By (d4 f n mp X t R jd k (h 26 5)) := by rw [← b3]; exact dkb.2.1
        refine ⟨by decide, A_freeRow (K := Kt t jd + k) c3 by4 roc g4 m34 (fun p p0 p2 pm fp lp => ?_) (fun no => ?_)⟩
        · have pe := Spc_two m34 sp g2 g3 p0 p2 pm fp lp
          subst pe
          have c4 : Upd c c (mks (d4 f n mp X t R jd k (h 26 5)) (dRo f n mp X t R jd k) 0) := ⟨Dk_congr (oc 2 (by decide) (by decide)) (oc 3 (by decide) (by decide)) (oc 4 (by decide) (by decide)) dkb, c3, fun _ _ _ => rfl⟩
          have go := c195 c (by rw [oc 1 (by decide) (by decide)]; exact pb) (by rw [oc 2 (by decide) (by decide)]; exact bd) (by rw [oc 1 (by decide) (by decide)]; exact bf) roc och
          rw [wI_id (z := t 1 jd) (by omega) (by omega)]
          refine ⟨fun y => ?_, fun y => go p.toNat 0 (by omega) c c4⟩
          have z0 := pz.mp y
          subst z0
          have r0 := (v.2.2.1 0 v.1.1.1).2.1 0 v.1.1.2.2
          rw [v.1.1.2.1, rwP_0] at r0
          simp only [tc] at r0
          have d6 := v.2.2.2.2.2.2.2.1
          have t0 : rd (d4 f n mp X t R 0 k (h 26 5)) (ea (dRo f n mp X t R 0 k) 0) = 129 := by
            rw [g2 0 (by omega) (by omega)]
            show rd f (ca (R 0 0) + 32 * 0) = 129
            rw [← r0, show ca root + 32 * 0 = ca root by omega]
            exact d6.1
          have t1 : rd (d4 f n mp X t R 0 k (h 26 5)) (ea (dRo f n mp X t R 0 k) 1) = 130 := by
            rw [g2 1 (by omega) (by omega)]
            show rd f (ca (R 0 0) + 32 * 1) = 130
            rw [← r0, show ca root + 32 * 1 = ca root + 32 by omega]
            exact d6.2
          have p2' : 2 ≤ p := by
            by_cases y0 : p = 0
            · have := fp 0 (by omega) (by omega)
              rw [y0, show (0 : Int) + 0 = 0 by rfl, t0] at this
              exact absurd this (by decide)
            · omega
          have m2 : mks (d4 f n mp X t R 0 k (h 26 5)) (dRo f n mp X t R 0 k) 2 = d4 f n mp X t R 0 k (h 26 5) := by
            have e1 : mks (d4 f n mp X t R 0 k (h 26 5)) (dRo f n mp X t R 0 k) 1 = d4 f n mp X t R 0 k (h 26 5) := by
              rw [mks, mks]
              rw [show ((0 : Nat) : Int) = 0 by rfl, t0, if_neg (by decide)]
            rw [mks, e1, show ((1 : Nat) : Int) = 1 by rfl, t1, if_neg (by decide)]
          have c4' : Upd c c (mks (d4 f n mp X t R 0 k (h 26 5)) (dRo f n mp X t R 0 k) 2) := by rw [m2]; exact c4
          exact go (p.toNat - 2) 2 (by omega) c c4'
        · exfalso
          rcases sp.2.2 with ⟨z, pm, fe, _⟩ | ⟨z, _, el, fe, _⟩
          · refine no e e0 ev emK (fun i i0 i1 => ?_)
            rw [g2 _ (by omega) (by omega)]
            exact fe i i0 i1
          · refine no e e0 ev emK (fun i i0 i1 => ?_)
            by_cases y : e + i < 4 * (Kt t jd : Int)
            · rw [g2 _ (by omega) y]; exact fe _ (by omega) (by omega) y
            · rw [g3 _ (by omega) (by omega)]; decide
      | succ z ih =>
        intro i c hi roc oc
        have och : ∀ o, ¬ ((1 ≤ o ∧ o ≤ 4) ∨ o = 28 ∨ o = 29) → c o = h o := fun o p => (oc o (by omega) (by omega)).trans (ob o (by omega))
        have rfc : Ro c 30 31 k (dSq f n mp X t R jd k) := by unfold Ro; rw [och 30 (by decide), och 31 (by decide)]; exact rf
        apply q_A_openRow_c131
        rw [rfc.1, wI_id (z := (k : Int)) (by omega) (by omega), wI_id (z := (i : Int)) (by omega) (by omega)]
        refine ⟨fun y => by omega, fun _ => C_at_30 rfc (by omega) (by omega) (C_add_28 roc (by omega) (fun c2 ro2 o2' => ?_))⟩
        rw [show (i : Int) + 1 = ((i + 1 : Nat) : Int) by omega]
        refine ih (i + 1) c2 (by omega) ?_ (fun o p q => (o2' o p q).trans (oc o p q))
        refine Ro_cg (fun j hj => ?_) ro2
        by_cases y : j = Kt t jd + i
        · rw [y, st_s]
          unfold dRo app
          rw [if_neg (by omega), show (i : Int).toNat = i by omega, show Kt t jd + i - Kt t jd = i by omega]
        · rw [st_n _ _ y]
    have rob : Ro b 28 29 (Kt t jd + 0) (dRo f n mp X t R jd k) := by
      unfold Ro
      rw [ob 28 (by decide), ob 29 (by decide)]
      exact Ro_cg (fun i hi => by unfold dRo app; rw [if_pos (show i < Kt t jd by omega)]) ro
    exact key k 0 b (by omega) rob (fun _ _ _ => rfl)
  have c41 : ∀ (c : AH), (∀ r' d' f' n', Ph (so1 f) (dB f n mp X t R jd k :: d1 f n mp X t R jd k :: d2 f n mp X t R jd k :: d3 f n mp X t R jd k :: ws) (c 1 3) (c 1 4) r' d' f' n' → Q r' d' f' n') → (∀ j, j < 13824 → c 2 j = so1 f j) → (0 ≤ c 1 3 ∧ c 1 3 ≤ 1000) → (∀ o, ¬ (1 ≤ o ∧ o ≤ 4) → c o = h o) → ∀ (z i : Nat), i + z = k → ∀ b, Upd c b (blk (blX (so1 f) X) (dSq f n mp X t R jd k) i) → Go G (pI P) 4 41 [some (vR 26), some (vI (t 1 jd)), some (vR 32), some (vI (i : Int)), none] [] b := by
    intro c pcc cd cf' oc z
    induction z with
    | zero =>
      intro i hi b u
      have ob : ∀ o, ¬ (1 ≤ o ∧ o ≤ 4) → b o = h o := fun o p => (u.2.2 o (by omega) (by omega)).trans (oc o p)
      have b1 : b 1 = c 1 := u.2.2 1 (by decide) (by decide)
      rw [show i = k by omega] at u
      apply q_A_openRow_c41
      rw [ob 30 (by decide), rf.1, wI_id (z := (k : Int)) (by omega) (by omega), wI_id (z := (i : Int)) (by omega) (by omega)]
      refine ⟨fun _ => ?_, fun y => by omega⟩
      refine D_step (f := so1 f) (w := dB f n mp X t R jd k) (ws := d1 f n mp X t R jd k :: d2 f n mp X t R jd k :: d3 f n mp X t R jd k :: ws) (Q := Q) u.1 (fun j hj => by rw [u.2.2 2 (by decide) (by decide)]; exact cd j hj) u.2.1 (by rw [b1]; exact cf') (fun r' d' f' n' p => pcc _ _ _ _ (by rw [b1] at p; exact p)) (fun e' qe sye oe => ⟨fun _ => ⟨Or.inl rfl, H0 e' qe sye (fun o p => (oe o (by omega)).trans (ob o (by omega)))⟩, fun y => absurd wI_0 y⟩) (fun e' pe sye e3 ed ef oe => ⟨fun y => absurd y (by decide), fun _ => ?_⟩)
      have oeh : ∀ o, ¬ (1 ≤ o ∧ o ≤ 4) → e' o = h o := fun o p => (oe o p).trans (ob o p)
      have roe : Ro e' 28 29 (Kt t jd) (R jd) := by unfold Ro; rw [oeh 28 (by decide), oeh 29 (by decide)]; exact ro
      have rfe : Ro e' 30 31 k (dSq f n mp X t R jd k) := by unfold Ro; rw [oeh 30 (by decide), oeh 31 (by decide)]; exact rf
      refine G_take (n := n) (mp := mp) (X := X) (wr' := dWr f t jd) (run := dRn f n mp X t R jd k) (ws := ws) (Q := Q) sye e3 ef (by rw [oeh 7 (by decide)]; exact h71) (by rw [oeh 7 (by decide)]; exact h73) (by rw [oeh 7 (by decide)]; exact h74) nn (by omega) (px.elim Or.inl (fun y => Or.inr y.1)) roe (fun i hi => (v.1.2.1 jd a i hi).1) rfe cs (by rw [oeh 27 (by decide)]; exact e4) dWr_01 (by rw [oeh 27 (by decide)]; exact e5) dRn_01 (fun y => by unfold dRn; rw [if_pos y]) (fun r' d' f' n' p => pe r' d' f' n' p) (fun e2 qe sy2 o2' => ⟨fun _ => ⟨Or.inl rfl, H0 e2 qe sy2 (fun o p => (o2' o (by omega)).trans (oeh o (by omega)))⟩, fun y => absurd wI_0 y⟩) (fun e2 pe2 sy2 e23 e2d e2f o2' => ⟨fun y => absurd y (by decide), fun _ => ?_⟩)
      have oe2 : ∀ o, ¬ (1 ≤ o ∧ o ≤ 4) → e2 o = h o := fun o p => (o2' o p).trans (oeh o p)
      have e23' : e2 3 = d3 f n mp X t R jd k := e23
      rw [oe2 30 (by decide), rf.1, wI_id (z := (k : Int)) (by omega) (by omega), wI_id (z := t 1 jd) (by omega) (by omega)]
      refine ⟨fun y => c131 e2 pe2 sy2.1 ?_ e2d e2f oe2, fun y => ⟨fun y2 => c131 e2 pe2 sy2.1 ?_ e2d e2f oe2, fun y2 => ?_⟩⟩
      · rw [e23']
        unfold d4
        rw [if_pos (Or.inl (by omega))]
      · rw [e23']
        unfold d4
        rw [if_pos (Or.inr (pz.mp y2))]
      · have j0 : ¬ jd = 0 := fun x => y2 (pz.mpr x)
        have j1 : 1 ≤ jd := (by omega)
        have hd2 : Hd f t R e2 := by
          unfold Hd at hd ⊢
          rw [oe2 12 (by decide), oe2 13 (by decide)]
          exact hd
        have hdd := V_hd v j1 a
        have wp := v.1.2.2.2.1 jd j1 a
        refine A_growDir (K := Kt t jd) (k := k) (r := R jd) (s := dSq f n mp X t R jd k) v hd2 sy2.1 e23' (by unfold Ro; rw [oe2 28 (by decide), oe2 29 (by decide)]; exact ro) (by unfold Ro; rw [oe2 30 (by decide), oe2 31 (by decide)]; exact rf) (by rw [oe2 27 (by decide)]; exact e5) dRn_01 j1 a dd rfl (by omega) (fun x x0 x1 => d3_dir v a kc px wp.1 (v.2.1 jd j1 a).1 hdd.2.2.1 (by omega) (by omega)) (fun e6 u6 => c131 e6 ?_ u6.1 ?_ (fun j hj => by rw [u6.2.2 2 (by decide) (by decide)]; exact e2d j hj) (by rw [u6.2.2 1 (by decide) (by decide)]; exact e2f) (fun o p => (u6.2.2 o (by omega) (by omega)).trans (oe2 o p)))
        · rw [u6.2.2 1 (by decide) (by decide)]; exact pe2
        · rw [u6.2.1, oe2 26 (by decide)]
          unfold d4
          rw [if_neg (by omega)]
          rfl
    | succ z ih =>
      intro i hi b u
      have ob : ∀ o, ¬ (1 ≤ o ∧ o ≤ 4) → b o = h o := fun o p => (u.2.2 o (by omega) (by omega)).trans (oc o p)
      have rfb : Ro b 30 31 k (dSq f n mp X t R jd k) := by unfold Ro; rw [ob 30 (by decide), ob 31 (by decide)]; exact rf
      have ci := cs i (by omega)
      unfold clu at ci
      apply q_A_openRow_c41
      rw [rfb.1, wI_id (z := (k : Int)) (by omega) (by omega), wI_id (z := (i : Int)) (by omega) (by omega)]
      refine ⟨fun y => by omega, fun _ => C_at_30 rfb (by omega) (by omega) ?_⟩
      apply q_S_address
      rw [show (i : Int).toNat = i by omega, show (i : Int) + 1 = ((i + 1 : Nat) : Int) by omega]
      have ec : 1024 + 128 * (dSq f n mp X t R jd k i - 2) = ca (dSq f n mp X t R jd k i) := rfl
      rw [ec]
      refine D_blank u.1 (by unfold ca; omega) (by omega) (by unfold ca; omega) (fun b2 u2 => ih (i + 1) (by omega) b2 ?_)
      rw [u.2.1] at u2
      exact u.trans u2
  apply q_A_openRow
  refine A_soilS (ws := dB f n mp X t R jd k :: d1 f n mp X t R jd k :: d2 f n mp X t R jd k :: d3 f n mp X t R jd k :: ws) (Q := Q) sy h3 hf pc (fun b qb syb ob => ⟨fun _ => ⟨Or.inl rfl, H0 b qb syb (fun o p => ob o (by omega))⟩, fun y => absurd wI_0 y⟩) (fun b pb syb b3 bd bf ob => ⟨fun y => absurd y (by decide), fun _ => ?_⟩)
  have go := c41 b pb bd bf ob k 0 (by omega)
  rw [ob 7 (by decide), h74, wI_id (z := X) (by omega) (by omega)]
  refine ⟨fun y => go b ?_, fun y => ?_⟩
  · refine ⟨syb.1, ?_, fun _ _ _ => rfl⟩
    rw [b3]
    unfold blk blX
    rw [if_pos y]
  · have x2 := xr.resolve_left y
    apply q_S_address
    have ec : 1024 + 128 * (X - 2) = ca X := rfl
    rw [ec]
    refine D_blank syb.1 (by unfold ca; omega) (by omega) (by unfold ca; omega) (fun b2 u2 => go b2 ?_)
    rw [b3] at u2
    unfold blk blX
    rw [if_neg y]
    exact u2
end OPENR
