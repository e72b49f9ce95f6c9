/-! write: the class -/
section RWRI
variable {f g : Nat → Int} {n root mp : Int} {t R : AH} {G : GG} {h : AH}
theorem G_atA {P : Int → AH → Prop} {K k : Nat} {r s : Nat → Int} {x : Int} (ro : Ro h 28 29 K r) (rf : Ro h 30 31 k s) (x0 : 0 ≤ x) (x1 : x < (K : Int) + k) (H : P (app r K s x.toNat) h) : RunsI G 70 [vR 27, vI x] h P := by
  have r1 := ro.2.1
  have r2 := rf.2.1
  apply q_G_at
  rw [ro.1, wI_id (z := (K : Int)) (by omega) (by omega), wI_id (z := x) (by omega) (by omega)]
  unfold app at H
  refine ⟨fun z => C_at_30 rf (by omega) (by omega) ?_, fun z => C_at_28 ro (by omega) (by omega) ?_⟩
  · rw [if_neg (by omega)] at H
    rw [show (x - (K : Int)).toNat = x.toNat - K by omega]
    exact H
  · rw [if_pos (by omega)] at H
    exact H
theorem A_fill {P : Int → AH → Prop} {x2 x3 x4 ln : Int} {jj k m : Nat} (sy : Syn h) (hf : 0 ≤ h 1 3 ∧ h 1 3 ≤ 1000) (v : V f g n root mp t R) (h3 : h 3 = f) (h71 : h 7 1 = n) (h72 : h 7 2 = root) (h73 : h 7 3 = mp) (hd : Hd f t R h) (q1 : 1 ≤ jj) (q : al t jj) (nd : ¬ dirT f t jj) (hx : in32 (t 1 jj)) (m0 : x3 = (m : Int)) (m1 : 1 ≤ m ∧ m ≤ 1024) (a0 : 0 ≤ x2 ∧ x2 ≤ u4 f (ha (t 1 jj) + 56)) (ro' : u2 f (ha (t 1 jj) + 4) % 2 = 0) (el : ln = (if u4 f (ha (t 1 jj) + 56) < x2 + x3 then x2 + x3 else u4 f (ha (t 1 jj) + 56))) (lk : (ln + 127) / 128 = ((Kt t jj + k : Nat) : Int))
    (HF : cf f mp n 0 n.toNat < k → ∀ b, (∀ k, k ≠ 4 → b 7 k = h 7 k) → (∀ o, ¬ (o = 7 ∨ (27 ≤ o ∧ o ≤ 31)) → b o = h o) → P (-6) b)
    (H0 : (0 < k → k ≤ cf f mp n 0 n.toNat) → ∀ b, Ph f (wWs f n mp t R jj k x2 x4 m ln (h 26 5)) (h 1 3) (h 1 4) 0 (b 2) (b 1 3) (b 1 4) → Syn b → (∀ k, k ≠ 4 → b 7 k = h 7 k) → (∀ o, ¬ ((1 ≤ o ∧ o ≤ 4) ∨ o = 7 ∨ (27 ≤ o ∧ o ≤ 31)) → b o = h o) → P (-7) b)
    (H1 : (0 < k → k ≤ cf f mp n 0 n.toNat) → ∀ b, Ph f (wWs f n mp t R jj k x2 x4 m ln (h 26 5)) (h 1 3) (h 1 4) 1 (b 2) (b 1 3) (b 1 4) → Syn b → b 3 = w4D f n mp t R jj k x2 x4 m ln (h 26 5) → (∀ k, k ≠ 4 → b 7 k = h 7 k) → (∀ o, ¬ ((1 ≤ o ∧ o ≤ 4) ∨ o = 7 ∨ (27 ≤ o ∧ o ≤ 31)) → b o = h o) → P ln b) : RunsI G 6 [vR 26, vI (t 1 jj), vI x2, vI x3, vI x4] h P := by
  have nn := V_n v
  have wa := V_at v q1 q
  have rg := V_rng v q1 q
  have ok := V_ln v q1 q
  have s3 := SetOK_3 ok
  have l56 := ok.2.2.1.1
  have kn := V_K v q
  have mpc := V_mp v
  unfold clu at mpc
  have hb := V_by v
  have u56 := u4_rng hb (show 0 ≤ ha (t 1 jj) + 56 by omega) (show ha (t 1 jj) + 56 + 3 < 13824 by omega)
  have r1 := (v.2.2.1 jj q).1
  rw [rkP_n f _ (by have := V_cl v q1 q; omega)] at r1
  have rr := V_rr v q
  have kw : Kt t jj = 0 → bR f (t 1 jj) = 0 := fun z => by
    have := ok.2.2.1.2.2.2.2.2.1 (by omega)
    have nr := this.2
    unfold isR at nr
    unfold bR
    rw [if_neg nr]
  have lr : x2 + x3 ≤ ln ∧ 1 ≤ ln ∧ ln ≤ 14000 ∧ u4 f (ha (t 1 jj) + 56) ≤ ln := by
    rw [el]
    split <;> omega
  have am : x2 + m ≤ 128 * ((Kt t jj + k : Nat) : Int) := (by omega)
  have rsf : ∀ x : Int, 512 ≤ x → rd (so1 f) x = rd f x := fun x p => so1_hi f p
  -- behind the choice
  have beh : ∀ b0 : AH, (0 < k → k ≤ cf f mp n 0 n.toNat) → (∀ o, ¬ (o = 7 ∨ (27 ≤ o ∧ o ≤ 31)) → b0 o = h o) → (∀ k, k ≠ 4 → b0 7 k = h 7 k) → b0 7 4 = 0 → Ro b0 28 29 (Kt t jj) (R jj) → Ro b0 30 31 k (wSq f n mp t R jj k) → b0 27 4 = bR f (t 1 jj) → b0 27 5 = wRn f n mp t R jj k → RunsI G 12 [vR 26] b0 (fun r6 h6 => ((wI r6 = 0 → P (-7) h6) ∧ (¬ wI r6 = 0 → Go G (pI P) 6 150 [some (vR 26), some (vI (t 1 jj)), some (vI x2), some (vI x3), some (vI x4), none, some (vI ln), none, some (vI 0)] [] h6))) := by
    intro b0 kc ob0 b07 b074 rob rfb b27 b275
    obtain ⟨o1, o2, o3⟩ := wRo_ok v (jj := jj) (k := k) q kc
    have cs : ∀ i, i < k → clu n (wSq f n mp t R jj k i) := fun i hi => (o1 i hi).1
    have sy0 : Syn b0 := by unfold Syn Dk at *; rw [ob0 2 (by decide), ob0 3 (by decide), ob0 4 (by decide)]; exact sy
    have b01 : b0 1 = h 1 := ob0 1 (by decide)
    refine A_soilS (ws := (wWs f n mp t R jj k x2 x4 m ln (h 26 5)).tail) (Q := Ph f (wWs f n mp t R jj k x2 x4 m ln (h 26 5)) (h 1 3) (h 1 4)) sy0 ((ob0 3 (by decide)).trans h3) (by rw [b01]; exact hf) (fun r d' f' n' p => by rw [b01] at p; exact p) (fun b qb syb ob => ⟨fun _ => H0 kc b qb syb (fun k p => by rw [ob 7 (by decide)]; exact b07 k p) (fun o p => (ob o (by omega)).trans (ob0 o (by omega))), fun y => absurd wI_0 y⟩) (fun b pb syb b3 bd bf ob => ⟨fun y => absurd y (by decide), fun _ => ?_⟩)
    have key : ∀ (z i : Nat) (c : AH), i + z = m → Upd b c (dat (so1 f) (wRo f n mp t R jj k) x2 x4 i) → Go G (pI P) 6 150 [some (vR 26), some (vI (t 1 jj)), some (vI x2), some (vI x3), some (vI x4), none, some (vI ln), none, some (vI (i : Int))] [] c := by
      intro z
      induction z with
      | zero =>
        intro i c hz u
        have oc : ∀ o, ¬ (1 ≤ o ∧ o ≤ 4) → c o = b0 o := fun o p => (u.2.2 o (by omega) (by omega)).trans (ob o p)
        have c1 : c 1 = b 1 := u.2.2 1 (by decide) (by decide)
        rw [show i = m by omega] at u ⊢
        apply q_A_fill_c150
        rw [m0, wI_id (z := (m : Int)) (by omega) (by omega)]
        refine ⟨fun _ => ?_, fun y => by omega⟩
        have cd : c 3 = wD f n mp t R jj k x2 x4 m := u.2.1
        refine D_step (f := so1 f) (w := wD f n mp t R jj k x2 x4 m) (ws := [w1D f n mp t R jj k x2 x4 m, w2D f n mp t R jj k x2 x4 m, w3D f n mp t R jj k x2 x4 m, w4D f n mp t R jj k x2 x4 m ln (h 26 5)]) (Q := Ph f (wWs f n mp t R jj k x2 x4 m ln (h 26 5)) (h 1 3) (h 1 4)) u.1 (fun j hj => by rw [u.2.2 2 (by decide) (by decide)]; exact bd j hj) cd (by rw [c1]; exact bf) (fun r d' f' n' p => pb r d' f' n' (by rw [c1] at p; exact p)) (fun e qe sye oe => ⟨fun _ => H0 kc e qe sye (fun k p => by rw [oe 7 (by decide), oc 7 (by decide)]; exact b07 k p) (fun o p => ((oe o (by omega)).trans (oc o (by omega))).trans (ob0 o (by omega))), fun y => absurd wI_0 y⟩) (fun e pe sye e3 ed ef oe => ⟨fun y => absurd y (by decide), fun _ => ?_⟩)
        have oe0 : ∀ o, ¬ (1 ≤ o ∧ o ≤ 4) → e o = b0 o := fun o p => (oe o p).trans (oc o p)
        have roe : Ro e 28 29 (Kt t jj) (R jj) := by unfold Ro; rw [oe0 28 (by decide), oe0 29 (by decide)]; exact rob
        have rfe : Ro e 30 31 k (wSq f n mp t R jj k) := by unfold Ro; rw [oe0 30 (by decide), oe0 31 (by decide)]; exact rfb
        refine G_take (n := n) (mp := mp) (X := 0) (wr' := bR f (t 1 jj)) (run := wRn f n mp t R jj k) (ws := [w4D f n mp t R jj k x2 x4 m ln (h 26 5)]) (Q := Ph f (wWs f n mp t R jj k x2 x4 m ln (h 26 5)) (h 1 3) (h 1 4)) sye e3 ef (by rw [oe0 7 (by decide), b07 1 (by decide)]; exact h71) (by rw [oe0 7 (by decide), b07 3 (by decide)]; exact h73) (by rw [oe0 7 (by decide)]; exact b074) nn (by omega) (Or.inl rfl) roe (fun i hi => (v.1.2.1 jj q i hi).1) rfe cs (by rw [oe0 27 (by decide)]; exact b27) (bR_01 _ _) (by rw [oe0 27 (by decide)]; exact b275) wRn_01 (fun z => by unfold wRn; rw [if_pos z]) (fun r d' f' n' p => pe r d' f' n' p) (fun e2 qe sy2 o2' => ⟨fun _ => H0 kc e2 qe sy2 (fun k p => by rw [o2' 7 (by decide), oe0 7 (by decide)]; exact b07 k p) (fun o p => ((o2' o (by omega)).trans (oe0 o (by omega))).trans (ob0 o (by omega))), fun y => absurd wI_0 y⟩) (fun e2 pe2 sy2 e23 e2d e2f o2' => ⟨fun y => absurd y (by decide), fun _ => ?_⟩)
        have oe2 : ∀ o, ¬ (1 ≤ o ∧ o ≤ 4) → e2 o = b0 o := fun o p => (o2' o p).trans (oe0 o p)
        have ro2 : Ro e2 28 29 (Kt t jj) (R jj) := by unfold Ro; rw [oe2 28 (by decide), oe2 29 (by decide)]; exact rob
        have rf2 : Ro e2 30 31 k (wSq f n mp t R jj k) := by unfold Ro; rw [oe2 30 (by decide), oe2 31 (by decide)]; exact rfb
        refine G_atA ro2 rf2 (by omega) (by omega) ?_
        rw [oe2 27 (by decide), b275]
        have hd2 : Hd f t R e2 := by
          unfold Hd at hd ⊢
          rw [oe2 12 (by decide), oe2 13 (by decide), ob0 12 (by decide), ob0 13 (by decide)]
          exact hd
        have e23' : e2 3 = w3D f n mp t R jj k x2 x4 m := e23
        have hk1 : rd (e2 3) (ha (t 1 jj) + 1) = rd f (ha (t 1 jj) + 1) := by
          rw [e23']
          have t1 := tkA_hi (u := wD f n mp t R jj k x2 x4 m) (X := 0) (r := R jj) (s := wSq f n mp t R jj k) (K := Kt t jj) (k := k) (wr' := bR f (t 1 jj)) (run := wRn f n mp t R jj k) (show 2 ≤ mp ∧ mp ≤ 101 by omega) (Or.inl rfl) rr (fun i hi => by have := cs i hi; unfold clu at this; omega) (x := ha (t 1 jj) + 1) (by omega) (by omega)
          have t2 : rd (w3D f n mp t R jj k x2 x4 m) (ha (t 1 jj) + 1) = rd (wD f n mp t R jj k x2 x4 m) (ha (t 1 jj) + 1) := t1
          rw [t2]
          unfold wD
          have hdd := V_hd v q1 q
          have wp := v.1.2.2.2.1 jj q1 q
          rw [dat_ne (N := Kt t jj + k) a0.1 (by omega) (fun i hi => (o3 i hi).1) (fun i hi => ?_) m am]
          · exact rsf _ (by omega)
          · have pne : pt t jj ≠ jj := fun y => by
              have := wp.2.2.2.1
              rw [y] at this
              omega
            have ne := (o3 i hi).2.2 _ wp.1 pne _ hdd.2.2.1
            have c1 := (v.1.2.1 _ wp.1 _ hdd.2.2.1).1
            unfold clu at c1
            unfold ca at hdd ⊢
            omega
        refine A_relay v hd2 sy2.1 e2f q1 q wRn_01 (by rw [hk1]; omega) (fun r2 d fl r201 syd e3d od => ?_)
        have oed : ∀ o, ¬ (1 ≤ o ∧ o ≤ 4) → d o = b0 o := fun o p => (od o (by omega) (by omega) (by omega) (by omega)).trans (oe2 o p)
        have w4e : rly (e2 3) (ha (t 1 jj)) (ea (R (pt t jj)) (t 3 jj + 2)) (wRn f n mp t R jj k) (app (R jj) (Kt t jj) (wSq f n mp t R jj k) (Int.toNat 0)) ln (e2 26 5) = w4D f n mp t R jj k x2 x4 m ln (h 26 5) := by
          rw [e23', oe2 26 (by decide), ob0 26 (by decide)]
          rfl
        rw [w4e] at fl e3d
        have fl' := Fl_cg (Nat.le_refl _) e2d (fun _ _ => rfl) fl
        have d7 : ∀ k, k ≠ 4 → d 7 k = h 7 k := fun k p => by rw [oed 7 (by decide)]; exact b07 k p
        have doo : ∀ o, ¬ ((1 ≤ o ∧ o ≤ 4) ∨ o = 7 ∨ (27 ≤ o ∧ o ≤ 31)) → d o = h o := fun o p => (oed o (by omega)).trans (ob0 o (by omega))
        rcases r201 with y | y
        · subst y
          exact ⟨fun _ => H0 kc d (pe2 _ _ _ _ (Or.inl ⟨rfl, fl'⟩)) syd d7 doo, fun y => absurd wI_0 y⟩
        · subst y
          exact ⟨fun y => absurd y (by decide), fun _ => H1 kc d (pe2 _ _ _ _ (Or.inr ⟨_, _, _, fl', rfl, Fl_1 fl', rfl, rfl⟩)) syd (e3d rfl) d7 doo⟩
      | succ z ih =>
        intro i c hz u
        have oc : ∀ o, ¬ (1 ≤ o ∧ o ≤ 4) → c o = b0 o := fun o p => (u.2.2 o (by omega) (by omega)).trans (ob o p)
        have roc : Ro c 28 29 (Kt t jj) (R jj) := by unfold Ro; rw [oc 28 (by decide), oc 29 (by decide)]; exact rob
        have rfc : Ro c 30 31 k (wSq f n mp t R jj k) := by unfold Ro; rw [oc 30 (by decide), oc 31 (by decide)]; exact rfb
        have cr := (o3 ((x2 + (i : Int)) / 128).toNat (by omega)).1
        apply q_A_fill_c150
        rw [m0, wI_id (z := (m : Int)) (by omega) (by omega), wI_id (z := (i : Int)) (by omega) (by omega), wI_id (z := x2 + (i : Int)) (by omega) (by omega), tdiv_pos (by omega), tmod_pos (by omega)]
        refine ⟨fun y => by omega, fun _ => ⟨by decide, G_atA roc rfc (by omega) (by omega) ?_⟩⟩
        apply q_S_address
        refine ⟨by decide, ?_⟩
        have ec : 1024 + 128 * (app (R jj) (Kt t jj) (wSq f n mp t R jj k) ((x2 + (i : Int)) / 128).toNat - 2) = ca (wRo f n mp t R jj k ((x2 + (i : Int)) / 128).toNat) := rfl
        rw [ec]
        have cb : 1024 ≤ ca (wRo f n mp t R jj k ((x2 + (i : Int)) / 128).toNat) ∧ ca (wRo f n mp t R jj k ((x2 + (i : Int)) / 128).toNat) + 128 ≤ 13824 := by unfold ca; omega
        refine D_wb1 u.1 (by omega) (by omega) (fun c2 u2 => ?_)
        rw [u.2.1] at u2
        rw [show (i : Int) + 1 = ((i + 1 : Nat) : Int) by omega]
        have := ih (i + 1) c2 (by omega) (u.trans u2)
        rw [m0] at this
        exact this
    exact key m 0 b (by omega) ⟨syb.1, b3, fun _ _ _ => rfl⟩
  apply q_A_fill
  refine T_isFile v h3 h71 hd hx (fun j2 j21 a2 d2 e2 => ⟨fun z => absurd z (by decide), fun _ => ?_⟩) (fun no => absurd (no jj q rfl) nd)
  rw [wI_id (z := x3) (by omega) (by omega), wI_id (z := x2) (by omega) (by omega)]
  refine ⟨fun z => by omega, fun _ => ⟨fun _ => ?_, fun z => by omega⟩⟩
  apply q_T_headOf
  show RunsI G 88 [vR 10, vI (ha (t 1 jj))] h _
  apply q_E_length
  have hb3 : By (h 3) := by rw [h3]; exact hb
  refine D_get4 hb3 (by omega) (by omega) ?_
  rw [h3]
  rw [wI_wI, wI_id (z := u4 f (ha (t 1 jj) + 56)) (by omega) (by omega)]
  refine ⟨fun z => by omega, fun _ => ⟨fun _ => ?_, fun z => by omega⟩⟩
  show RunsI G 84 [vR 10, vI (ha (t 1 jj))] h _
  apply q_E_isReadOnly
  refine D_u2 hb3 (by omega) (by omega) ?_
  rw [h3, bA_1, ro']
  refine ⟨fun _ => ⟨Or.inl rfl, fun _ => ?_, fun z => absurd wI_0 z⟩, fun z => absurd wI_0 z⟩
  refine A_openFile v h3 h71 h72 q1 q (fun h5 ro g4 g5 g30 g27 o5 => ?_)
  have mme : mm 0 (u4 f (ha (t 1 jj) + 56)) (x2 + x3) = ln := by
    rw [mm_0, wI_id (z := u4 f (ha (t 1 jj) + 56)) (by omega) (by omega), wI_id (z := x2 + x3) (by omega) (by omega), el]
  rw [mme, hs_o _ _ _ _ _ (show (28 : Nat) ≠ 7 by decide), ro.1, wI_id (z := ln + 128 - 1) (by omega) (by omega), tdiv_pos (by omega), show (ln + 128 - 1) / 128 - (Kt t jj : Int) = (k : Int) by omega, wI_id (z := (k : Int)) (by omega) (by omega)]
  have g7 : ∀ k, k ≠ 4 → (hs h5 7 4 0) 7 k = h 7 k := fun k p => by rw [hs_k _ _ _ _ _ p, o5 7 (by decide)]
  have go' : ∀ o, ¬ (o = 7 ∨ (27 ≤ o ∧ o ≤ 31)) → (hs h5 7 4 0) o = h o := fun o p => by rw [hs_o _ _ _ _ _ (by omega)]; exact o5 o (by omega)
  have rog : Ro (hs h5 7 4 0) 28 29 (Kt t jj) (R jj) := by unfold Ro; rw [hs_o _ _ _ _ _ (by decide), hs_o _ _ _ _ _ (by decide)]; exact ro
  refine ⟨by decide, fun z => ?_, fun z => ?_⟩
  · refine beh _ (by omega) go' g7 (hs_same _ _ _ _) rog ?_ (by rw [hs_o _ _ _ _ _ (by decide)]; exact g4) ?_
    · have k0 : k = 0 := (by omega)
      subst k0
      exact ⟨by rw [hs_o _ _ _ _ _ (by decide)]; exact g30, Nat.zero_le _, fun i hi => absurd hi (Nat.not_lt_zero _)⟩
    · rw [hs_o _ _ _ _ _ (by decide), g5]
      unfold wRn
      rw [if_pos (by omega)]
  · refine G_choose (X := 0) (wr' := bR f (t 1 jj)) (by rw [hs_o _ _ _ _ _ (by decide), o5 3 (by decide)]; exact h3) (by rw [g7 1 (by decide)]; exact h71) (by rw [g7 3 (by decide)]; exact h73) (hs_same _ _ _ _) hb nn (by omega) (by omega) rog rr (by rw [hs_o _ _ _ _ _ (by decide)]; exact g4) (bR_01 _ _) kw (by rw [hs_o _ _ _ _ _ (by decide)]; exact g30) (by omega) (fun full b ob => ⟨fun _ => HF full b (fun k p => by rw [ob 7 (by decide) (by decide) (by decide)]; exact g7 k p) (fun o p => by rw [ob o (by omega) (by omega) (by omega)]; exact go' o p), fun y => absurd wI_0 y⟩) (fun kc b rfb b5 b4 ob => ⟨fun y => absurd y (by decide), fun _ => ?_⟩)
    refine beh b (fun _ => kc) (fun o p => by rw [ob o (by omega) (by omega) (by omega)]; exact go' o p) (fun k p => by rw [ob 7 (by decide) (by decide) (by decide)]; exact g7 k p) (by rw [ob 7 (by decide) (by decide) (by decide)]; exact hs_same _ _ _ _) (by unfold Ro; rw [ob 28 (by decide) (by decide) (by decide), ob 29 (by decide) (by decide) (by decide)]; exact rog) rfb b4 ?_
    rw [b5]
    unfold wRn
    rw [if_neg (by omega)]
end RWRI
