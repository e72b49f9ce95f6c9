/-! cut: the call -/
section TCUT
variable {f g : Nat → Int} {n root mp : Int} {t R : AH}
noncomputable def cu1 (f : Nat → Int) (t R : AH) (jj keep : Nat) (ln tm : Int) : Nat → Int := rly (so1 f) (ha (t 1 jj)) (ea (R (pt t jj)) (t 3 jj + 2)) (if keep = 0 then 0 else bR f (t 1 jj)) (if keep = 0 then 0 else R jj 0) ln tm
noncomputable def cu2 (f : Nat → Int) (t R : AH) (jj keep : Nat) (ln tm : Int) : Nat → Int := fzT (cu1 f t R jj keep ln tm) (R jj) (bR f (t 1 jj)) keep (Kt t jj)
noncomputable def cu3 (f : Nat → Int) (mp : Int) (t R : AH) (jj keep : Nat) (ln tm : Int) : Nat → Int := fbm (cu2 f t R jj keep ln tm) mp (R jj) keep (Kt t jj - keep)
theorem so1_bR (v : V f g n root mp t R) {jj : Nat} (q1 : 1 ≤ jj) (q : al t jj) : bR (so1 f) (t 1 jj) = bR f (t 1 jj) := by
  have cl := V_cl v q1 q
  have ra := ha_rng cl.1 (V_n v).2
  unfold bR
  rw [so1_hi f (by omega)]
theorem V_cu3 (v : V f g n root mp t R) {jj keep : Nat} (q1 : 1 ≤ jj) (q : al t jj) (nd : ¬ dirT f t jj) {ln tm : Int} (l0 : 0 ≤ ln ∧ ln ≤ u4 f (ha (t 1 jj) + 56)) (kk : (keep : Int) = (ln + 127) / 128) : V (cu3 f mp t R jj keep ln tm) g n root mp (tk t jj keep) (up R jj (R jj)) := by
  have cl := V_cl v q1 q
  have ra := ha_rng cl.1 (V_n v).2
  have e56 : u4 (so1 f) (ha (t 1 jj) + 56) = u4 f (ha (t 1 jj) + 56) := u4_cg (fun j _ _ => so1_hi f (by omega))
  have e4 : u2 (so1 f) (ha (t 1 jj) + 4) = u2 f (ha (t 1 jj) + 4) := u2_cg (so1_hi f (by omega)) (so1_hi f (by omega))
  have c := V_cut (V_so1 v) q1 q (fun z => nd (Or.inr (by unfold isD at z ⊢; rw [← e4]; exact z))) (ln := ln) (tm := tm) (by rw [e56]; exact l0) kk
  rw [so1_bR v q1 q] at c
  exact c
theorem cu3_hi (v : V f g n root mp t R) {jj keep : Nat} (q1 : 1 ≤ jj) (q : al t jj) {ln tm : Int} (kk : keep ≤ Kt t jj) {x : Int} (x0 : 1024 ≤ x) (xm : x < ca mp ∨ ca mp + 128 ≤ x) (xh : x < ha (t 1 jj) ∨ ha (t 1 jj) + 64 ≤ x ∨ x = ha (t 1 jj) + 4 ∨ x = ha (t 1 jj) + 5) : rd (cu3 f mp t R jj keep ln tm) x = rd f x := by
  have nn := V_n v
  have mpc := V_mp v
  have wa := V_at v q1 q
  unfold clu at mpc
  have rr : ∀ i, i < Kt t jj → 2 ≤ R jj i ∧ R jj i ≤ 101 := fun i hi => by
    have := (v.1.2.1 jj q i hi).1
    unfold clu at this
    omega
  unfold cu3 cu2 cu1
  rw [fbm_ne (by omega) (by omega) xm _ (fun i hi => rr _ (by omega)), fzT_hi rr x0]
  rcases xh with z | z | z | z
  · rw [rly_ne wa.1 (by omega) (by omega)]; exact so1_hi f (by omega)
  · rw [rly_ne wa.1 (by omega) (by omega)]; exact so1_hi f (by omega)
  · rw [z, rly_in wa.1 (by omega) (by omega) (by omega)]; exact so1_hi f (by omega)
  · rw [z, rly_in wa.1 (by omega) (by omega) (by omega)]; exact so1_hi f (by omega)
def CUr (f w1 w2 w3 w4 : Nat → Int) (A fi ni r : Int) (d' : Nat → Int) (f' n' : Int) : Prop := (r = -7 ∧ Fl 216 f w1 fi ni 0 d' f' n') ∨ ∃ d1 f1 n1, Fl 216 f w1 fi ni 1 d1 f1 n1 ∧ ((r = -7 ∧ Fl 216 w1 w2 f1 n1 0 d' f' n') ∨ ∃ d2 f2 n2 rr, Fl 216 w1 w2 f1 n1 1 d2 f2 n2 ∧ FRr w2 w3 w4 f2 n2 rr d' f' n' ∧ ((rr = 0 ∧ r = -7) ∨ (rr = 1 ∧ r = A)))
section
variable {G : GG} {h : AH}
theorem A_cut {P : Int → AH → Prop} {x2 : Int} {jj keep : Nat} (sy : Syn h) (hf : 0 ≤ h 1 3 ∧ h 1 3 ≤ 1000) (v : V f g n root mp t R) (h3 : h 3 = f) (h71 : h 7 1 = n) (h72 : h 7 2 = root) (h73 : h 7 3 = mp) (hd : Hd f t R h) (q1 : 1 ≤ jj) (q : al t jj) (nd : ¬ dirT f t jj) (hx : in32 (t 1 jj)) (l0 : 0 ≤ x2 ∧ x2 ≤ u4 f (ha (t 1 jj) + 56)) (kk : (keep : Int) = (x2 + 127) / 128) (ro' : u2 f (ha (t 1 jj) + 4) % 2 = 0)
    (H : ∀ b r, CUr f (so1 f) (cu1 f t R jj keep x2 (h 26 5)) (cu2 f t R jj keep x2 (h 26 5)) (cu3 f mp t R jj keep x2 (h 26 5)) ((Kt t jj : Int) - keep) (h 1 3) (h 1 4) r (b 2) (b 1 3) (b 1 4) → Syn b → (r ≠ -7 → b 3 = cu3 f mp t R jj keep x2 (h 26 5)) → (∀ o, ¬ ((1 ≤ o ∧ o ≤ 4) ∨ (27 ≤ o ∧ o ≤ 30)) → b o = h o) → P r b) : RunsI G 7 [vR 26, vI (t 1 jj), vI x2] h P := by
  have nn := V_n v
  have wa := V_at v q1 q
  have ok := V_ln v q1 q
  have s3 := SetOK_3 ok
  have l56 := ok.2.2.1.1
  have cl := V_cl v q1 q
  have ra := ha_rng cl.1 nn.2
  have kn := V_K v q
  have mpc := V_mp v
  unfold clu at mpc
  have r1 := (v.2.2.1 jj q).1
  rw [rkP_n f _ (by omega)] at r1
  have keepK : keep ≤ Kt t jj := (by omega)
  have b01 : bR f (t 1 jj) = 0 ∨ bR f (t 1 jj) = 1 := by
    unfold bR
    split
    · exact Or.inr rfl
    · exact Or.inl rfl
  apply q_A_shorten
  refine T_isFile v h3 h71 hd hx (fun j2 j21 a2 d2 e2 => ⟨fun z => absurd z (by decide), fun _ => ?_⟩) (fun no => absurd (no jj q rfl) nd)
  apply q_T_headOf
  rw [wI_id (z := x2) (by omega) (by omega)]
  refine ⟨fun z => by omega, fun _ => ?_⟩
  show RunsI G 88 [vR 10, vI (ha (t 1 jj))] h _
  apply q_E_length
  have hb : By (h 3) := by rw [h3]; exact V_by v
  refine D_get4 hb (by omega) (by omega) ?_
  rw [h3, wI_wI, wI_id (z := u4 f (ha (t 1 jj) + 56)) (by omega) (by omega)]
  refine ⟨fun _ => ?_, fun z => by omega⟩
  show RunsI G 84 [vR 10, vI (ha (t 1 jj))] h _
  apply q_E_isReadOnly
  refine D_u2 hb (by omega) (by omega) ?_
  rw [h3, bA_1, ro']
  refine ⟨fun _ => ⟨Or.inl rfl, fun _ => ?_, fun z => absurd wI_0 z⟩, fun z => absurd wI_0 z⟩
  refine A_openFile v h3 h71 h72 q1 q (fun h5 ro g4 g5 g30 g27 o5 => ⟨by decide, ?_⟩)
  have sy5 : Syn h5 := by unfold Syn Dk at *; rw [o5 2 (by decide), o5 3 (by decide), o5 4 (by decide)]; exact sy
  have h51 : h5 1 = h 1 := o5 1 (by decide)
  have h53 : h5 3 = f := (o5 3 (by decide)).trans h3
  refine A_soil sy5 (by rw [h51]; exact hf) (fun r b fl r01 syb e3 kb ob => ?_)
  rw [h53, h51] at fl
  rw [h53] at e3
  have oo : ∀ o, ¬ ((1 ≤ o ∧ o ≤ 4) ∨ (27 ≤ o ∧ o ≤ 30)) → b o = h o := fun o p => (ob o (by omega) (by omega) (by omega) (by omega)).trans (o5 o (by omega))
  rcases r01 with z | z
  · subst z
    exact ⟨fun _ => H b (-7) (Or.inl ⟨rfl, fl⟩) syb (fun y => absurd rfl y) oo, fun y => absurd wI_0 y⟩
  · subst z
    refine ⟨fun y => absurd y (by decide), fun _ => ?_⟩
    have b3 := e3 rfl
    have bf := Fl_f hf fl
    have bd : ∀ k, k < 13824 → b 2 k = so1 f k := Fl_1 fl
    have b27 : b 27 4 = bR f (t 1 jj) := by rw [ob 27 (by decide) (by decide) (by decide) (by decide)]; exact g4
    have rob : Ro b 28 29 (Kt t jj) (R jj) := by unfold Ro; rw [ob 28 (by decide) (by decide) (by decide) (by decide), ob 29 (by decide) (by decide) (by decide) (by decide)]; exact ro
    rw [ro.1, wI_id (z := x2 + 128 - 1) (by omega) (by omega), tdiv_pos (by omega), show (x2 + 128 - 1) / 128 = (keep : Int) by omega, wI_id (z := (keep : Int)) (by omega) (by omega), b27, wI_id (z := bR f (t 1 jj)) (by omega) (by omega)]
    have c135 : ∀ rn fs, rn = (if keep = 0 then 0 else bR f (t 1 jj)) → fs = (if keep = 0 then 0 else R jj 0) → Go G (pI P) 7 135 [some (vR 26), none, some (vI x2), none, some (vI (keep : Int)), some (vI ((Kt t jj : Int) - keep))] [vI fs, vI rn, vI (t 1 jj), vR 26] b := by
      intro rn fs ern efs
      have rn01 : rn = 0 ∨ rn = 1 := by
        rw [ern]
        split
        · exact Or.inl rfl
        · exact b01
      have hdb : Hd f t R b := by
        unfold Hd at hd ⊢
        rw [oo 12 (by decide), oo 13 (by decide)]
        exact hd
      apply q_A_shorten_c135
      refine A_relay v hdb syb.1 bf q1 q rn01 (by rw [b3, so1_hi f (by omega)]; omega) (fun r2 c fl2 r201 syc e3c oc => ?_)
      have w2e : rly (b 3) (ha (t 1 jj)) (ea (R (pt t jj)) (t 3 jj + 2)) rn fs x2 (b 26 5) = cu1 f t R jj keep x2 (h 26 5) := by
        unfold cu1
        rw [b3, oo 26 (by decide), ern, efs]
      rw [w2e] at fl2 e3c
      have fl2' := Fl_cg (Nat.le_refl _) bd (fun _ _ => rfl) fl2
      have co : ∀ o, ¬ ((1 ≤ o ∧ o ≤ 4) ∨ (27 ≤ o ∧ o ≤ 30)) → c o = h o := fun o p => (oc o (by omega) (by omega) (by omega) (by omega)).trans (oo o p)
      rcases r201 with z | z
      · subst z
        exact ⟨fun _ => H c (-7) (Or.inr ⟨_, _, _, fl, Or.inl ⟨rfl, fl2'⟩⟩) syc (fun y => absurd rfl y) co, fun y => absurd wI_0 y⟩
      · subst z
        refine ⟨fun y => absurd y (by decide), fun _ => ?_⟩
        have c3 := e3c rfl
        have c7 : c 7 = h 7 := co 7 (by decide)
        have roc : Ro c 28 29 (Kt t jj) (R jj) := by unfold Ro; rw [oc 28 (by decide) (by decide) (by decide) (by decide), oc 29 (by decide) (by decide) (by decide) (by decide)]; exact rob
        refine G_free (w := cu1 f t R jj keep x2 (h 26 5)) (wr' := bR f (t 1 jj)) syc c3 (Fl_f bf fl2') (by rw [c7, h71]; exact nn) (by rw [c7, h73]; omega) roc (fun i hi => by rw [c7, h71]; exact (v.1.2.1 jj q i hi).1) (by rw [oc 27 (by decide) (by decide) (by decide) (by decide)]; exact b27) b01 keepK (fun rr d fr rr01 syd e3d od => ?_)
        rw [c7, h73] at fr e3d
        have doo : ∀ o, ¬ ((1 ≤ o ∧ o ≤ 4) ∨ (27 ≤ o ∧ o ≤ 30)) → d o = h o := fun o p => (od o (by omega) (by omega) (by omega) (by omega)).trans (co o p)
        rcases rr01 with z | z
        · subst z
          exact ⟨fun _ => H d (-7) (Or.inr ⟨_, _, _, fl, Or.inr ⟨_, _, _, 0, fl2', fr, Or.inl ⟨rfl, rfl⟩⟩⟩) syd (fun y => absurd rfl y) doo, fun y => absurd wI_0 y⟩
        · subst z
          exact ⟨fun y => absurd y (by decide), fun _ => H d _ (Or.inr ⟨_, _, _, fl, Or.inr ⟨_, _, _, 1, fl2', fr, Or.inr ⟨rfl, rfl⟩⟩⟩) syd (fun _ => e3d rfl) doo⟩
    have c115 : ∀ rn, rn = (if keep = 0 then 0 else bR f (t 1 jj)) → Go G (pI P) 7 115 [some (vR 26), none, some (vI x2), none, some (vI (keep : Int)), some (vI ((Kt t jj : Int) - keep))] [vI rn, vI (t 1 jj), vR 26] b := by
      intro rn ern
      apply q_A_shorten_c115
      rw [wI_id (z := (keep : Int)) (by omega) (by omega)]
      refine ⟨fun z => c135 rn 0 ern (by rw [if_pos (by omega)]), fun z => C_at_28 rob (by omega) (by omega) (c135 rn _ ern (by rw [if_neg (by omega)]; rfl))⟩
    refine ⟨fun z => c115 0 (by rw [if_pos (by omega)]), fun z => ⟨fun y => c115 0 (by rw [if_neg (by omega), y]), fun y => c115 1 (by rw [if_neg (by omega)]; omega)⟩⟩
theorem M_cut {P : Int → AH → Prop} {x1 x2 r f' n' : Int} {jj keep : Nat} {d' : Nat → Int} (v : V f g n root mp t R) (X : RX f g n root h) (hm : h 34 2 = mp) (h6 : Sb (h 36)) (h3 : h 34 3 = 1) (hf : 0 ≤ h 34 5 ∧ h 34 5 ≤ 1000) (q1 : 1 ≤ jj) (q : al t jj) (nd : ¬ dirT f t jj) (e : t 1 jj = x1) (hx : in32 x1) (l0 : 0 ≤ x2 ∧ x2 ≤ u4 f (ha (t 1 jj) + 56)) (kk : (keep : Int) = (x2 + 127) / 128) (ro' : u2 f (ha (t 1 jj) + 4) % 2 = 0)
    (br : CUr f (so1 f) (cu1 f t R jj keep x2 (h 34 4)) (cu2 f t R jj keep x2 (h 34 4)) (cu3 f mp t R jj keep x2 (h 34 4)) ((Kt t jj : Int) - keep) (h 34 5) (h 34 6) r d' f' n')
    (H : ∀ b, Sb (b 35) → Sb (b 36) → (∀ k, k < 13824 → ub (b 35) k = d' k) → b 34 5 = f' → b 34 6 = n' → b 34 3 = (if r = -7 then 0 else 1) → (∀ k, ((k ≤ 2 ∨ k = 4) ∨ (9 ≤ k ∧ k ≤ 11) ∨ k = 41) → b 34 k = h 34 k) → (∀ o, ¬ ((34 ≤ o ∧ o ≤ 36) ∨ (39 ≤ o ∧ o ≤ 49) ∨ (53 ≤ o ∧ o ≤ 59)) → b o = h o) → P r b) : RunsI G 266 [vR 34, vI x1, vI x2] h P := by
  have nn := V_n v
  have wa := V_at v q1 q
  have ok := V_ln v q1 q
  have s3 := SetOK_3 ok
  have l56 := ok.2.2.1.1
  have v1 := V_so1 v
  have wp := v.1.2.2.2.1 jj q1 q
  have kn := V_K v q
  have cl := V_cl v q1 q
  have ra := ha_rng cl.1 nn.2
  have mpc := V_mp v
  unfold clu at mpc
  have r1 := (v.2.2.1 jj q).1
  rw [rkP_n f _ (by omega)] at r1
  have keepK : keep ≤ Kt t jj := (by omega)
  have rr' : ∀ i, i < Kt t jj → 2 ≤ R jj i ∧ R jj i ≤ 101 := fun i hi => by
    have := (v.1.2.1 jj q i hi).1
    unfold clu at this
    omega
  have b01 : bR f (t 1 jj) = 0 ∨ bR f (t 1 jj) = 1 := by
    unfold bR
    split
    · exact Or.inr rfl
    · exact Or.inl rfl
  have eb : wI (bR f (t 1 jj)) = bR f (t 1 jj) := by rcases b01 with y | y <;> rw [y] <;> decide
  have nb1 : ¬ bR f (t 1 jj) = 0 → 1 = bR f (t 1 jj) := fun y => by rcases b01 with z | z; exact absurd z y; exact z.symm
  have hs1 : ∀ x : Int, 512 ≤ x → rd (so1 f) x = rd f x := fun x p => so1_hi f p
  apply q_M_cut
  rw [h3]
  refine ⟨fun z => absurd z (by decide), fun _ => ?_⟩
  refine M_fileAt v X hx (fun b z k j2 Z hk a2 e2 ez k2 k0 dd fr => ?_) (fun b no fr => absurd (no jj q e) nd)
  have ej : j2 = jj := V_inj v a2 q (e2.trans e.symm)
  subst ej
  have k1 : 1 ≤ k := (by omega)
  obtain ⟨kp, p42, pk, pp, p43, p44, p46, p47, p48, p49, _⟩ := ZR_par v Z hk a2 (by rw [e2, ez]) k1
  have Xb := RX_congr fr X
  have NN : z 1 0 ≤ n + 1 := by obtain ⟨k', S, _⟩ := Z; exact SI_N S (by omega)
  have kp0 : kp = 0 ↔ pt t j2 = 0 := by obtain ⟨k', S, kl, L, A⟩ := Z; exact SL_0 v S wp.1 pk pp
  have parr : 1 ≤ kp → b 46 kp = bR f (t 1 (pt t j2)) ∧ b 47 kp = u4 f (ha (t 1 (pt t j2)) + 56) ∧ b 48 kp = u4 f (ha (t 1 (pt t j2)) + 52) := fun kp1 => by
    obtain ⟨k', S, kl, L, A⟩ := id Z
    obtain ⟨g1, g2, g3, g4, g5, g6, g7⟩ := A.2.2.2 kp kp1 pk
    rw [g4, g5, g6, ← pp]
    exact ⟨rfl, rfl, rfl⟩
  rw [wI_id (z := (k : Int)) (by omega) (by omega), show (k : Int).toNat = k by omega, p47, wI_id (z := x2) (by omega) (by omega)]
  refine ⟨fun y => by omega, fun _ => ⟨by omega, ?_⟩⟩
  refine M_in (by omega) (by omega) (by omega) (fun _ _ => ⟨fun y => absurd y (by decide), fun _ => ⟨by omega, ?_⟩⟩) (fun no => absurd l0 no)
  rw [p49, bA_1, ro']
  refine ⟨fun _ => ?_, fun y => absurd wI_0 y⟩
  refine M_noPlans (fun c0 np nr oc0 => ?_)
  refine M_beginWrite (by rw [oc0 35 (by decide)]; exact Xb.1) (by rw [oc0 36 (by decide), fr.1 36 (by decide)]; exact h6) (fun c c6 cE oc => ?_)
  rw [oc0 35 (by decide)] at cE
  have cE' : E (ub (c 36)) f := cE.tr Xb.2.1
  have cb : ∀ o, ¬ (o = 36 ∨ o = 54 ∨ (56 ≤ o ∧ o ≤ 59)) → c o = b o := fun o p => (oc o (by omega)).trans (oc0 o (by omega))
  refine M_planFor (p := 0) v (by rw [cb 35 (by decide)]; exact Xb.2.1) (by rw [cb 34 (by decide)]; exact Xb.2.2.2.1) q k0 k2 (fun _ => by rw [cb 46 (by decide), cb 47 (by decide), cb 48 (by decide)]; exact ⟨p46, p47, p48⟩) (by rw [cb 46 (by decide), p46]; exact b01) (by decide) (fun h5 e54 e53 e57 e58 eo e53' k5 o5 => ⟨by decide, by decide, ?_⟩)
  rw [cb 46 (by decide), p46] at e57
  have h5b : ∀ o, ¬ (o = 34 ∨ o = 36 ∨ o = 39 ∨ (53 ≤ o ∧ o ≤ 59)) → h5 o = b o := fun o p => (o5 o (by omega)).trans (cb o (by omega))
  have h5k : ∀ k, ¬ ((17 ≤ k ∧ k ≤ 24) ∨ k = 34) → h5 34 k = h 34 k := fun k p => by rw [k5 k (by omega), cb 34 (by decide)]; exact fr.2 k p
  refine M_dirty (f := f) (by rw [h5b 35 (by decide)]; exact Xb.1) (by rw [o5 36 (by decide)]; exact c6) (by rw [h5b 35 (by decide)]; exact Xb.2.1) (by rw [o5 36 (by decide)]; exact cE') (by rw [h5k 5 (by decide)]; exact hf) (fun r1' d fl r01 d5 d6 dW d3 dk od => ?_)
  rw [h5k 5 (by decide), h5k 6 (by decide)] at fl
  have dkk : ∀ k, ((k ≤ 2 ∨ k = 4) ∨ (9 ≤ k ∧ k ≤ 11) ∨ k = 41) → d 34 k = h 34 k := fun k p => by rw [dk k (by omega) (by omega) (by omega)]; exact h5k k (by omega)
  have doo : ∀ o, ¬ ((34 ≤ o ∧ o ≤ 36) ∨ (39 ≤ o ∧ o ≤ 49) ∨ (53 ≤ o ∧ o ≤ 59)) → d o = h o := fun o p => by rw [od o (by omega) (by omega) (by omega), h5b o (by omega)]; exact fr.1 o (by omega)
  have darr : ∀ o, 41 ≤ o → o ≤ 49 → d o = b o := fun o p p' => by rw [od o (by omega) (by omega) (by omega)]; exact h5b o (by omega)
  have dpl : ∀ o, 53 ≤ o → o ≤ 59 → d o = h5 o := fun o p p' => od o (by omega) (by omega) (by omega)
  rcases br with ⟨rv, fl0⟩ | ⟨d1, f1, n1, fl1, br⟩
  · obtain ⟨t1, t2, t3, t4⟩ := Fl_det (Nat.le_refl _) (fun _ _ => rfl) (fun _ _ => rfl) fl fl0
    subst t1
    rw [rv] at H
    exact ⟨fun _ => H d d5 d6 t2 t3 t4 (by rw [d3, if_neg (by decide), if_pos rfl]) dkk doo, fun y => absurd wI_0 y⟩
  obtain ⟨t1, t2, t3, t4⟩ := Fl_det (Nat.le_refl _) (fun _ _ => rfl) (fun _ _ => rfl) fl fl1
  subst t1
  refine ⟨fun y => absurd y (by decide), fun _ => ?_⟩
  have dE : E (ub (d 35)) (so1 f) := fun k hk => (t2 k hk).trans (Fl_1 fl1 k hk)
  have d31 : d 34 3 = 1 := by rw [d3, if_pos rfl, h5k 3 (by decide)]; exact h3
  rw [e54, wI_id (z := x2 + 127) (by omega) (by omega), tdiv_pos (by omega), ← kk, wI_id (z := (keep : Int)) (by omega) (by omega), dpl 53 (by omega) (by omega)]
  have c136 : ∀ rn fs, rn = (if keep = 0 then 0 else bR f (t 1 j2)) → fs = (if keep = 0 then 0 else R j2 0) → Go G (pI P) 266 136 [some (vR 34), none, none, none, some (vI (keep : Int)), some (vI ((Kt t j2 : Int) - keep))] [vI rn, vI fs, vL x2, vI (k : Int), vR 34] d := by
    intro rn fs ern efs
    have rn01 : rn = 0 ∨ rn = 1 := by
      rw [ern]
      split
      · exact Or.inl rfl
      · exact b01
    have fs0 : 0 ≤ fs ∧ fs ≤ 1000 := by
      rw [efs]
      split
      · decide
      · have := rr' 0 (by omega)
        omega
    apply q_M_cut_c136
    refine M_changeSet v1 d6 dE dW (by rw [dkk 1 (by omega)]; exact X.2.2.2.1) q1 q k2 (by rw [darr 42 (by omega) (by omega)]; exact p42) (by rw [darr 43 (by omega) (by omega)]; exact p43) (by rw [darr 44 (by omega) (by omega), p44, hs1 _ (by omega)]) kp0 (by omega) (fun kp1 => ?_) rn01 (by omega) fs0 (fun c2 c26 c2W k6 o6 => ?_)
    · have pa := parr kp1
      have jp1 : 1 ≤ pt t j2 := Nat.pos_of_ne_zero (fun y => absurd (kp0.mpr y) (Nat.ne_of_gt kp1))
      have pcl := V_cl v jp1 wp.1
      have pra := ha_rng pcl.1 nn.2
      rw [darr 46 (by omega) (by omega), darr 47 (by omega) (by omega), darr 48 (by omega) (by omega), pa.1, pa.2.1, pa.2.2]
      refine ⟨(so1_bR v jp1 wp.1).symm, ?_, ?_⟩
      · exact (u4_cg (fun x _ _ => hs1 _ (by omega))).symm
      · exact (u4_cg (fun x _ _ => hs1 _ (by omega))).symm
    · have w2e : rly (so1 f) (ha (t 1 j2)) (ea (R (pt t j2)) (t 3 j2 + 2)) rn fs x2 (d 34 4) = cu1 f t R j2 keep x2 (h 34 4) := by
        unfold cu1
        rw [dkk 4 (by omega), ern, efs]
      rw [w2e] at c2W
      have c25 : c2 35 = d 35 := o6 35 (by decide) (by decide) (by decide)
      refine M_flush (by rw [c25]; exact d5) c26 (by rw [k6 5 (by decide), t3]; exact Fl_f hf fl1) (fun r2 e' fl2 r201 e5 e6 e3' ek oe => ?_)
      rw [c25, k6 5 (by decide), k6 6 (by decide), t3, t4] at fl2
      have ekk : ∀ k, ((k ≤ 2 ∨ k = 4) ∨ (9 ≤ k ∧ k ≤ 11) ∨ k = 41) → e' 34 k = h 34 k := fun k p => by rw [ek k (by omega) (by omega) (by omega), k6 k (by omega)]; exact dkk k p
      have eoo : ∀ o, ¬ ((34 ≤ o ∧ o ≤ 36) ∨ (39 ≤ o ∧ o ≤ 49) ∨ (53 ≤ o ∧ o ≤ 59)) → e' o = h o := fun o p => by rw [oe o (by omega) (by omega), o6 o (by omega) (by omega) (by omega)]; exact doo o p
      have epl : ∀ o, 53 ≤ o → o ≤ 59 → e' o = h5 o := fun o p p' => by rw [oe o (by omega) (by omega), o6 o (by omega) (by omega) (by omega)]; exact dpl o p p'
      rcases br with ⟨rv, flb⟩ | ⟨dd2, f2, n2, rr, flb, frr, fin⟩
      · obtain ⟨s1, s2, s3', s4⟩ := Fl_det (Nat.le_refl _) dE c2W fl2 flb
        subst s1
        rw [rv] at H
        exact ⟨fun _ => H e' e5 (by rw [e6]; exact c26) s2 s3' s4 (by rw [e3', if_neg (by decide), if_pos rfl]) ekk eoo, fun y => absurd wI_0 y⟩
      · obtain ⟨s1, s2, s3', s4⟩ := Fl_det (Nat.le_refl _) dE c2W fl2 flb
        subst s1
        refine ⟨fun y => absurd y (by decide), fun _ => ?_⟩
        have eE : E (ub (e' 35)) (cu1 f t R j2 keep x2 (h 34 4)) := fun k hk => (s2 k hk).trans (Fl_1 flb k hk)
        have em : e' 34 2 = mp := by rw [ekk 2 (by omega)]; exact hm
        refine M_frees (K := Kt t j2) (r := R j2) (w := cu1 f t R j2 keep x2 (h 34 4)) (wr' := bR f (t 1 j2)) (rr := rr) e5 (by rw [e6]; exact c26) eE (by rw [e6]; exact c2W) (by rw [s3']; exact Fl_f (Fl_f hf fl1) flb) (by rw [em]; omega) (by rw [epl 54 (by omega) (by omega)]; exact e54) (fun i hi => by rw [epl 53 (by omega) (by omega)]; have := e53 i hi; rw [show 102 * 0 + i = i by omega] at this; exact this) (by omega) rr' (fun i j p p' y => by have := (v.1.2.2.1 j2 j2 i j q q (by omega) p' y).2; omega) (by rw [epl 57 (by omega) (by omega)]; exact e57) b01 keepK (by rw [em, s3', s4]; exact frr) (fun g1 g5 g6 gd gf gn g3 gk og => ?_)
        have gkk : ∀ k, ((k ≤ 2 ∨ k = 4) ∨ (9 ≤ k ∧ k ≤ 11) ∨ k = 41) → g1 34 k = h 34 k := fun k p => by rw [gk k (by omega) (by omega) (by omega)]; exact ekk k p
        have goo : ∀ o, ¬ ((34 ≤ o ∧ o ≤ 36) ∨ (39 ≤ o ∧ o ≤ 49) ∨ (53 ≤ o ∧ o ≤ 59)) → g1 o = h o := fun o p => by rw [og o (by omega) (by omega) (by omega)]; exact eoo o p
        have e31 : e' 34 3 = 1 := by rw [e3', if_pos rfl, k6 3 (by decide)]; exact d31
        rcases fin with ⟨y1, y2⟩ | ⟨y1, y2⟩
        · rw [y1] at g3 ⊢
          rw [y2] at H
          exact ⟨fun _ => H g1 g5 g6 gd gf gn (by rw [g3, if_neg (by decide), if_pos rfl]) gkk goo, fun y => absurd wI_0 y⟩
        · rw [y1] at g3 ⊢
          rw [y2] at H
          exact ⟨fun y => absurd y (by decide), fun _ => H g1 g5 g6 gd gf gn (by rw [g3, if_pos rfl, if_neg (by omega)]; exact e31) gkk goo⟩
  have c117 : ∀ fs, fs = (if keep = 0 then 0 else R j2 0) → Go G (pI P) 266 117 [some (vR 34), none, none, none, some (vI (keep : Int)), some (vI ((Kt t j2 : Int) - keep))] [vI fs, vL x2, vI (k : Int), vR 34] d := by
    intro fs efs
    apply q_M_cut_c117
    rw [wI_id (z := (keep : Int)) (by omega) (by omega), dpl 57 (by omega) (by omega), e57, eb]
    refine ⟨fun y => c136 0 fs (by rw [if_pos (by omega)]) efs, fun y => ⟨by decide, fun y2 => c136 0 fs (by rw [if_neg (by omega), y2]) efs, fun y2 => c136 1 fs (by rw [if_neg (by omega)]; exact nb1 y2) efs⟩⟩
  refine ⟨fun y => c117 0 (by rw [if_pos (by omega)]), fun y => ⟨by decide, c117 _ ?_⟩⟩
  rw [if_neg (by omega)]
  have := e53 0 (by omega)
  rw [show 102 * 0 + 0 = 0 by omega] at this
  exact this
end
end TCUT
