/-! cut -/
section TCUT2
variable {G : GG} {h : AH}
theorem T_cut (hI : Inv Mo h) {x1 x2 : Int} (hx : in32 x1) (hy : in32 x2) : okI G (Inv Mo) 154 266 [vI x1, vI x2] h := by
  obtain ⟨⟨c1, c2, c3, c4⟩, _⟩ := id hI
  have e34 := c2.2.2.2.1
  rcases c2.2.2.2.2.1 with h8 | h8
  · exact O_cut hI h8
  obtain ⟨t, R, v, hd, X, gr, m2⟩ := Mo_get hI h8
  have hy' := hy
  unfold in32 at hy'
  have nn := V_n v
  apply q_V_cut
  rw [h8]
  refine ⟨fun z => absurd z (by decide), fun _ => ?_⟩
  have set1 : ∀ (r : Int) (b : AH), wI r ≠ -7 → RunsI G 266 [vR 34, vI x1, vI x2] b (fun r2 h2 => wI r = wI r2 ∧ Inv Mo h2) → RunsI G 163 [vR 0, vI r] b (fun r2 h2 => RunsI G 266 [vR 34, vI x1, vI x2] h2 (fun r3 h3 => wI r2 = wI r3 ∧ Inv Mo h3)) := by
    intro r b rn k
    apply q_V_settled
    exact ⟨fun z => absurd z rn, fun _ => k⟩
  by_cases ex : ∃ jj, 1 ≤ jj ∧ al t jj ∧ t 1 jj = x1 ∧ ¬ dirT (h 3) t jj
  · obtain ⟨jj, q1, q, e, nd⟩ := ex
    have wa := V_at v q1 q
    have ok := V_ln v q1 q
    have l56 := ok.2.2.1.1
    have cl := V_cl v q1 q
    have ra := ha_rng cl.1 nn.2
    have hf := V_by v
    have u5 := u4_rng hf (show 0 ≤ ha (t 1 jj) + 56 by omega) (show ha (t 1 jj) + 56 + 3 < 13824 by omega)
    have hx' := hx
    rw [← e] at hx' set1 ⊢
    by_cases good : (0 ≤ x2 ∧ x2 ≤ u4 (h 3) (ha (t 1 jj) + 56)) ∧ u2 (h 3) (ha (t 1 jj) + 4) % 2 = 0
    · obtain ⟨l0, ro'⟩ := good
      obtain ⟨keep, kk⟩ : ∃ keep : Nat, (keep : Int) = (x2 + 127) / 128 := ⟨((x2 + 127) / 128).toNat, by omega⟩
      have r1 := (v.2.2.1 jj q).1
      rw [rkP_n (h 3) _ (by omega)] at r1
      have keepK : keep ≤ Kt t jj := (by omega)
      refine A_cut (x2 := x2) (keep := keep) c1.1 c2.2.1 v rfl rfl rfl rfl hd q1 q nd hx' l0 kk ro' (fun b r br sy e3 ob => ?_)
      have kn := V_K v q
      have rr : -7 ≤ r ∧ r ≤ 200 := by
        rcases br with ⟨z, _⟩ | ⟨_, _, _, _, ⟨z, _⟩ | ⟨_, _, _, _, _, _, ⟨_, z⟩ | ⟨_, z⟩⟩⟩ <;> omega
      have fin : ∀ b2 : AH, (∀ o, o ≠ 0 → b2 o = b o) → b2 0 8 = (if r = -7 then 0 else 1) → RunsI G 266 [vR 34, vI (t 1 jj), vI x2] b2 (fun r2 h2 => wI r = wI r2 ∧ Inv Mo h2) := by
        intro b2 ob2 b08
        have bo : ∀ o, ¬ ((o ≤ 4) ∨ (27 ≤ o ∧ o ≤ 30)) → b2 o = h o := fun o p => by rw [ob2 o (by omega)]; exact ob o (by omega)
        have X2 : RX (h 3) (h 9) (h 7 1) (h 7 2) b2 := by unfold RX at *; rw [bo 35 (by decide), bo 38 (by decide), bo 34 (by decide)]; exact X
        have tme : h 26 5 = b2 34 4 := by rw [bo 34 (by decide)]; exact c2.2.2.2.2.2
        have br2 : CUr (h 3) (so1 (h 3)) (cu1 (h 3) t R jj keep x2 (b2 34 4)) (cu2 (h 3) t R jj keep x2 (b2 34 4)) (cu3 (h 3) (h 7 3) t R jj keep x2 (b2 34 4)) ((Kt t jj : Int) - keep) (b2 34 5) (b2 34 6) r (b 2) (b 1 3) (b 1 4) := by
          rw [← tme, bo 34 (by decide), ← c2.1, ← c2.2.2.1]
          exact br
        refine M_cut v X2 (by rw [bo 34 (by decide)]; exact m2) (by rw [bo 36 (by decide)]; exact c1.2.2.1) (by rw [bo 34 (by decide), ← e34]; exact h8) (by rw [bo 34 (by decide), ← c2.1]; exact c2.2.1) q1 q nd rfl hx' l0 kk ro' br2 (fun c c5 c6 cd cf cn' cm ck oc => ⟨rfl, ?_⟩)
        have co : ∀ o, ¬ ((o ≤ 4) ∨ (27 ≤ o ∧ o ≤ 30)) → ¬ ((34 ≤ o ∧ o ≤ 36) ∨ (39 ≤ o ∧ o ≤ 49) ∨ (53 ≤ o ∧ o ≤ 59)) → c o = h o := fun o p p' => by rw [oc o p']; exact bo o p
        have cl' : ∀ o, 1 ≤ o → o ≤ 4 → c o = b o := fun o p p' => by rw [oc o (by omega)]; exact ob2 o (by omega)
        have c0 : c 0 8 = (if r = -7 then 0 else 1) := by rw [oc 0 (by decide)]; exact b08
        have bf : 0 ≤ b 1 3 ∧ b 1 3 ≤ 1000 := by
          rcases br with ⟨_, fl⟩ | ⟨_, _, _, fl, ⟨_, fl2⟩ | ⟨_, _, _, _, fl2, ⟨_, fl3⟩ | ⟨_, _, _, fl3, fl4⟩, _⟩⟩
          · exact Fl_f c2.2.1 fl
          · exact Fl_f (Fl_f c2.2.1 fl) fl2
          · exact Fl_f (Fl_f (Fl_f c2.2.1 fl) fl2) fl3
          · exact Fl_f (Fl_f (Fl_f (Fl_f c2.2.1 fl) fl2) fl3) fl4
        refine Inv_mk hI ?_ c5 c6 (fun k hk => ?_) (by rw [cl' 1 (by omega) (by omega), cf]) (by rw [cl' 1 (by omega) (by omega)]; exact bf) (by rw [cl' 1 (by omega) (by omega), cn']) (by rw [c0, cm]) ?_ (by rw [co 26 (by decide) (by decide)]) (by rw [co 32 (by decide) (by decide)]) (co 33 (by decide) (by decide)) (co 52 (by decide) (by decide)) (co 17 (by decide) (by decide)) (fun k p => by rw [ck k (by omega), bo 34 (by decide)]) (fun c08 => ?_)
        · unfold Syn Dk at *
          rw [cl' 2 (by omega) (by omega), cl' 3 (by omega) (by omega), cl' 4 (by omega) (by omega)]
          exact sy
        · rw [cl' 2 (by omega) (by omega)]; exact (cd k hk).symm
        · rw [c0]
          split
          · exact Or.inl rfl
          · exact Or.inr rfl
        · have rne : r ≠ -7 := fun z => by rw [c0, if_pos z] at c08; exact absurd c08 (by decide)
          have w3 := e3 rne
          have vn := V_cu3 v q1 q nd (tm := h 26 5) l0 kk
          have mpc := V_mp v
          unfold clu at mpc
          refine ⟨tk t jj keep, up R jj (R jj), ?_, ?_, ?_, ?_, ?_, ?_, ?_⟩
          · rw [cl' 3 (by omega) (by omega), w3, co 9 (by decide) (by decide), co 7 (by decide) (by decide)]
            exact vn
          · rw [cl' 3 (by omega) (by omega), w3]
            have vd : ∀ j, al t j → (dirT (cu3 (h 3) (h 7 3) t R jj keep x2 (h 26 5)) (tk t jj keep) j ↔ dirT (h 3) t j) := fun j a => by
              show (j = 0 ∨ isD _ (ha (t 1 j))) ↔ (j = 0 ∨ isD _ (ha (t 1 j)))
              by_cases z0 : j = 0
              · exact ⟨fun _ => Or.inl z0, fun _ => Or.inl z0⟩
              · have clj := V_cl v (j := j) (by omega) a
                have raj := ha_rng clj.1 nn.2
                have hdj := V_hd v (j := j) (by omega) a
                have nm := (v.1.2.1 _ (v.1.2.2.2.1 j (by omega) a).1 _ hdj.2.2.1).2
                have ncl := (v.1.2.1 _ (v.1.2.2.2.1 j (by omega) a).1 _ hdj.2.2.1).1
                unfold clu at ncl
                have far : ha (t 1 j) + 64 ≤ ca (h 7 3) ∨ ca (h 7 3) + 128 ≤ ha (t 1 j) := by unfold ca at hdj ⊢; omega
                unfold isD
                have e4 : u2 (cu3 (h 3) (h 7 3) t R jj keep x2 (h 26 5)) (ha (t 1 j) + 4) = u2 (h 3) (ha (t 1 j) + 4) := by
                  by_cases z : j = jj
                  · subst z
                    exact u2_cg (cu3_hi v q1 q keepK (by omega) (by omega) (by omega)) (cu3_hi v q1 q keepK (by omega) (by omega) (by omega))
                  · have hh := V_hh v (j := j) (by omega) a q1 q z
                    exact u2_cg (cu3_hi v q1 q keepK (by omega) (by omega) (by omega)) (cu3_hi v q1 q keepK (by omega) (by omega) (by omega))
                rw [e4]
            refine Hd_keep hd (fun j => Iff.rfl) vd (fun j a d => ?_) (fun j => rfl) (co 12 (by decide) (by decide)) (co 13 (by decide) (by decide))
            have z : j ≠ jj := fun y => nd (by rw [← y]; exact d)
            exact ⟨tk_Kn z, fun i hi => by rw [up_n _ _ z]⟩
          · rw [co 38 (by decide) (by decide), co 9 (by decide) (by decide)]; exact X.2.2.2.2.1
          · rw [co 9 (by decide) (by decide)]; exact gr
          · rw [ck 0 (by omega), bo 34 (by decide), co 7 (by decide) (by decide)]; exact X.2.2.1
          · rw [ck 1 (by omega), bo 34 (by decide), co 7 (by decide) (by decide)]; exact X.2.2.2.1
          · rw [ck 2 (by omega), bo 34 (by decide), co 7 (by decide) (by decide)]; exact m2
      apply q_V_settled
      have wr' : wI r = r := wI_id (by omega) (by omega)
      refine ⟨fun z => ⟨Or.inl rfl, fin (hs b 0 8 0) (fun o p => hs_o _ _ _ _ _ p) (by rw [hs_same, if_pos (by rw [← wr']; exact z)])⟩, fun z => fin b (fun _ _ => rfl) (by rw [if_neg (by rw [← wr']; exact z), ob 0 (by decide)]; exact h8)⟩
    · have ref : ∀ r, ((¬ (0 ≤ x2 ∧ x2 ≤ u4 (h 3) (ha (t 1 jj) + 56)) ∧ r = -1) ∨ ((0 ≤ x2 ∧ x2 ≤ u4 (h 3) (ha (t 1 jj) + 56)) ∧ u2 (h 3) (ha (t 1 jj) + 4) % 2 ≠ 0 ∧ r = -5)) → RunsI G 266 [vR 34, vI (t 1 jj), vI x2] h (fun r2 h2 => wI r = wI r2 ∧ Inv Mo h2) := by
        intro r cs
        apply q_M_cut
        rw [← e34, h8]
        refine ⟨fun z => absurd z (by decide), fun _ => ?_⟩
        refine M_fileAt v X hx' (fun b z k j2 Z hk a2 e2 ez k2 k0 dd fr => ?_) (fun b no fr => absurd (no jj q rfl) nd)
        have ej : j2 = jj := V_inj v a2 q e2
        subst ej
        obtain ⟨kp, p42, pk, pp, p43, p44, p46, p47, p48, p49, _⟩ := ZR_par v Z hk a2 (by rw [ez]) (by omega)
        rw [wI_id (z := (k : Int)) (by omega) (by omega), show (k : Int).toNat = k by omega, p47, wI_id (z := x2) (by omega) (by omega)]
        refine ⟨fun y => by omega, fun _ => ⟨by omega, ?_⟩⟩
        refine M_in (by omega) (by omega) (by omega) (fun y1 y2 => ⟨fun y => absurd y (by decide), fun _ => ⟨by omega, ?_⟩⟩) (fun no => ⟨fun _ => ⟨?_, Inv_Q hI (FQ_n fr)⟩, fun y => absurd wI_0 y⟩)
        · rw [p49, bA_1, wI_id (z := u2 (h 3) (ha (t 1 j2) + 4) % 2) (by omega) (by omega)]
          rcases cs with ⟨y, _⟩ | ⟨_, y, rv⟩
          · exact absurd ⟨y1, y2⟩ y
          · exact ⟨fun x => absurd x y, fun _ => ⟨by rw [rv], Inv_Q hI (FQ_n fr)⟩⟩
        · rcases cs with ⟨_, rv⟩ | ⟨y, _⟩
          · rw [rv]
          · exact absurd y no
      apply q_A_shorten
      refine T_isFile v rfl rfl hd hx' (fun j2 j21 a2 d2 e2 => ⟨fun z => absurd z (by decide), fun _ => ?_⟩) (fun no => absurd (no jj q rfl) nd)
      apply q_T_headOf
      rw [wI_id (z := x2) (by omega) (by omega)]
      refine ⟨fun z => set1 (-1) h (by decide) (ref _ (Or.inl ⟨by omega, rfl⟩)), fun z => ?_⟩
      show RunsI G 88 [vR 10, vI (ha (t 1 jj))] h _
      apply q_E_length
      refine D_get4 hf (by omega) (by omega) ?_
      rw [wI_wI, wI_id (z := u4 (h 3) (ha (t 1 jj) + 56)) (by omega) (by omega)]
      refine ⟨fun y => ?_, fun y => set1 (-1) h (by decide) (ref _ (Or.inl ⟨by omega, rfl⟩))⟩
      show RunsI G 84 [vR 10, vI (ha (t 1 jj))] h _
      apply q_E_isReadOnly
      refine D_u2 hf (by omega) (by omega) ?_
      have nr : u2 (h 3) (ha (t 1 jj) + 4) % 2 ≠ 0 := fun w => good ⟨⟨by omega, by omega⟩, w⟩
      rw [bA_1, wI_id (z := u2 (h 3) (ha (t 1 jj) + 4) % 2) (by omega) (by omega)]
      refine ⟨fun w => absurd w nr, fun _ => ⟨Or.inr rfl, fun w => absurd w (by decide), fun _ => set1 (-5) h (by decide) (ref _ (Or.inr ⟨⟨by omega, by omega⟩, nr, rfl⟩))⟩⟩
  · have all : ∀ jj, al t jj → t 1 jj = x1 → dirT (h 3) t jj := fun jj a e => Classical.not_not.mp (fun z => ex ⟨jj, by
      by_cases y : jj = 0
      · exact absurd (Or.inl y) z
      · omega, a, e, z⟩)
    apply q_A_shorten
    refine T_isFile v rfl rfl hd hx (fun j2 j21 a2 d2 e2 => absurd (all j2 a2 e2) d2) (fun no => ⟨fun _ => set1 (-1) h (by decide) ?_, fun z => absurd wI_0 z⟩)
    apply q_M_cut
    rw [← e34, h8]
    refine ⟨fun z => absurd z (by decide), fun _ => ?_⟩
    refine M_fileAt v X hx (fun b z k j2 Z hk a2 e2 ez k2 k0 dd fr => absurd (all j2 a2 e2) dd) (fun b no fr => ⟨fun _ => ⟨rfl, Inv_Q hI (FQ_n fr)⟩, fun y => absurd (by decide) y⟩)
end TCUT2
