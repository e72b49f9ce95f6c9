/-! write -/
section TWRI
variable {G : GG} {h : AH}
theorem T_write (hI : Inv Mo h) {x1 x2 x3 x4 : Int} (hx : in32 x1) (hy : in32 x2) (hz : in32 x3) : okI G (Inv Mo) 153 264 [vI x1, vI x2, vI x3, vI x4] h := by
  obtain ⟨⟨c1, c2, c3, c4⟩, _⟩ := id hI
  have e34 := c2.2.2.2.1
  rcases c2.2.2.2.2.1 with h8 | h8
  · exact O_write hI h8
  obtain ⟨t, R, v, hd, X, gr, m2⟩ := Mo_get hI h8
  have hy' := hy
  have hz' := hz
  unfold in32 at hy' hz'
  have nn := V_n v
  have hf := V_by v
  apply q_V_write
  rw [h8]
  refine ⟨fun z => absurd z (by decide), fun _ => ?_⟩
  have set1 : ∀ (r : Int) (b : AH), wI r ≠ -7 → RunsI G 264 [vR 34, vI x1, vI x2, vI x3, vI x4] b (fun r2 h2 => wI r = wI r2 ∧ Inv Mo h2) → RunsI G 163 [vR 0, vI r] b (fun r2 h2 => RunsI G 264 [vR 34, vI x1, vI x2, vI x3, vI x4] h2 (fun r3 h3 => wI r2 = wI r3 ∧ Inv Mo h3)) := by
    intro r b rn k
    apply q_V_settled
    exact ⟨fun z => absurd z rn, fun _ => k⟩
  by_cases ex : ∃ jj, 1 ≤ jj ∧ al t jj ∧ t 1 jj = x1 ∧ ¬ dirT (h 3) t jj
  · obtain ⟨jj, q1, q, e, nd⟩ := ex
    have wa := V_at v q1 q
    have ok := V_ln v q1 q
    have l56 := ok.2.2.1.1
    have rg := V_rng v q1 q
    have kn := V_K v q
    have u5 := u4_rng hf (show 0 ≤ ha (t 1 jj) + 56 by omega) (show ha (t 1 jj) + 56 + 3 < 13824 by omega)
    have hx' := hx
    rw [← e] at hx' set1 ⊢
    by_cases good : ((0 ≤ x2 ∧ x2 ≤ u4 (h 3) (ha (t 1 jj) + 56)) ∧ (1 ≤ x3 ∧ x3 ≤ 1024)) ∧ u2 (h 3) (ha (t 1 jj) + 4) % 2 = 0
    · obtain ⟨⟨a0, m1⟩, ro'⟩ := good
      obtain ⟨m, em⟩ : ∃ m : Nat, x3 = (m : Int) := ⟨x3.toNat, by omega⟩
      have r1 := (v.2.2.1 jj q).1
      rw [rkP_n (h 3) _ (by have := V_cl v q1 q; omega)] at r1
      generalize el : (if u4 (h 3) (ha (t 1 jj) + 56) < x2 + x3 then x2 + x3 else u4 (h 3) (ha (t 1 jj) + 56)) = ln
      have lr : x2 + x3 ≤ ln ∧ 1 ≤ ln ∧ ln ≤ 14000 ∧ u4 (h 3) (ha (t 1 jj) + 56) ≤ ln := by
        rw [← el]
        split <;> omega
      obtain ⟨k, lk⟩ : ∃ k : Nat, (ln + 127) / 128 = ((Kt t jj + k : Nat) : Int) := ⟨((ln + 127) / 128 - (Kt t jj : Int)).toNat, by omega⟩
      have am : x2 + m ≤ 128 * ((Kt t jj + k : Nat) : Int) := (by omega)
      have fin : (0 < k → k ≤ cf (h 3) (h 7 3) (h 7 1) 0 (h 7 1).toNat) → ∀ (b : AH) (r a : Int), (r = 0 ∧ a = -7 ∨ r = 1 ∧ a = ln) → Ph (h 3) (wWs (h 3) (h 7 1) (h 7 3) t R jj k x2 x4 m ln (h 26 5)) (h 1 3) (h 1 4) r (b 2) (b 1 3) (b 1 4) → Syn b → (r = 1 → b 3 = w4D (h 3) (h 7 1) (h 7 3) t R jj k x2 x4 m ln (h 26 5)) → (∀ k, k ≠ 4 → b 7 k = h 7 k) → (∀ o, ¬ ((1 ≤ o ∧ o ≤ 4) ∨ o = 7 ∨ (27 ≤ o ∧ o ≤ 31)) → b o = h o) → RunsI G 163 [vR 0, vI a] b (fun r2 h2 => RunsI G 264 [vR 34, vI (t 1 jj), vI x2, vI x3, vI x4] h2 (fun r3 h3 => wI r2 = wI r3 ∧ Inv Mo h3)) := by
        intro kc b r a ra ph sy gd b7 ob
        refine T_set (as := [vI (t 1 jj), vI x2, vI x3, vI x4]) (by omega) (fun b2 ob2 b08 => ?_)
        have b08' : b2 0 8 = r := by
          rw [b08, ob 0 (by decide), h8]
          rcases ra with ⟨y1, y2⟩ | ⟨y1, y2⟩
          · rw [if_pos y2, y1]
          · rw [if_neg (by omega), y1]
        have bo : ∀ o, ¬ ((o ≤ 4) ∨ o = 7 ∨ (27 ≤ o ∧ o ≤ 31)) → b2 o = h o := fun o p => by rw [ob2 o (by omega)]; exact ob o (by omega)
        have X2 : RX (h 3) (h 9) (h 7 1) (h 7 2) b2 := by unfold RX at *; rw [bo 35 (by decide), bo 38 (by decide), bo 34 (by decide)]; exact X
        refine M_write (r := r) (d' := b 2) (f' := b 1 3) (n' := b 1 4) (mp := h 7 3) v X2 (by rw [bo 34 (by decide)]; exact m2) (by rw [bo 36 (by decide)]; exact c1.2.2.1) (by rw [bo 34 (by decide), ← e34]; exact h8) (by rw [bo 34 (by decide), ← c2.1]; exact c2.2.1) q1 q nd rfl hx' em (by omega) a0 ro' el.symm lk (fun _ => by rw [bo 34 (by decide), ← c2.1, ← c2.2.2.1, ← c2.2.2.2.2.2]; exact ph) (fun full => absurd (kc (by omega)) (by omega)) (fun _ c a2 ra2 c5 c6 cd cf' cn' cm ck oc => ?_)
        have ea : a2 = a := by
          rcases ra with ⟨y1, y2⟩ | ⟨y1, y2⟩ <;> rcases ra2 with ⟨y3, y4⟩ | ⟨y3, y4⟩ <;> omega
        refine ⟨by rw [ea], ?_⟩
        have co : ∀ o, ¬ ((o ≤ 4) ∨ o = 7 ∨ (27 ≤ o ∧ o ≤ 31)) → ¬ ((34 ≤ o ∧ o ≤ 36) ∨ (39 ≤ o ∧ o ≤ 49) ∨ (53 ≤ o ∧ o ≤ 59)) → c o = h o := fun o p p' => by rw [oc o p']; exact bo o p
        have cl' : ∀ o, 1 ≤ o → o ≤ 30 → c o = b o := fun o p p' => by rw [oc o (by omega)]; exact ob2 o (by omega)
        have c7 : ∀ k, k ≠ 4 → c 7 k = h 7 k := fun k p => by rw [cl' 7 (by omega) (by omega)]; exact b7 k p
        refine Inv_fin hI sy ph c5 c6 cd cf' cn' (by rw [oc 0 (by decide)]; exact b08') cm (fun o p p' => cl' o p (by omega)) (by rw [co 26 (by decide) (by decide)]) (by rw [co 32 (by decide) (by decide)]) (co 33 (by decide) (by decide)) (co 52 (by decide) (by decide)) (co 17 (by decide) (by decide)) (fun k p => by rw [ck k (by omega), bo 34 (by decide)]) (fun r1 => ?_)
        have w3 := gd r1
        have l0 : 0 < ln ∧ ln ≤ 128 * h 7 1 := by
          have kk : ((Kt t jj + k : Nat) : Int) ≤ h 7 1 := by
            obtain ⟨o1, o2, o3⟩ := wRo_ok v (jj := jj) (k := k) q kc
            refine php2 (m := Kt t jj + k) (F := wRo (h 3) (h 7 1) (h 7 3) t R jj k) (fun i hi => ?_) (by omega) (fun i i' p p' y => ?_)
            · unfold wRo app
              split
              · exact (v.1.2.1 jj q i (by assumption)).1
              · exact (o1 _ (by omega)).1
            · unfold wRo app at y
              by_cases z : i' < Kt t jj
              · rw [if_pos z, if_pos (by omega)] at y
                have := (v.1.2.2.1 jj jj i i' q q (by omega) z y).2
                omega
              · rw [if_neg z] at y
                by_cases z2 : i < Kt t jj
                · rw [if_pos z2] at y
                  exact (V_fresh v (o1 (i' - Kt t jj) (by omega)).2).2 jj q i z2 y
                · rw [if_neg z2] at y
                  exact o2 (i - Kt t jj) (i' - Kt t jj) (by omega) (by omega) y
          omega
        have vn := V_wri v q1 q nd kc (x := x4) (tm := h 26 5) a0.1 am l0 lk
        refine ⟨tk t jj (Kt t jj + k), up R jj (wRo (h 3) (h 7 1) (h 7 3) t R jj k), ?_, ?_, ?_, ?_, ?_, ?_, ?_⟩
        · rw [cl' 3 (by omega) (by omega), w3, co 9 (by decide) (by decide), c7 1 (by decide), c7 2 (by decide), c7 3 (by decide)]
          exact vn
        · rw [cl' 3 (by omega) (by omega), w3]
          have vd : ∀ j, al t j → (dirT (w4D (h 3) (h 7 1) (h 7 3) t R jj k x2 x4 m ln (h 26 5)) (tk t jj (Kt t jj + k)) j ↔ dirT (h 3) t j) := fun j a => by
            show (j = 0 ∨ isD _ (ha (t 1 j))) ↔ (j = 0 ∨ isD _ (ha (t 1 j)))
            by_cases z0 : j = 0
            · exact ⟨fun _ => Or.inl z0, fun _ => Or.inl z0⟩
            · have j1 : 1 ≤ j := (by omega)
              have rj := V_rng v j1 a
              have hj := V_hd v j1 a
              have wj := v.1.2.2.2.1 j j1 a
              have dj := (v.2.1 j j1 a).1
              have pne : pt t j ≠ jj := fun y => nd (by rw [← y]; exact dj)
              obtain ⟨o1, o2, o3⟩ := wRo_ok v (jj := jj) (k := k) q kc
              have cj := (v.1.2.1 _ wj.1 _ hj.2.2.1).1
              unfold clu at cj
              have far : ∀ y, ha (t 1 j) ≤ y → y < ha (t 1 j) + 64 → ∀ i, i < Kt t jj + k → y < ca (wRo (h 3) (h 7 1) (h 7 3) t R jj k i) ∨ ca (wRo (h 3) (h 7 1) (h 7 3) t R jj k i) + 128 ≤ y := fun y y0 y1 i hi => by
                have ne := (o3 i hi).2.2 _ wj.1 pne _ hj.2.2.1
                unfold ca at *
                omega
              unfold isD
              have e4 : u2 (w4D (h 3) (h 7 1) (h 7 3) t R jj k x2 x4 m ln (h 26 5)) (ha (t 1 j) + 4) = u2 (h 3) (ha (t 1 j) + 4) := by
                by_cases z : j = jj
                · subst z
                  exact u2_cg (w4D_hi v q1 q kc a0.1 am (by omega) (by omega) (far _ (by omega) (by omega)) (by omega)) (w4D_hi v q1 q kc a0.1 am (by omega) (by omega) (far _ (by omega) (by omega)) (by omega))
                · have hh := V_hh v j1 a q1 q z
                  exact u2_cg (w4D_hi v q1 q kc a0.1 am (by omega) (by omega) (far _ (by omega) (by omega)) (by omega)) (w4D_hi v q1 q kc a0.1 am (by omega) (by omega) (far _ (by omega) (by omega)) (by omega))
              rw [e4]
          refine Hd_keep hd (fun j => Iff.rfl) vd (fun j a d => ?_) (fun j => rfl) (co 12 (by decide) (by decide)) (co 13 (by decide) (by decide))
          have z : j ≠ jj := fun y => nd (by rw [← y]; exact d)
          exact ⟨tk_Kn z, fun i hi => by rw [up_n _ _ z]⟩
        · rw [co 38 (by decide) (by decide), co 9 (by decide) (by decide)]; exact X.2.2.2.2.1
        · rw [co 9 (by decide) (by decide)]; exact gr
        · rw [ck 0 (by omega), bo 34 (by decide), c7 1 (by decide)]; exact X.2.2.1
        · rw [ck 1 (by omega), bo 34 (by decide), c7 2 (by decide)]; exact X.2.2.2.1
        · rw [ck 2 (by omega), bo 34 (by decide), c7 3 (by decide)]; exact m2
      refine A_fill (ln := ln) (k := k) (m := m) c1.1 c2.2.1 v rfl rfl rfl rfl hd q1 q nd hx' em (by omega) a0 ro' el.symm lk (fun full b b7 ob => ?_) (fun kc b ph sy b7 ob => fin kc b 0 (-7) (Or.inl ⟨rfl, rfl⟩) ph sy (fun z => absurd z (by decide)) b7 ob) (fun kc b ph sy b3 b7 ob => fin kc b 1 ln (Or.inr ⟨rfl, rfl⟩) ph sy (fun _ => b3) b7 ob)
      refine set1 (-6) b (by decide) ?_
      have X2 : RX (h 3) (h 9) (h 7 1) (h 7 2) b := by unfold RX at *; rw [ob 35 (by decide), ob 38 (by decide), ob 34 (by decide)]; exact X
      refine M_write (r := 0) (d' := b 2) (f' := 0) (n' := 0) (mp := h 7 3) v X2 (by rw [ob 34 (by decide)]; exact m2) (by rw [ob 36 (by decide)]; exact c1.2.2.1) (by rw [ob 34 (by decide), ← e34]; exact h8) (by rw [ob 34 (by decide), ← c2.1]; exact c2.2.1) q1 q nd rfl hx' em (by omega) a0 ro' el.symm lk (fun kc => absurd (kc (by omega)) (by omega)) (fun _ c c6 ck oc => ⟨rfl, Inv_W hI c6 (fun o p => by rw [oc o (by omega)]; exact ob o (by omega)) (fun k p => by rw [oc 7 (by decide)]; exact b7 k p) (fun k p => by rw [ck k p, ob 34 (by decide)])⟩) (fun kc => absurd (kc (by omega)) (by omega))
    · have ref : ∀ r, ((¬ ((0 ≤ x2 ∧ x2 ≤ u4 (h 3) (ha (t 1 jj) + 56)) ∧ (1 ≤ x3 ∧ x3 ≤ 1024)) ∧ r = -1) ∨ (((0 ≤ x2 ∧ x2 ≤ u4 (h 3) (ha (t 1 jj) + 56)) ∧ (1 ≤ x3 ∧ x3 ≤ 1024)) ∧ u2 (h 3) (ha (t 1 jj) + 4) % 2 ≠ 0 ∧ r = -5)) → RunsI G 264 [vR 34, vI (t 1 jj), vI x2, vI x3, vI x4] h (fun r2 h2 => wI r = wI r2 ∧ Inv Mo h2) := by
        intro r cs
        apply q_M_write
        rw [← e34, h8]
        refine ⟨fun z => absurd z (by decide), fun _ => ?_⟩
        refine M_fileAt v X hx' (fun b z k j2 Z hk a2 e2 ez k2 k0 dd fr => ?_) (fun b no fr => absurd (no jj q rfl) nd)
        have ej : j2 = jj := V_inj v a2 q e2
        subst ej
        obtain ⟨kp, p42, pk, pp, p43, p44, p46, p47, p48, p49, _⟩ := ZR_par v Z hk a2 (by rw [ez]) (by omega)
        rw [wI_id (z := (k : Int)) (by omega) (by omega), show (k : Int).toNat = k by omega, p47, wI_id (z := x2) (by omega) (by omega), wI_id (z := x3) (by omega) (by omega)]
        refine ⟨fun y => by omega, fun _ => ⟨by omega, ?_⟩⟩
        have IV := Inv_Q hI (FQ_n fr)
        refine M_in (by omega) (by omega) (by omega) (fun y1 y2 => ⟨fun y => absurd y (by decide), fun _ => ?_⟩) (fun no => ⟨fun _ => ⟨?_, IV⟩, fun y => absurd wI_0 y⟩)
        · refine M_in (by omega) (by omega) (by omega) (fun y3 y4 => ⟨fun y => absurd y (by decide), fun _ => ⟨by omega, ?_⟩⟩) (fun no => ⟨fun _ => ⟨?_, IV⟩, fun y => absurd wI_0 y⟩)
          · rw [p49, bA_1, wI_id (z := u2 (h 3) (ha (t 1 j2) + 4) % 2) (by omega) (by omega)]
            rcases cs with ⟨y, _⟩ | ⟨_, y, rv⟩
            · exact absurd ⟨⟨y1, y2⟩, y3, y4⟩ y
            · exact ⟨fun x => absurd x y, fun _ => ⟨by rw [rv], IV⟩⟩
          · rcases cs with ⟨_, rv⟩ | ⟨y, _⟩
            · rw [rv]
            · exact absurd y.2 no
        · rcases cs with ⟨_, rv⟩ | ⟨y, _⟩
          · rw [rv]
          · exact absurd y.1 no
      apply q_A_fill
      refine T_isFile v rfl rfl hd hx' (fun j2 j21 a2 d2 e2 => ⟨fun z => absurd z (by decide), fun _ => ?_⟩) (fun no => absurd (no jj q rfl) nd)
      rw [wI_id (z := x3) (by omega) (by omega), wI_id (z := x2) (by omega) (by omega)]
      refine ⟨fun z => set1 (-1) h (by decide) (ref _ (Or.inl ⟨by omega, rfl⟩)), fun z => ⟨fun z2 => ?_, fun z2 => set1 (-1) h (by decide) (ref _ (Or.inl ⟨by omega, rfl⟩))⟩⟩
      apply q_T_headOf
      show RunsI G 88 [vR 10, vI (ha (t 1 jj))] h _
      apply q_E_length
      refine D_get4 hf (by omega) (by omega) ?_
      rw [wI_wI, wI_id (z := u4 (h 3) (ha (t 1 jj) + 56)) (by omega) (by omega)]
      refine ⟨fun y => set1 (-1) h (by decide) (ref _ (Or.inl ⟨by omega, rfl⟩)), fun y => ⟨fun y2 => ?_, fun y2 => set1 (-1) h (by decide) (ref _ (Or.inl ⟨by omega, rfl⟩))⟩⟩
      show RunsI G 84 [vR 10, vI (ha (t 1 jj))] h _
      apply q_E_isReadOnly
      refine D_u2 hf (by omega) (by omega) ?_
      have nr : u2 (h 3) (ha (t 1 jj) + 4) % 2 ≠ 0 := fun w => good ⟨⟨⟨by omega, by omega⟩, by omega, by omega⟩, w⟩
      rw [bA_1, wI_id (z := u2 (h 3) (ha (t 1 jj) + 4) % 2) (by omega) (by omega)]
      refine ⟨fun w => absurd w nr, fun _ => ⟨Or.inr rfl, fun w => absurd w (by decide), fun _ => set1 (-5) h (by decide) (ref _ (Or.inr ⟨⟨⟨by omega, by omega⟩, by omega, by omega⟩, nr, rfl⟩))⟩⟩
  · have all : ∀ jj, al t jj → t 1 jj = x1 → dirT (h 3) t jj := fun jj a e => Classical.not_not.mp (fun z => ex ⟨jj, by
      by_cases y : jj = 0
      · exact absurd (Or.inl y) z
      · omega, a, e, z⟩)
    apply q_A_fill
    refine T_isFile v rfl rfl hd hx (fun j2 j21 a2 d2 e2 => absurd (all j2 a2 e2) d2) (fun no => ⟨fun _ => set1 (-1) h (by decide) ?_, fun z => absurd wI_0 z⟩)
    apply q_M_write
    rw [← e34, h8]
    refine ⟨fun z => absurd z (by decide), fun _ => ?_⟩
    refine M_fileAt v X hx (fun b z k j2 Z hk a2 e2 ez k2 k0 dd fr => absurd (all j2 a2 e2) dd) (fun b no fr => ⟨fun _ => ⟨rfl, Inv_Q hI (FQ_n fr)⟩, fun y => absurd (by decide) y⟩)
end TWRI
