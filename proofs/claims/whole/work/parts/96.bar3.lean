/-! bar: the call -/
section BAR3
variable {G : GG} {h : AH}
noncomputable def barA (f : Nat → Int) (hd x2 : Int) : Int := if wI x2 = 0 then bA (u2 f (hd + 4)) (-2) else bO (u2 f (hd + 4)) 1
theorem barA_at {f : Nat → Int} {hd x2 : Int} (a : At (u2 f (hd + 4))) : At (barA f hd x2) ∧ (16 ≤ barA f hd x2 ↔ 16 ≤ u2 f (hd + 4)) := by
  unfold barA
  split
  · rcases a with z | z | z | z <;> rw [z] <;> exact ⟨by unfold At; decide, by decide⟩
  · rcases a with z | z | z | z <;> rw [z] <;> exact ⟨by unfold At; decide, by decide⟩
def BRr (f w1 w3 : Nat → Int) (A fi ni r : Int) (d' : Nat → Int) (f' n' : Int) : Prop := (r = -7 ∧ Fl 216 f w1 fi ni 0 d' f' n') ∨ ∃ d1 f1 n1 rr, Fl 216 f w1 fi ni 1 d1 f1 n1 ∧ Fl 216 w1 w3 f1 n1 rr d' f' n' ∧ ((rr = 0 ∧ r = -7) ∨ (rr = 1 ∧ r = A))
theorem A_protect {P : Int → AH → Prop} {x2 : Int} {jj : Nat} {f g : Nat → Int} {n root mp : Int} {t R : AH} (sy : Syn h) (hf : 0 ≤ h 1 3 ∧ h 1 3 ≤ 1000) (v : V f g n root mp t R) (h3 : h 3 = f) (h71 : h 7 1 = n) (hd : Hd f t R h) (q1 : 1 ≤ jj) (q : al t jj) (hx : in32 (t 1 jj))
    (H : ∀ b r, BRr f (so1 f) (ba2 (so1 f) (ha (t 1 jj)) (ea (R (pt t jj)) (t 3 jj + 2)) (barA f (ha (t 1 jj)) x2)) (bA (u2 f (ha (t 1 jj) + 4)) 1) (h 1 3) (h 1 4) r (b 2) (b 1 3) (b 1 4) → Syn b → (r ≠ -7 → b 3 = ba2 (so1 f) (ha (t 1 jj)) (ea (R (pt t jj)) (t 3 jj + 2)) (barA f (ha (t 1 jj)) x2)) → (∀ o, o ≠ 1 → o ≠ 2 → o ≠ 3 → o ≠ 4 → b o = h o) → P r b) : RunsI G 9 [vR 26, vI (t 1 jj), vI x2] h P := by
  have wa := V_at v q1 q
  have ok := V_ln v q1 q
  have s3 := SetOK_3 ok
  have tl := V_tl v q1 q
  have wp := v.1.2.2.2.1 jj q1 q
  have ct := (v.1.2.1 _ wp.1 _ tl.2.2.1).1
  have nn := V_n v
  unfold clu at ct
  have tr : 1024 ≤ ea (R (pt t jj)) (t 3 jj + 2) ∧ ea (R (pt t jj)) (t 3 jj + 2) + 64 ≤ 13824 := by unfold ca at tl; omega
  have cl := V_cl v q1 q
  have ra := ha_rng cl.1 nn.2
  apply q_A_protect
  refine T_isEntry v h3 h71 hd hx (fun j2 j1 a e => ⟨fun z => absurd z (by decide), fun _ => ?_⟩) (fun no => absurd rfl (no jj q1 q))
  apply q_T_headOf
  show RunsI G 82 [vR 10, vI (ha (t 1 jj))] h _
  apply q_E_attributes
  refine D_u2 (by rw [h3]; exact V_by v) (by omega) (by omega) ?_
  rw [h3]
  refine A_soil sy hf (fun r b fl r01 syb e3 kb ob => ?_)
  rw [h3] at fl e3
  rcases r01 with r0 | r1
  · subst r0
    exact ⟨fun _ => H b (-7) (Or.inl ⟨rfl, fl⟩) syb (fun z => absurd rfl z) ob, fun z => absurd wI_0 z⟩
  · subst r1
    refine ⟨fun z => absurd z (by decide), fun _ => ?_⟩
    have b3 := e3 rfl
    have bf := Fl_f hf fl
    have bd : ∀ k, k < 13824 → b 2 k = so1 f k := Fl_1 fl
    have go : ∀ A, A = barA f (ha (t 1 jj)) x2 → Go G (pI P) 9 59 [some (vR 26), some (vI (t 1 jj)), none, some (vI (ha (t 1 jj))), some (vI (u2 f (ha (t 1 jj) + 4)))] [vI A, vI (ha (t 1 jj)), vR 10] b := by
      intro A eA
      apply q_A_protect_c59
      apply q_E_setAttributes
      refine D_wb2 syb.1 (by omega) (by omega) (fun c u => ?_)
      rw [b3] at u
      have hdc : Hd f t R c := by
        unfold Hd at hd ⊢
        rw [u.2.2 12 (by decide) (by decide), u.2.2 13 (by decide) (by decide), ob 12 (by decide) (by decide) (by decide) (by decide), ob 13 (by decide) (by decide) (by decide) (by decide)]
        exact hd
      refine T_tailOf v hdc q1 q ?_
      have e1 : rd (c 3) (ha (t 1 jj) + 1) = rd f (ha (t 1 jj) + 1) := by rw [u.2.1, rd_wb_ne (by omega) (by omega) (by omega)]; exact so1_hi f (by omega)
      refine E_seal u.1 wa.1 wa.2.1 (by rw [e1]; omega) (by omega) (by omega) (fun c2 u2' => ?_)
      rw [u.2.1] at u2'
      have U := u.trans u2'
      have c21 : c2 1 = b 1 := U.2.2 1 (by decide) (by decide)
      have c22 : c2 2 = b 2 := U.2.2 2 (by decide) (by decide)
      refine D_flush U.1 (by rw [c21]; exact bf) (fun rr d fl2 r01 syd e3d kd od => ?_)
      rw [c21, c22, U.2.1, eA] at fl2
      rw [U.2.1, eA] at e3d
      have fl2' := Fl_cg (Nat.le_refl _) bd (fun _ _ => rfl) fl2
      have oo : ∀ o, o ≠ 1 → o ≠ 2 → o ≠ 3 → o ≠ 4 → d o = h o := fun o p q r s => by rw [od o p q r s, U.2.2 o r s]; exact ob o p q r s
      rcases r01 with q0 | q1'
      · subst q0
        exact ⟨fun _ => H d (-7) (Or.inr ⟨_, _, _, 0, fl, fl2', Or.inl ⟨rfl, rfl⟩⟩) syd (fun z => absurd rfl z) oo, fun z => absurd wI_0 z⟩
      · subst q1'
        exact ⟨fun z => absurd z (by decide), fun _ => H d _ (Or.inr ⟨_, _, _, 1, fl, fl2', Or.inr ⟨rfl, rfl⟩⟩) syd (fun _ => e3d rfl) oo⟩
    refine ⟨fun z => go _ (by unfold barA; rw [if_pos z]), fun z => go _ (by unfold barA; rw [if_neg z])⟩
theorem M_bar {P : Int → AH → Prop} {x1 x2 r f' n' : Int} {jj : Nat} {f d' g : Nat → Int} {n root mp : Int} {t R : AH} (v : V f g n root mp t R) (X : RX f g n root h) (h6 : Sb (h 36)) (h3 : h 34 3 = 1) (hf : 0 ≤ h 34 5 ∧ h 34 5 ≤ 1000) (q1 : 1 ≤ jj) (q : al t jj) (e : t 1 jj = x1) (hx : in32 x1)
    (br : BRr f (so1 f) (ba2 (so1 f) (ha (t 1 jj)) (ea (R (pt t jj)) (t 3 jj + 2)) (barA f (ha (t 1 jj)) x2)) (bA (u2 f (ha (t 1 jj) + 4)) 1) (h 34 5) (h 34 6) r d' f' n')
    (H : ∀ b, Sb (b 35) → Sb (b 36) → (∀ k, k < 13824 → ub (b 35) k = d' k) → b 34 5 = f' → b 34 6 = n' → b 34 3 = (if r = -7 then 0 else 1) → (∀ k, ((k ≤ 2 ∨ k = 4) ∨ (9 ≤ k ∧ k ≤ 11) ∨ k = 41) → b 34 k = h 34 k) → (∀ o, ¬ ((34 ≤ o ∧ o ≤ 36) ∨ (39 ≤ o ∧ o ≤ 49)) → b o = h o) → P r b) : RunsI G 270 [vR 34, vI x1, vI x2] h P := by
  have nn := V_n v
  have wa := V_at v q1 q
  have ok := V_ln v q1 q
  have s3 := SetOK_3 ok
  have v1 := V_so1 v
  have wp := v.1.2.2.2.1 jj q1 q
  have ee := V_e v q1 q
  have kn := V_K v wp.1
  have cl := V_cl v q1 q
  have ra := ha_rng cl.1 nn.2
  have hfb := V_by v
  apply q_M_bar
  rw [h3]
  refine ⟨fun z => absurd z (by decide), fun _ => ?_⟩
  refine M_setAt v X hx (fun b z k j2 Z hk a2 e2 ez k2 k0 fr => ?_) (fun b no fr => absurd e (no jj q))
  have ej : j2 = jj := V_inj v a2 q (e2.trans e.symm)
  subst ej
  have k1 : 1 ≤ k := (by omega)
  rw [wI_id (z := (k : Int)) (by omega) (by omega), show (k : Int).toNat = k by omega]
  refine ⟨fun y => by omega, fun _ => ⟨fun y => by omega, fun _ => ?_⟩⟩
  obtain ⟨kp, p42, pk, pp, p43, p44, p46, p47, p48, p49, _⟩ := ZR_par v Z hk a2 (by rw [e2, ez]) k1
  have Xb := RX_congr fr X
  have NN : z 1 0 ≤ n + 1 := by obtain ⟨k', S, _⟩ := Z; exact SI_N S (by omega)
  have kp0 : kp = 0 ↔ pt t j2 = 0 := by obtain ⟨k', S, kl, L, A⟩ := Z; exact SL_0 v S wp.1 pk pp
  refine M_beginWrite Xb.1 (by rw [fr.1 36 (by decide)]; exact h6) (fun c c6 cE oc => ?_)
  have cE' : E (ub (c 36)) f := cE.tr Xb.2.1
  have c34 : ∀ k, ¬ ((17 ≤ k ∧ k ≤ 24) ∨ k = 34) → c 34 k = h 34 k := fun k p => by rw [oc 34 (by decide)]; exact fr.2 k p
  refine M_dirty (f := f) (by rw [oc 35 (by decide)]; exact Xb.1) c6 (by rw [oc 35 (by decide)]; exact Xb.2.1) cE' (by rw [c34 5 (by decide)]; exact hf) (fun r1 d fl r01 d5 d6 dW d3 dk od => ?_)
  rw [c34 5 (by decide), c34 6 (by decide)] at fl
  have dkk : ∀ k, ((k ≤ 2 ∨ k = 4) ∨ (9 ≤ k ∧ k ≤ 11) ∨ k = 41) → d 34 k = h 34 k := fun k p => by rw [dk k (by omega) (by omega) (by omega)]; exact c34 k (by omega)
  have doo : ∀ o, ¬ ((34 ≤ o ∧ o ≤ 36) ∨ (39 ≤ o ∧ o ≤ 49)) → d o = h o := fun o p => by rw [od o (by omega) (by omega) (by omega), oc o (by omega)]; exact fr.1 o (by omega)
  have darr : ∀ o, 41 ≤ o → o ≤ 49 → d o = b o := fun o p p' => by rw [od o (by omega) (by omega) (by omega), oc o (by omega)]
  rcases br with ⟨rv, fl0⟩ | ⟨d1, f1, n1, rr, fl1, fl2, fin⟩
  · obtain ⟨t1, t2, t3, t4⟩ := Fl_det (Nat.le_refl _) (fun _ _ => rfl) (fun _ _ => rfl) fl fl0
    subst t1
    rw [rv] at H
    refine ⟨fun _ => H d d5 d6 t2 t3 t4 (by rw [d3, if_neg (by decide), if_pos rfl]) dkk doo, fun y => absurd wI_0 y⟩
  · obtain ⟨t1, t2, t3, t4⟩ := Fl_det (Nat.le_refl _) (fun _ _ => rfl) (fun _ _ => rfl) fl fl1
    subst t1
    refine ⟨fun y => absurd y (by decide), fun _ => ⟨by omega, ?_⟩⟩
    have dE : E (ub (d 35)) (so1 f) := fun k hk => (t2 k hk).trans (Fl_1 fl1 k hk)
    rw [darr 42 (by omega) (by omega), p42]
    have hs1 : ∀ x : Int, 512 ≤ x → rd (so1 f) x = rd f x := fun x p => so1_hi f p
    refine M_rowW v1 dE (by rw [dkk 1 (by omega)]; exact X.2.2.2.1) wp.1 kp0 (by omega) (fun kp1 => ?_) (fun c2 rm k5 o5 => ⟨by omega, ?_⟩)
    · obtain ⟨k', S, kl, L, A⟩ := id Z
      have jp1 : 1 ≤ pt t j2 := (by omega)
      have pcl := V_cl v jp1 wp.1
      have pa := ha_rng pcl.1 nn.2
      have pat := V_at v jp1 wp.1
      obtain ⟨g1, g2, g3, g4, g5, g6, g7⟩ := A.2.2.2 kp kp1 pk
      rw [darr 46 (by omega) (by omega), darr 47 (by omega) (by omega), darr 48 (by omega) (by omega), g4, g5, g6, ← pp]
      refine ⟨?_, ?_, ?_⟩
      · unfold bR; rw [hs1 _ (by omega)]
      · exact (u4_cg (fun x _ _ => hs1 _ (by omega))).symm
      · exact (u4_cg (fun x _ _ => hs1 _ (by omega))).symm
    · rw [o5 43 (by decide) (by decide), darr 43 (by omega) (by omega), p43]
      refine M_entryAt wp.2.1.1 (by omega) ?_
      have ea0 : ea (c2 39) (t 3 j2) = ha (t 1 j2) := by rw [cl.2.2.1]; exact ea_cg rm.2.2 wp.2.1.1 (by omega)
      rw [ea0, o5 49 (by decide) (by decide), darr 49 (by omega) (by omega), p49]
      have c26 : Sb (c2 36) := by rw [o5 36 (by decide) (by decide)]; exact d6
      have c2W : E (ub (c2 36)) (so1 f) := by rw [o5 36 (by decide) (by decide)]; exact dW
      have go : ∀ A, A = barA f (ha (t 1 j2)) x2 → Go G (pI P) 270 99 [some (vR 34), none, none, some (vI (k : Int)), some (vI (t 3 j2))] [vL (wI A), vI 2, vI (ha (t 1 j2) + 4), vR 36] c2 := by
        intro A eA
        have ab := (barA_at (x2 := x2) wa.2.2).1
        rw [← eA] at ab
        have ar : 0 ≤ A ∧ A ≤ 17 := by rcases ab with y | y | y | y <;> rw [y] <;> decide
        apply q_M_bar_c99
        rw [wI_id (z := A) (by omega) (by omega)]
        refine M_put_36 (n := 2) c26 (by omega) (by omega) (by omega) (by omega) (fun c3 c36 cu o6 => ?_)
        rw [wI_id (z := (k : Int)) (by omega) (by omega), show (k : Int).toNat = k by omega, o6 44 (by decide), o5 44 (by decide) (by decide), darr 44 (by omega) (by omega), p44]
        refine ⟨by omega, ?_⟩
        have c3W : E (ub (c3 36)) (wb (so1 f) (ha (t 1 j2) + 4) 2 A) := by rw [cu]; exact E_wb c2W _ _ _
        have e1 : rd (wb (so1 f) (ha (t 1 j2) + 4) 2 A) (ha (t 1 j2) + 1) = rd f (ha (t 1 j2) + 1) := by rw [rd_wb_ne (by omega) (by omega) (by omega)]; exact hs1 _ (by omega)
        have ms := M_seal (G := G) (P := fun h2 => RunsI G 178 [vR 34] h2 (fun r3 h3 => ((wI r3 = 0 → P (-7) h3) ∧ (¬ wI r3 = 0 → ((0 ≤ (k : Int) ∧ (k : Int) < 200) ∧ P (bA (h3 49 k) 1) h3))))) (h := c3) (w := wb (so1 f) (ha (t 1 j2) + 4) 2 A) (r := R (pt t j2)) (e := t 3 j2) (m := (1 + rd f (ha (t 1 j2) + 1)).toNat) (K := Kt t (pt t j2)) c36 c3W (fun i hi => by rw [o6 39 (by decide)]; exact rm.2.2 i hi) (fun i hi => by have := (v.1.2.1 _ wp.1 i hi).1; unfold clu at this; omega) wp.2.1.1 wp.2.1.2 (by omega) (by omega) (by omega) (by rw [← cl.2.2.1, e1]; omega) (fun c4 c46 c4W o7 => ?_)
        · rw [show (((1 + rd f (ha (t 1 j2) + 1)).toNat : Nat) : Int) = 1 + rd f (ha (t 1 j2) + 1) by omega] at ms
          exact ms
        · rw [← cl.2.2.1] at c4W
          have c45 : c4 35 = d 35 := by rw [o7 35 (by decide), o6 35 (by decide), o5 35 (by decide) (by decide)]
          have c44 : ∀ k, k ≠ 17 → c4 34 k = d 34 k := fun k p => by rw [o7 34 (by decide), o6 34 (by decide)]; exact k5 k p
          have c4W' : E (ub (c4 36)) (ba2 (so1 f) (ha (t 1 j2)) (ea (R (pt t j2)) (t 3 j2 + 2)) (barA f (ha (t 1 j2)) x2)) := by rw [← eA]; exact c4W
          refine M_flush (by rw [c45]; exact d5) c46 (by rw [c44 5 (by decide), t3]; exact Fl_f hf fl1) (fun r3 e' fl3 r301 e5 e6 e3 ek oe => ?_)
          rw [c45, c44 5 (by decide), c44 6 (by decide), t3, t4] at fl3
          obtain ⟨s1, s2, s3', s4⟩ := Fl_det (Nat.le_refl _) dE c4W' fl3 fl2
          subst s1
          have ekk : ∀ k, ((k ≤ 2 ∨ k = 4) ∨ (9 ≤ k ∧ k ≤ 11) ∨ k = 41) → e' 34 k = h 34 k := fun k p => by rw [ek k (by omega) (by omega) (by omega), c44 k (by omega)]; exact dkk k p
          have eoo : ∀ o, ¬ ((34 ≤ o ∧ o ≤ 36) ∨ (39 ≤ o ∧ o ≤ 49)) → e' o = h o := fun o p => by rw [oe o (by omega) (by omega), o7 o (by omega), o6 o (by omega), o5 o (by omega) (by omega)]; exact doo o p
          have d31 : d 34 3 = 1 := by rw [d3, if_pos rfl, c34 3 (by decide)]; exact h3
          rcases fin with ⟨w1, w2⟩ | ⟨w1, w2⟩
          · rw [w1] at e3 ⊢
            rw [w2] at H
            exact ⟨fun _ => H e' e5 (by rw [e6]; exact c46) s2 s3' s4 (by rw [e3, if_neg (by decide), if_pos rfl]) ekk eoo, fun y => absurd wI_0 y⟩
          · rw [w1] at e3 ⊢
            refine ⟨fun y => absurd y (by decide), fun _ => ⟨by omega, ?_⟩⟩
            rw [oe 49 (by decide) (by decide), o7 49 (by decide), o6 49 (by decide), o5 49 (by decide) (by decide), darr 49 (by omega) (by omega), p49]
            have rne : r ≠ -7 := by
              rw [w2, bA_1]
              omega
            rw [w2] at H rne
            exact H e' e5 (by rw [e6]; exact c46) s2 s3' s4 (by rw [e3, if_pos rfl, if_neg rne, c44 3 (by decide)]; exact d31) ekk eoo
      refine ⟨fun y => ⟨by omega, go _ (by unfold barA; rw [if_pos y])⟩, fun y => ⟨by omega, go _ (by unfold barA; rw [if_neg y])⟩⟩
theorem T_bar (hI : Inv Mo h) {x1 x2 : Int} (hx : in32 x1) : okI G (Inv Mo) 157 270 [vI x1, vI x2] h := by
  obtain ⟨⟨c1, c2, c3, c4⟩, _⟩ := id hI
  have e34 := c2.2.2.2.1
  rcases c2.2.2.2.2.1 with h8 | h8
  · exact O_bar hI h8
  obtain ⟨t, R, v, hd, X, gr, m2⟩ := Mo_get hI h8
  apply q_V_bar
  rw [h8]
  refine ⟨fun z => absurd z (by decide), fun _ => ?_⟩
  by_cases ex : ∃ jj, 1 ≤ jj ∧ al t jj ∧ t 1 jj = x1
  · obtain ⟨jj, q1, q, e⟩ := ex
    have wa := V_at v q1 q
    have hx' := hx
    rw [← e] at hx' ⊢
    refine A_protect (x2 := x2) c1.1 c2.2.1 v rfl rfl hd q1 q hx' (fun b r br sy e3 ob => ?_)
    have rr : -7 ≤ r ∧ r ≤ 1 := by
      rcases br with ⟨z, _⟩ | ⟨_, _, _, _, _, _, ⟨_, z⟩ | ⟨_, z⟩⟩
      · omega
      · omega
      · rw [z, bA_1]; omega
    have fin : ∀ b2 : AH, (∀ o, o ≠ 0 → b2 o = b o) → b2 0 8 = (if r = -7 then 0 else 1) → RunsI G 270 [vR 34, vI (t 1 jj), vI x2] b2 (fun r2 h2 => wI r = wI r2 ∧ Inv Mo h2) := by
      intro b2 ob2 b08
      have bo : ∀ o, ¬ (o ≤ 4) → b2 o = h o := fun o p => by rw [ob2 o (by omega)]; exact ob o (by omega) (by omega) (by omega) (by omega)
      have X2 : RX (h 3) (h 9) (h 7 1) (h 7 2) b2 := by unfold RX at *; rw [bo 35 (by omega), bo 38 (by omega), bo 34 (by omega)]; exact X
      have br2 : BRr (h 3) (so1 (h 3)) (ba2 (so1 (h 3)) (ha (t 1 jj)) (ea (R (pt t jj)) (t 3 jj + 2)) (barA (h 3) (ha (t 1 jj)) x2)) (bA (u2 (h 3) (ha (t 1 jj) + 4)) 1) (b2 34 5) (b2 34 6) r (b 2) (b 1 3) (b 1 4) := by
        rw [bo 34 (by omega), ← c2.1, ← c2.2.2.1]
        exact br
      refine M_bar v X2 (by rw [bo 36 (by omega)]; exact c1.2.2.1) (by rw [bo 34 (by omega), ← e34]; exact h8) (by rw [bo 34 (by omega), ← c2.1]; exact c2.2.1) q1 q rfl hx' br2 (fun c c5 c6 cd cf cn' cm ck oc => ⟨rfl, ?_⟩)
      have co : ∀ o, ¬ (o ≤ 4) → ¬ ((34 ≤ o ∧ o ≤ 36) ∨ (39 ≤ o ∧ o ≤ 49)) → c o = h o := fun o p p' => by rw [oc o p']; exact bo o p
      have cl' : ∀ o, 1 ≤ o → o ≤ 4 → c o = b o := fun o p p' => by rw [oc o (by omega)]; exact ob2 o (by omega)
      have c0 : c 0 8 = (if r = -7 then 0 else 1) := by rw [oc 0 (by decide)]; exact b08
      have bf : 0 ≤ b 1 3 ∧ b 1 3 ≤ 1000 := by
        rcases br with ⟨_, fl⟩ | ⟨_, _, _, _, fl, fl2, _⟩
        · exact Fl_f c2.2.1 fl
        · exact Fl_f (Fl_f c2.2.1 fl) fl2
      refine Inv_mk hI ?_ c5 c6 (fun k hk => ?_) (by rw [cl' 1 (by omega) (by omega), cf]) (by rw [cl' 1 (by omega) (by omega)]; exact bf) (by rw [cl' 1 (by omega) (by omega), cn']) (by rw [c0, cm]) ?_ (by rw [co 26 (by decide) (by decide)]) (by rw [co 32 (by decide) (by decide)]) (co 33 (by decide) (by decide)) (co 52 (by decide) (by decide)) (co 17 (by decide) (by decide)) (fun k p => by rw [ck k (by omega), bo 34 (by omega)]) (fun c08 => ?_)
      · unfold Syn Dk at *
        rw [cl' 2 (by omega) (by omega), cl' 3 (by omega) (by omega), cl' 4 (by omega) (by omega)]
        exact sy
      · rw [cl' 2 (by omega) (by omega)]; exact (cd k hk).symm
      · rw [c0]
        split
        · exact Or.inl rfl
        · exact Or.inr rfl
      · have rne : r ≠ -7 := fun z => by rw [c0, if_pos z] at c08; exact absurd c08 (by decide)
        have w3 := e3 rne
        have ba := barA_at (x2 := x2) wa.2.2
        have u4e : u2 (so1 (h 3)) (ha (t 1 jj) + 4) = u2 (h 3) (ha (t 1 jj) + 4) := by
          have cl := V_cl v q1 q
          have ra := ha_rng cl.1 (V_n v).2
          exact u2_cg (so1_hi _ (by omega)) (so1_hi _ (by omega))
        have vn := V_ba2 (V_so1 v) q1 q ba.1 (by rw [u4e]; exact ba.2)
        refine ⟨tk t jj (Kt t jj), up R jj (R jj), ?_, ?_, ?_, ?_, ?_, ?_, ?_⟩
        · rw [cl' 3 (by omega) (by omega), w3, co 9 (by decide) (by decide), co 7 (by decide) (by decide)]
          exact vn
        · rw [cl' 3 (by omega) (by omega), w3]
          have vd : ∀ j, al t j → (dirT (ba2 (so1 (h 3)) (ha (t 1 jj)) (ea (R (pt t jj)) (t 3 jj + 2)) (barA (h 3) (ha (t 1 jj)) x2)) (tk t jj (Kt t jj)) j ↔ dirT (h 3) t j) := fun j a => by
            show (j = 0 ∨ isD _ (ha (t 1 j))) ↔ (j = 0 ∨ isD _ (ha (t 1 j)))
            by_cases z0 : j = 0
            · exact ⟨fun _ => Or.inl z0, fun _ => Or.inl z0⟩
            · have clj := V_cl v (j := j) (by omega) a
              have raj := ha_rng clj.1 (V_n v).2
              unfold isD
              by_cases z : j = jj
              · subst z
                have e4 : u2 (ba2 (so1 (h 3)) (ha (t 1 j)) (ea (R (pt t j)) (t 3 j + 2)) (barA (h 3) (ha (t 1 j)) x2)) (ha (t 1 j) + 4) = barA (h 3) (ha (t 1 j)) x2 := by
                  unfold ba2 sl
                  rw [u2_wb_ne (by omega) (by omega) (by omega), u2_wb (by omega)]
                  rcases ba.1 with y | y | y | y <;> rw [y] <;> decide
                rw [e4, ba.2]
              · have hh := V_hh v (j := j) (by omega) a q1 q z
                have clq := V_cl v q1 q
                have raq := ha_rng clq.1 (V_n v).2
                have e4 : u2 (ba2 (so1 (h 3)) (ha (t 1 jj)) (ea (R (pt t jj)) (t 3 jj + 2)) (barA (h 3) (ha (t 1 jj)) x2)) (ha (t 1 j) + 4) = u2 (h 3) (ha (t 1 j) + 4) := u2_cg (by rw [ba2_ne (by omega) (by omega) (by omega)]; exact so1_hi _ (by omega)) (by rw [ba2_ne (by omega) (by omega) (by omega)]; exact so1_hi _ (by omega))
                rw [e4]
          refine Hd_keep hd (fun j => Iff.rfl) vd (fun j a d => ⟨?_, fun i hi => ?_⟩) (fun j => rfl) (co 12 (by decide) (by decide)) (co 13 (by decide) (by decide))
          · by_cases z : j = jj
            · rw [z, tk_Ks]
            · rw [tk_Kn z]
          · by_cases z : j = jj
            · rw [z, up_s]
            · rw [up_n _ _ z]
        · rw [co 38 (by decide) (by decide), co 9 (by decide) (by decide)]; exact X.2.2.2.2.1
        · rw [co 9 (by decide) (by decide)]; exact gr
        · rw [ck 0 (by omega), bo 34 (by omega), co 7 (by decide) (by decide)]; exact X.2.2.1
        · rw [ck 1 (by omega), bo 34 (by omega), co 7 (by decide) (by decide)]; exact X.2.2.2.1
        · rw [ck 2 (by omega), bo 34 (by omega), co 7 (by decide) (by decide)]; exact m2
    apply q_V_settled
    have wr' : wI r = r := wI_id (by omega) (by omega)
    refine ⟨fun z => ⟨Or.inl rfl, fin (hs b 0 8 0) (fun o p => hs_o _ _ _ _ _ p) (by rw [hs_same, if_pos (by rw [← wr']; exact z)])⟩, fun z => fin b (fun _ _ => rfl) (by rw [if_neg (by rw [← wr']; exact z), ob 0 (by decide) (by decide) (by decide) (by decide)]; exact h8)⟩
  · apply q_A_protect
    refine T_isEntry v rfl rfl hd hx (fun jj j1 a e => absurd ⟨jj, j1, a, e⟩ ex) (fun no => ⟨fun _ => ?_, fun z => absurd wI_0 z⟩)
    apply q_V_settled
    refine ⟨fun z => absurd z (by decide), fun _ => ?_⟩
    show RunsI G 270 [vR 34, vI x1, vI x2] h _
    apply q_M_bar
    rw [← e34, h8]
    refine ⟨fun z => absurd z (by decide), fun _ => ?_⟩
    refine M_setAt v X hx (fun b z k j2 Z hk a2 e2 ez k2 k0 fr => ?_) (fun b no2 fr => ⟨fun _ => ⟨rfl, Inv_Q hI (FQ_n fr)⟩, fun y => absurd (by decide) y⟩)
    rw [wI_id (z := (k : Int)) (by omega) (by omega)]
    refine ⟨fun y => by omega, fun _ => ⟨fun y => ⟨rfl, Inv_Q hI (FQ_n fr)⟩, fun y => ?_⟩⟩
    exact absurd ⟨j2, by omega, a2, e2⟩ ex
end BAR3
