/-! mending: the reference, and both -/
section MEND3
variable {G : GG} {h : AH}
theorem M_mend {P : Int → AH → Prop} {f d' g : Nat → Int} {a fi ni r f' n' : Int} {K : Nat} (h5 : Sb (h 35)) (h6 : Sb (h 36)) (hE : E (ub (h 35)) f) (h3 : h 34 3 = 0) (e5 : h 34 5 = fi) (e6 : h 34 6 = ni) (hf : 0 ≤ fi ∧ fi ≤ 1000) (ok : BaseOK f a K g) (md : MDr f a K g (u4 f (a + 32)) (u4 f (a + 36)) (u4 f (ca (u4 f (a + 36)) + 20)) (u4 f (ca (u4 f (a + 36)) + 32 + 20)) fi ni r d' f' n')
    (H : ∀ h2, Sb (h2 35) → Sb (h2 36) → (∀ k, k < 13824 → ub (h2 35) k = d' k) → h2 34 5 = f' → h2 34 6 = n' → h2 34 3 = 0 → (∀ k, (k = 4 ∨ (9 ≤ k ∧ k ≤ 11) ∨ k = 41) → h2 34 k = h 34 k) → (∀ o, ¬ (34 ≤ o ∧ o ≤ 51) → h2 o = h o) → P r h2) : RunsI G 229 [vR 34] h P := by
  have byf : By f := hE.by (ub_By _)
  obtain ⟨a01, nr, K1, Kn⟩ := BaseOK_n ok
  obtain ⟨w1, wt⟩ := RWok_fb (b := a) ok.2.2.2.1
  have byf1 := By_fb byf a
  have mpr := ok.2.2.2.2.1.2.2.2.2.1
  unfold clu at mpr
  generalize en : u4 f (a + 32) = n at *
  generalize er : u4 f (a + 36) = root at *
  generalize em : u4 f (ca root + 20) = mp at *
  generalize et : u4 f (ca root + 32 + 20) = tb' at *
  apply q_M_mend
  rw [h3]
  refine ⟨fun _ => ⟨Or.inr rfl, ?_⟩, fun z => absurd wI_0 z⟩
  have i35 : (hs (hs h 34 35 1) 34 36 0) 35 = h 35 := by rw [hs_o _ _ _ _ _ (by decide), hs_o _ _ _ _ _ (by decide)]
  refine M_isMountable (f := f) (by rw [i35]; exact h5) (by rw [i35]; exact hE) (fun h1 a2 K2 g2 ok2 gr e2 mt n0 n1 n2 n12 k1 o1 => ?_) (fun h1 x y z no _ _ _ _ _ => (Base_ex ok no).elim)
  obtain ⟨q1, q2, q3⟩ := BaseOK_fun ok2 ok
  subst q1 q2 q3
  rw [en] at n0
  rw [er] at n1 n2 mt
  rw [em] at n2
  have k34 : ∀ k, k ≠ 0 → k ≠ 1 → k ≠ 2 → k ≠ 12 → k ≠ 15 → k ≠ 35 → k ≠ 36 → h1 34 k = h 34 k := fun k p q r s t u v => by rw [k1 k p q r s t, hs_k _ _ _ _ _ v, hs_k _ _ _ _ _ u]
  have k35 : h1 34 35 = 1 := by rw [k1 35 (by decide) (by decide) (by decide) (by decide) (by decide), hs_k _ _ _ _ _ (by decide), hs_same]
  have k36 : h1 34 36 = 0 := by rw [k1 36 (by decide) (by decide) (by decide) (by decide) (by decide), hs_same]
  have oo : ∀ o, o ≠ 34 → o ≠ 37 → o ≠ 38 → h1 o = h o := fun o p q r => by rw [o1 o p q r, hs_o _ _ _ _ _ p, hs_o _ _ _ _ _ p]
  refine ⟨fun z => absurd z (by decide), fun _ => ?_⟩
  have x35 : h1 35 = h 35 := oo 35 (by decide) (by decide) (by decide)
  refine M_beginWrite (by rw [x35]; exact h5) (by rw [oo 36 (by decide) (by decide) (by decide)]; exact h6) (fun h2 s6 e36 o2 => ?_)
  rw [x35] at e36
  have y34 : h2 34 = h1 34 := o2 34 (by decide)
  have y35 : h2 35 = h 35 := (o2 35 (by decide)).trans x35
  have rest : ∀ (b : AH) (d1 : Nat → Int) (fi1 ni1 : Int) (g' : Nat → Int) (z : AH), E2 g' g2 → TW (fb f a2) g' n root K2 1 0 0 0 z 0 (s0 (fb f a2) root K2 mp tb') → ((r = -7 ∧ Fl 216 (fb f a2) (z 5) fi1 ni1 0 d' f' n') ∨ ∃ d2 fi2 ni2 rr, Fl 216 (fb f a2) (z 5) fi1 ni1 1 d2 fi2 ni2 ∧ Fl 216 (z 5) (lyb (z 5) mp (fun x => z 0 x.toNat ≠ -1) n ((n + 7) / 8).toNat) fi2 ni2 rr d' f' n' ∧ ((rr = 0 ∧ r = -7) ∨ (rr = 1 ∧ ((r = z 6 0 ∧ Bmp (z 5) mp (fun x => z 0 x.toNat ≠ -1) n) ∨ (r = z 6 0 + 1 ∧ ¬ Bmp (z 5) mp (fun x => z 0 x.toNat ≠ -1) n))))) → Sb (b 35) → Sb (b 36) → E (ub (b 35)) (fb f a2) → E (ub (b 36)) (fb f a2) → b 34 5 = fi1 → b 34 6 = ni1 → (0 ≤ fi1 ∧ fi1 ≤ 1000) → b 34 3 = 0 → (∀ k, k ≠ 3 → k ≠ 5 → k ≠ 6 → b 34 k = h1 34 k) → (∀ o, o ≠ 34 → o ≠ 35 → o ≠ 36 → b o = h1 o) → Go G (pI P) 229 87 [some (vR 34), none, none, none] [] b := by
    intro b d1 fi1 ni1 g' z eg tw cs b5 b6 be5 be6 f5 f6 fr b3 k4 ob
    apply q_M_mend_c87
    have rmq : ∀ x, RM (fb f a2) root K2 x ↔ RM f root K2 x := fun x => ⟨fun ⟨i, i1, i2⟩ => ⟨i, i1, by rw [← wt i (by omega)]; exact i2⟩, fun ⟨i, i1, i2⟩ => ⟨i, i1, by rw [wt i (by omega)]; exact i2⟩⟩
    refine M_areSetsRight (f := fb f a2) (g := g') (n := n) (root := root) (K0 := K2) (md := 1) byf1 tw ⟨by rw [k4 0 (by decide) (by decide) (by decide)]; exact n0, by rw [k4 1 (by decide) (by decide) (by decide)]; exact n1, by rw [ob 38 (by decide) (by decide) (by decide)]; exact e2.tr eg.sm, by rw [ob 38 (by decide) (by decide) (by decide)]; exact Gr_E2 e2 gr, nr, Or.inr rfl, by rw [k4 35 (by decide) (by decide) (by decide)]; exact k35⟩ K1 (s0_1 _ _ _ _ _) (by rw [s0_2]) b5 be5 b6 (fun _ => by rw [s0_5]; exact be6) ?_ (fun _ => by rw [k4 36 (by decide) (by decide) (by decide), k36, s0_6]) (fun _ c R fr2 => ?_) (fun q => absurd rfl q)
    · rw [ob 37 (by decide) (by decide) (by decide), s0_0]
      refine Mt_congr mt (fun x x0 _ => ?_)
      rw [← own_met x0]
      refine ⟨fun q => ?_, fun q => ?_⟩
      · rcases q with (q | q) | q
        · exact Or.inl ((rmq x).mpr q)
        · exact Or.inr (Or.inl (by rw [← em]; exact q))
        · exact Or.inr (Or.inr (by rw [← et]; exact q))
      · rcases q with q | q | q
        · exact Or.inl (Or.inl ((rmq x).mp q))
        · exact Or.inl (Or.inr (by rw [em]; exact q))
        · exact Or.inr (by rw [et]; exact q)
    · have c5 : c 35 = b 35 := fr2.1 35 (by decide)
      have cE5 : E (ub (c 35)) (fb f a2) := by rw [c5]; exact be5
      have cE6 : E (ub (c 36)) (z 5) := R.2.2.2.1 rfl
      have cf : c 34 5 = fi1 := by rw [fr2.2 5 (by decide)]; exact f5
      have cn' : c 34 6 = ni1 := by rw [fr2.2 6 (by decide)]; exact f6
      have c3 : c 34 3 = 0 := by rw [fr2.2 3 (by decide)]; exact b3
      have ck : ∀ k, (k = 4 ∨ (9 ≤ k ∧ k ≤ 11) ∨ k = 41 ∨ k = 0 ∨ k = 2) → c 34 k = h1 34 k := fun k p => by rw [fr2.2 k (by omega)]; exact k4 k (by omega) (by omega) (by omega)
      have co : ∀ o, ¬ (34 ≤ o ∧ o ≤ 51) → c o = h o := fun o p => by rw [fr2.1 o (by omega), ob o (by omega) (by omega) (by omega)]; exact oo o (by omega) (by omega) (by omega)
      refine M_flush R.1 R.2.2.1 (by rw [cf]; exact fr) (fun r1 d fl1 r01 d5 d6 d3 dk od => ?_)
      rw [cf, cn'] at fl1
      have kk : ∀ k, (k = 4 ∨ (9 ≤ k ∧ k ≤ 11) ∨ k = 41) → d 34 k = h 34 k := fun k p => by rw [dk k (by omega) (by omega) (by omega), ck k (by omega)]; exact k34 k (by omega) (by omega) (by omega) (by omega) (by omega) (by omega) (by omega)
      have oD : ∀ o, ¬ (34 ≤ o ∧ o ≤ 51) → d o = h o := fun o p => by rw [od o (by omega) (by omega)]; exact co o p
      rcases cs with ⟨rv, fl2⟩ | ⟨dd2, fi2, ni2, rr, fl2, fl3, cs⟩
      · obtain ⟨t1, t2, t3, t4⟩ := Fl_det (Nat.le_refl _) cE5 cE6 fl1 fl2
        subst t1
        rw [rv] at H
        exact ⟨fun _ => H d d5 (by rw [d6]; exact R.2.2.1) t2 t3 t4 d3 kk oD, fun q => absurd wI_0 q⟩
      · obtain ⟨t1, t2, t3, t4⟩ := Fl_det (Nat.le_refl _) cE5 cE6 fl1 fl2
        subst t1
        refine ⟨fun q => absurd q (by decide), fun _ => ?_⟩
        have dE : E (ub (d 35)) (z 5) := fun k hk => (t2 k hk).trans (Fl_1 fl2 k hk)
        have dE6 : E (ub (d 36)) (z 5) := by rw [d6]; exact cE6
        have dM : Mt (d 37) (fun x => z 0 x.toNat ≠ -1) := by rw [od 37 (by decide) (by decide)]; exact R.2.2.2.2.1
        have dn : d 34 0 = n := by rw [dk 0 (by decide) (by decide) (by decide), ck 0 (by omega)]; exact n0
        have dm : d 34 2 = mp := by rw [dk 2 (by decide) (by decide) (by decide), ck 2 (by omega)]; exact n2
        have d36 : d 34 36 = z 6 0 := by rw [dk 36 (by decide) (by decide) (by decide)]; exact R.2.2.2.2.2.1 rfl
        have d3' : d 34 3 = 0 := by rw [d3, if_pos rfl]; exact c3
        have fr2' := Fl_f fr fl2
        have lay : ∀ x2 : Int, ((x2 = 0 ∧ Bmp (z 5) mp (fun x => z 0 x.toNat ≠ -1) n) ∨ (x2 = 1 ∧ ¬ Bmp (z 5) mp (fun x => z 0 x.toNat ≠ -1) n)) → ∀ (m j : Nat) (e : AH), (j : Int) + m = (n + 7) / 8 → Sb (e 36) → E (ub (e 36)) (lyb (z 5) mp (fun x => z 0 x.toNat ≠ -1) n j) → (∀ o, o ≠ 36 → e o = d o) → Go G (pI P) 229 117 [some (vR 34), none, some (vI x2), some (vI (j : Int))] [] e := by
          intro x2 hx2 m
          induction m with
          | zero =>
            intro j e hj e6' eE oe
            apply q_M_mend_c117
            rw [oe 34 (by decide), dn, wI_id (z := n + 7) (by omega) (by omega), tdiv_pos (by omega), wI_id (z := (n + 7) / 8) (by omega) (by omega), wI_id (z := (j : Int)) (by omega) (by omega)]
            refine ⟨by decide, fun _ => ?_, fun q => by omega⟩
            rw [show j = ((n + 7) / 8).toNat by omega] at eE
            refine M_flush (by rw [oe 35 (by decide)]; exact d5) e6' (by rw [oe 34 (by decide), t3]; exact fr2') (fun r2 g fl4 r01 g5 g6 g3 gk og => ?_)
            rw [oe 34 (by decide), t3, t4, oe 35 (by decide)] at fl4
            obtain ⟨u1, u2, u3, u4⟩ := Fl_det (Nat.le_refl _) dE eE fl4 fl3
            subst u1
            have gkk : ∀ k, (k = 4 ∨ (9 ≤ k ∧ k ≤ 11) ∨ k = 41) → g 34 k = h 34 k := fun k p => by rw [gk k (by omega) (by omega) (by omega), oe 34 (by decide)]; exact kk k p
            have g3' : g 34 3 = 0 := by
              rw [g3, oe 34 (by decide), d3']
              split <;> rfl
            have goo : ∀ o, ¬ (34 ≤ o ∧ o ≤ 51) → g o = h o := fun o p => by rw [og o (by omega) (by omega), oe o (by omega)]; exact oD o p
            have fin := H g g5 (by rw [g6]; exact e6') u2 u3 u4 g3' gkk goo
            rcases cs with ⟨v1, v2⟩ | ⟨v1, v2⟩
            · rw [v1]
              rw [v2] at fin
              exact ⟨fun _ => fin, fun q => absurd wI_0 q⟩
            · rw [v1]
              refine ⟨fun q => absurd q (by decide), fun _ => ?_⟩
              rw [gk 36 (by decide) (by decide) (by decide), oe 34 (by decide), d36]
              have ev : z 6 0 + x2 = r := by
                rcases v2 with ⟨w1, w2⟩ | ⟨w1, w2⟩ <;> rcases hx2 with ⟨y1, y2⟩ | ⟨y1, y2⟩
                · rw [w1, y1]; omega
                · exact absurd w2 y2
                · exact absurd y2 w2
                · rw [w1, y1]
              rw [ev]
              exact fin
          | succ m ih =>
            intro j e hj e6' eE oe
            apply q_M_mend_c117
            rw [oe 34 (by decide), dn, dm, wI_id (z := n + 7) (by omega) (by omega), tdiv_pos (by omega), wI_id (z := (n + 7) / 8) (by omega) (by omega), wI_id (z := (j : Int)) (by omega) (by omega)]
            refine ⟨by decide, fun q => by omega, fun _ => ?_⟩
            apply q_M_clusterAt
            have ec : ca mp = 1024 + 128 * (mp - 2) := rfl
            rw [← ec]
            refine M_mapOctet (M := fun x => z 0 x.toNat ≠ -1) (by rw [oe 34 (by decide), dn]; exact nr) (by rw [oe 37 (by decide)]; exact dM) (by omega) (by rw [oe 34 (by decide), dn]; omega) ?_
            rw [oe 34 (by decide), dn, wI_id (z := ca mp + (j : Int)) (by omega) (by omega), show (j : Int) + 1 = ((j + 1 : Nat) : Int) by omega]
            refine ⟨by omega, ih (j + 1) _ (by omega) (fun k hk => ?_) ?_ (fun o p => by rw [hs_o _ _ _ _ _ p]; exact oe o p)⟩
            · rw [hs_app, if_pos rfl]
              split
              · exact w8_rng _
              · exact e6' k hk
            · rw [ub_w8, show (((ca mp + (j : Int)).toNat : Nat) : Int) = ca mp + j by omega]
              exact E_wb eE _ _ _
        refine M_isMapRight (f := z 5) (M := fun x => z 0 x.toNat ≠ -1) dE (by rw [dn]; exact nr) (by rw [dm]; omega) dM (fun bm => ⟨fun q => absurd q (by decide), fun _ => lay 0 (Or.inl ⟨rfl, by rw [dn, dm] at bm; exact bm⟩) ((n + 7) / 8).toNat 0 d (by omega) (by rw [d6]; exact R.2.2.1) dE6 (fun _ _ => rfl)⟩) (fun bm => ⟨fun _ => lay 1 (Or.inr ⟨rfl, by rw [dn, dm] at bm; exact bm⟩) ((n + 7) / 8).toNat 0 d (by omega) (by rw [d6]; exact R.2.2.1) dE6 (fun _ _ => rfl), fun q => absurd wI_0 q⟩)
  rw [y34, n12]
  by_cases a0 : a2 = 0
  · rw [if_pos a0]
    have ef : fb f a2 = f := by unfold fb; rw [if_pos a0]
    refine ⟨fun _ => ?_, fun q => absurd wI_0 q⟩
    rcases md with ⟨_, fl⟩ | ⟨d1, fi1, ni1, g', z, fl, eg, tw, cs⟩
    · rw [ef] at fl
      have := (Fl_same hf.1 (fun _ _ => rfl) fl).1
      exact absurd this (by decide)
    · have sm := Fl_same hf.1 (fun _ _ => rfl) (by rw [ef] at fl; exact fl)
      refine rest h2 d1 fi1 ni1 g' z eg tw cs (by rw [y35]; exact h5) s6 (by rw [y35, ef]; exact hE) (by rw [ef]; exact e36.tr hE) ?_ ?_ (by rw [sm.2.2.1]; exact hf) ?_ (fun k _ _ _ => by rw [y34]) (fun o _ _ q => o2 o q)
      · rw [y34, k34 5 (by decide) (by decide) (by decide) (by decide) (by decide) (by decide) (by decide), sm.2.2.1]; exact e5
      · rw [y34, k34 6 (by decide) (by decide) (by decide) (by decide) (by decide) (by decide) (by decide), sm.2.2.2]; exact e6
      · rw [y34, k34 3 (by decide) (by decide) (by decide) (by decide) (by decide) (by decide) (by decide)]; exact h3
  · rw [if_neg a0]
    have ef : fb f a2 = bt f := by unfold fb; rw [if_neg a0]
    refine ⟨fun q => absurd q (by decide), fun _ => ?_⟩
    have key : ∀ (m j : Nat) (b : AH), j + m = 256 → Sb (b 36) → E (ub (b 36)) (fun k => if k < j then f (k + 256) else f k) → (∀ o, o ≠ 36 → b o = h2 o) → Go G (pI P) 229 48 [some (vR 34), some (vI (j : Int)), none, none] [] b := by
      intro m
      induction m with
      | zero =>
        intro j b hj b6 bE ob
        have ej : j = 256 := (by omega)
        subst ej
        have bE' : E (ub (b 36)) (fb f a2) := by rw [ef]; exact bE
        have bE5 : E (ub (b 35)) f := by rw [ob 35 (by decide), y35]; exact hE
        apply q_M_mend_c48
        refine ⟨fun _ => ?_, fun q => absurd (by decide) q⟩
        have b5 : b 34 5 = fi := by rw [ob 34 (by decide), y34, k34 5 (by decide) (by decide) (by decide) (by decide) (by decide) (by decide) (by decide)]; exact e5
        have b6' : b 34 6 = ni := by rw [ob 34 (by decide), y34, k34 6 (by decide) (by decide) (by decide) (by decide) (by decide) (by decide) (by decide)]; exact e6
        refine M_flush (by rw [ob 35 (by decide), y35]; exact h5) b6 (by rw [b5]; exact hf) (fun r1 c fl1 r01 c5 c6 c3 ck oc => ?_)
        rw [b5, b6'] at fl1
        have c34 : ∀ k, k ≠ 3 → k ≠ 5 → k ≠ 6 → c 34 k = h1 34 k := fun k p q r => by rw [ck k p q r, ob 34 (by decide), y34]
        have c3' : c 34 3 = 0 := by
          rw [c3, ob 34 (by decide), y34, k34 3 (by decide) (by decide) (by decide) (by decide) (by decide) (by decide) (by decide), h3]
          split <;> rfl
        rcases md with ⟨rv, fl⟩ | ⟨d1, fi1, ni1, g', z, fl, eg, tw, cs⟩
        · obtain ⟨t1, t2, t3, t4⟩ := Fl_det (Nat.le_refl _) bE5 bE' fl1 fl
          subst t1
          rw [rv] at H
          refine ⟨fun _ => H c c5 (by rw [c6]; exact b6) t2 t3 t4 c3' (fun k p => ?_) (fun o p => ?_), fun q => absurd wI_0 q⟩
          · rw [c34 k (by omega) (by omega) (by omega)]; exact k34 k (by omega) (by omega) (by omega) (by omega) (by omega) (by omega) (by omega)
          · rw [oc o (by omega) (by omega), ob o (by omega), o2 o (by omega)]; exact oo o (by omega) (by omega) (by omega)
        · obtain ⟨t1, t2, t3, t4⟩ := Fl_det (Nat.le_refl _) bE5 bE' fl1 fl
          subst t1
          refine ⟨fun q => absurd q (by decide), fun _ => ?_⟩
          exact rest c d1 fi1 ni1 g' z eg tw cs c5 (by rw [c6]; exact b6) (fun k hk => (t2 k hk).trans (Fl_1 fl k hk)) (by rw [c6]; exact bE') t3 t4 (Fl_f hf fl) c3' c34 (fun o p q r => by rw [oc o p q, ob o r]; exact o2 o r)
      | succ m ih =>
        intro j b hj b6 bE ob
        apply q_M_mend_c48
        rw [wI_id (z := (j : Int)) (by omega) (by omega), wI_id (z := 256 + (j : Int)) (by omega) (by omega), ob 35 (by decide), y35, show (j : Int).toNat = j by omega, show (256 + (j : Int)).toNat = j + 256 by omega, show (j : Int) + 1 = ((j + 1 : Nat) : Int) by omega]
        refine ⟨fun q => by omega, fun _ => ⟨by omega, by omega, ih (j + 1) _ (by omega) (fun k hk => ?_) (fun k hk => ?_) (fun o p => by rw [hs_o _ _ _ _ _ p]; exact ob o p)⟩⟩
        · rw [hs_app, if_pos rfl]
          split
          · exact w8_rng _
          · exact b6 k hk
        · have q0 := bE k hk
          have q1 := hE (j + 256) (by omega)
          unfold ub at *
          rw [hs_app, if_pos rfl]
          by_cases q : k = j
          · rw [if_pos q, w8_mod, q1]
            show f (j + 256) = if k < j + 1 then f (k + 256) else f k
            rw [if_pos (by omega), q]
          · rw [if_neg q, q0]
            show (if k < j then f (k + 256) else f k) = if k < j + 1 then f (k + 256) else f k
            by_cases q2 : k < j
            · rw [if_pos q2, if_pos (by omega)]
            · rw [if_neg q2, if_neg (by omega)]
    exact key 256 0 h2 rfl s6 (by
      have e0 : (fun k => if k < 0 then f (k + 256) else f k) = f := by
        funext k
        rw [if_neg (by omega)]
      rw [e0]
      exact e36.tr hE) (fun _ _ => rfl)
theorem T_mend {Mn : AH → Prop} (hI : Inv Mn h) : okI G (Inv Mn) 146 229 [] h := by
  obtain ⟨s1, s2⟩ := wI_st hI
  obtain ⟨⟨c1, c2, c3, c4⟩, m⟩ := id hI
  have hE : E (ub (h 35)) (h 3) := fun k hk => by rw [c1.1.2.1 k hk]; exact (c1.2.2.2 k hk).symm
  rcases c2.2.2.2.2.1 with h8 | h8
  · have h43 : h 34 3 = 0 := by rw [← c2.2.2.2.1]; exact h8
    refine V_mend c1.1 h8 c2.2.1 (fun b x y z no a1 a2 a3 ob => ?_) (fun b r a K g ok md sy f17 ob => ?_)
    · have b34 : b 34 = h 34 := ob 34 (by decide)
      have b35 : b 35 = h 35 := ob 35 (by decide)
      show RunsI G 229 [vR 34] b _
      apply q_M_mend
      rw [b34, h43]
      refine ⟨fun _ => ⟨Or.inr rfl, ?_⟩, fun z => absurd wI_0 z⟩
      have i35 : (hs (hs b 34 35 1) 34 36 0) 35 = h 35 := by rw [hs_o _ _ _ _ _ (by decide), hs_o _ _ _ _ _ (by decide), b35]
      refine M_isMountable (f := h 3) (by rw [i35]; exact c1.2.1) (by rw [i35]; exact hE) (fun h1 a2 K2 g2 ok2 _ _ _ _ _ _ _ _ _ => (Base_ex ok2 no).elim) (fun h1 x' y' z' no' e9 e10 e11 k1 o1 => ⟨fun _ => ?_, fun q => absurd wI_0 q⟩)
      obtain ⟨q1, q2, q3⟩ := BaseNo_fun no' no
      have oo : ∀ o, ¬ (o = 6 ∨ o = 7 ∨ o = 9 ∨ o = 17 ∨ o = 24 ∨ o = 34 ∨ o = 37 ∨ o = 38) → h1 o = h o := fun o p => by rw [o1 o (by omega) (by omega) (by omega), hs_o _ _ _ _ _ (by omega), hs_o _ _ _ _ _ (by omega)]; exact ob o (by omega)
      have kk : ∀ k, (3 ≤ k ∧ k ≤ 6) ∨ k = 41 → h1 34 k = h 34 k := fun k p => by rw [k1 k (by omega) (by omega) (by omega) (by omega) (by omega) (by omega) (by omega) (by omega), hs_k _ _ _ _ _ (by omega), hs_k _ _ _ _ _ (by omega), b34]
      have t17 : h1 17 = b 17 := by rw [o1 17 (by decide) (by decide) (by decide), hs_o _ _ _ _ _ (by decide), hs_o _ _ _ _ _ (by decide)]
      refine ⟨by rw [e9, q1], ⟨C1_congr (oo 2 (by decide)) (oo 3 (by decide)) (oo 4 (by decide)) (oo 35 (by decide)) (oo 36 (by decide)) c1, C2_congr (by rw [oo 1 (by decide)]) (by rw [oo 1 (by decide)]) (by rw [oo 0 (by decide)]) (by rw [oo 26 (by decide)]) (kk 3 (by omega)) (kk 4 (by omega)) (kk 5 (by omega)) (kk 6 (by omega)) c2, C3_congr (by rw [oo 32 (by decide)]) (kk 41 (by omega)) (oo 33 (by decide)) (oo 52 (by decide)) c3, ⟨?_, ?_, ?_⟩⟩, fun q => ?_⟩
      · rw [t17, a1, e9, q1]
      · rw [t17, a2, e10, q2]
      · rw [t17, a3, e11, q3]
      · rw [oo 0 (by decide), h8] at q
        exact absurd q (by decide)
    · have b34 : b 34 = h 34 := ob 34 (by decide)
      have b35 : b 35 = h 35 := ob 35 (by decide)
      show RunsI G 229 [vR 34] b _
      refine M_mend (f := h 3) (by rw [b35]; exact c1.2.1) (by rw [ob 36 (by decide)]; exact c1.2.2.1) (by rw [b35]; exact hE) (by rw [b34]; exact h43) (by rw [b34]; exact c2.1.symm) (by rw [b34]; exact c2.2.2.1.symm) c2.2.1 ok md (fun h2 g5 g6 gd gf gn g3 gk go => ⟨rfl, ?_⟩)
      have o1 : h2 1 = b 1 := go 1 (by decide)
      have o2 : h2 2 = b 2 := go 2 (by decide)
      have o3 : h2 3 = b 3 := go 3 (by decide)
      have o4 : h2 4 = b 4 := go 4 (by decide)
      have o17 : h2 17 = b 17 := go 17 (by decide)
      have o0 : h2 0 = h 0 := (go 0 (by decide)).trans (ob 0 (by decide))
      have k34 : ∀ k, (k = 4 ∨ (9 ≤ k ∧ k ≤ 11) ∨ k = 41) → h2 34 k = h 34 k := fun k p => by rw [gk k p, b34]
      have bf : 0 ≤ b 1 3 ∧ b 1 3 ≤ 1000 := by
        rcases md with ⟨_, fl⟩ | ⟨d1, fi1, ni1, g', z, fl, _, _, ⟨_, fl2⟩ | ⟨_, _, _, _, fl2, fl3, _⟩⟩
        · exact Fl_f c2.2.1 fl
        · exact Fl_f (Fl_f c2.2.1 fl) fl2
        · exact Fl_f (Fl_f (Fl_f c2.2.1 fl) fl2) fl3
      refine ⟨⟨⟨?_, g5, g6, fun k hk => ?_⟩, ⟨?_, ?_, ?_, ?_, ?_, ?_⟩, C3_congr (by rw [go 32 (by decide), ob 32 (by decide)]) (k34 41 (by omega)) ((go 33 (by decide)).trans (ob 33 (by decide))) ((go 52 (by decide)).trans (ob 52 (by decide))) c3, C4_congr ?_ ?_ ?_ (k34 9 (by omega)) (k34 10 (by omega)) (k34 11 (by omega)) c4⟩, fun q => ?_⟩
      · unfold Syn Dk at *
        rw [o2, o3, o4]
        exact sy
      · rw [o2]; exact (gd k hk).symm
      · rw [o1, gf]
      · rw [o1]; exact bf
      · rw [o1, gn]
      · rw [o0, h8, g3]
      · rw [o0]; exact Or.inl h8
      · rw [go 26 (by decide), ob 26 (by decide), k34 4 (by omega)]; exact c2.2.2.2.2.2
      · rw [o17]; exact f17 15 (by omega) (by omega)
      · rw [o17]; exact f17 16 (by omega) (by omega)
      · rw [o17]; exact f17 17 (by omega) (by omega)
      · rw [o0, h8] at q
        exact absurd q (by decide)
  · apply q_V_mend
    rw [h8]
    refine ⟨fun q => absurd q (by decide), fun _ => ?_⟩
    show RunsI G 229 [vR 34] h _
    apply q_M_mend
    rw [← c2.2.2.2.1, h8]
    exact ⟨fun q => absurd q (by decide), fun _ => ⟨rfl, hI⟩⟩
end MEND3
