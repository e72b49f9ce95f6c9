/-! look -/
def LD (f g : Nat → Int) (t R : AH) (nm : Nat → Int) (sz : Int) (jj : Nat) : Prop := sz = rd f (ha (t 1 jj) + 35) ∧ ∀ i : Nat, (i : Int) < sz → g (nm i).toNat = g (lt f (ea (R (pt t jj)) (t 3 jj + 2)) i).toNat
section LOOK
variable {G : GG} {h : AH} {f g : Nat → Int} {n root mp : Int} {t R : AH}
theorem LD_one (v : V f g n root mp t R) {nm nm' : Nat → Int} {sz : Int} {j j' : Nat} (e : ∀ i : Nat, (i : Int) < sz → nm i = nm' i) (j1 : 1 ≤ j) (j1' : 1 ≤ j') (a : al t j) (a' : al t j') (p : pt t j = pt t j') (l : LD f g t R nm sz j) (l' : LD f g t R nm' sz j') : j = j' := by
  by_cases z : j = j'
  · exact z
  · refine absurd ?_ (v.2.2.2.2.1 j j' j1 j1' a a' z p)
    have c := (V_cl v j1 a).2.2.1
    have c' := (V_cl v j1' a').2.2.1
    rw [← p] at c'
    rw [← c, ← c']
    refine ⟨by rw [← l.1, ← l'.1], fun i hi => ?_⟩
    rw [← l.1] at hi
    have q := l.2 i hi
    have q' := l'.2 i hi
    rw [← p] at q'
    rw [← q, ← q', e i hi]
theorem T_findBut {P : Int → AH → Prop} {jd : Nat} {o : Int} (v : V f g n root mp t R) (h3 : h 3 = f) (h71 : h 7 1 = n) (h72 : h 7 2 = root) (h9 : h 9 = g) (gr : Gr g) (a : al t jd) (d : dirT f t jd) (nmh : isNm (h 33) (h 32 1)) (ho : in32 o)
    (H1 : ∀ b jj, 1 ≤ jj → al t jj → pt t jj = jd → t 1 jj ≠ o → LD f g t R (h 33) (h 32 1) jj → (∀ o, o ≠ 15 → o ≠ 16 → b o = h o) → P (t 1 jj) b)
    (H0 : ∀ b, (∀ jj, 1 ≤ jj → al t jj → pt t jj = jd → LD f g t R (h 33) (h 32 1) jj → t 1 jj = o) → (∀ o, o ≠ 15 → o ≠ 16 → b o = h o) → P (-9) b) : RunsI G 134 [vR 11, vI (t 1 jd), vR 32, vI o] h P := by
  unfold in32 at ho
  have nn := V_n v
  have kn := V_K v a
  apply q_T_findBut
  refine T_openV_15 v h3 h71 h72 a (fun b ro fr => ?_)
  have b3 : b 3 = f := (fr 3 (by decide) (by decide)).trans h3
  have b32 : b 32 = h 32 := fr 32 (by decide) (by decide)
  have b33 : b 33 = h 33 := fr 33 (by decide) (by decide)
  have b9 : b 9 = g := (fr 9 (by decide) (by decide)).trans h9
  have key : ∀ (m : Nat) (p : Int), p + 2 * m = 4 * (Kt t jd : Int) → 0 ≤ p → p % 2 = 0 → (∀ jj, 1 ≤ jj → al t jj → pt t jj = jd → t 3 jj < p → LD f g t R (h 33) (h 32 1) jj → t 1 jj = o) → Go G (pI P) 134 12 [some (vR 11), none, some (vR 32), some (vI o), some (vI p), none] [] b := by
    intro m
    induction m with
    | zero =>
      intro p hm p0 pe no
      apply q_T_findBut_c12
      apply q_C_places_15
      rw [ro.1, wI_id (z := 4 * (Kt t jd : Int)) (by omega) (by omega), wI_id (z := p) (by omega) (by omega)]
      refine ⟨fun _ => H0 b (fun jj j1 aj pj l => no jj j1 aj pj ?_ l) fr, fun z => by omega⟩
      have := V_e v j1 aj
      rw [pj] at this
      omega
    | succ m ih =>
      intro p hm p0 pe no
      have c := (v.1.2.1 jd a (p / 4).toNat (by omega)).1
      unfold clu at c
      have er := ea_rng (r := R jd) (e := p) p0 (by omega)
      have by' := (V_by v).rd (show 0 ≤ ea (R jd) p by omega) (show ea (R jd) p < 13824 by omega)
      apply q_T_findBut_c12
      apply q_C_places_15
      rw [ro.1, wI_id (z := 4 * (Kt t jd : Int)) (by omega) (by omega), wI_id (z := p) (by omega) (by omega)]
      refine ⟨fun z => by omega, fun _ => ?_⟩
      refine C_entry_15 ro p0 (by omega) (D_get (by omega) (by omega) ?_)
      rw [b3, wI_id (z := rd f (ea (R jd) p)) (by omega) (by omega)]
      have ev : ∀ jj, 1 ≤ jj → al t jj → pt t jj = jd → t 3 jj < p + 2 → t 3 jj < p ∨ t 3 jj = p := fun jj j1 aj pj lt' => by
        have := (v.1.2.2.2.1 jj j1 aj).2.1.2
        omega
      refine ⟨fun ty => ?_, fun ty => ih (p + 2) (by omega) (by omega) (by omega) (fun jj j1 aj pj lt' l => ?_)⟩
      · rw [ha_ea] at ty
        obtain ⟨jj, j1, aj, pj, t3, t1⟩ := V_ty v a d (i := (p / 4).toNat) (by omega) (o := p % 4) (by omega) (by omega) ty
        have t3' : t 3 jj = p := (by omega)
        have cl := V_cl v j1 aj
        have wa := V_at v j1 aj
        have ee := V_e v j1 aj
        rw [pj, t3'] at ee
        have hea : ea (R jd) p = ha (t 1 jj) := by rw [cl.2.2.1, pj, t3']
        rw [hea]
        have uq : ∀ j2, 1 ≤ j2 → al t j2 → pt t j2 = jd → t 3 j2 = p → j2 = jj := fun j2 q1 q2 q3 q4 => v.1.2.2.2.2 j2 jj q1 j1 q2 aj (by rw [q3, pj]) (by rw [q4, t3'])
        refine T_placeOf (by omega) (by omega) ?_
        rw [wI_id (z := t 1 jj) (by omega) (by omega), wI_id (z := o) (by omega) (by omega)]
        refine ⟨fun eo => ih (p + 2) (by omega) (by omega) (by omega) (fun j2 q1 q2 q3 q4 l => ?_), fun eo => ?_⟩
        · rcases ev j2 q1 q2 q3 q4 with y | y
          · exact no j2 q1 q2 q3 y l
          · rw [uq j2 q1 q2 q3 y]; exact eo
        · refine C_entry_15 ro (by omega) (by omega) ?_
          have c2 := (v.1.2.1 jd a ((p + 2) / 4).toNat (by omega)).1
          unfold clu at c2
          have er2 : 1024 ≤ ea (R jd) (p + 2) ∧ ea (R jd) (p + 2) + 64 ≤ 13824 := by
            unfold ea ca
            omega
          have ok := V_ln v j1 aj
          rw [pj, t3'] at ok
          have n30 := ok.2.2.2.1.1
          have cnd : (b 32 1 = rd (b 3) (ha (t 1 jj) + 35) ∧ ∀ i : Nat, (i : Int) < b 32 1 → b 9 (b 33 i).toNat = b 9 (lt (b 3) (ea (R jd) (p + 2)) i).toNat) ↔ LD f g t R (h 33) (h 32 1) jj := by
            unfold LD
            rw [b32, b33, b9, b3, pj, t3']
          refine E_isLike_32 (by rw [b3]; exact V_by v) (by omega) (by omega) (by omega) (by omega) (by rw [b32]; have := nmh.1; have := nmh.2.1; omega) (fun i hi => ?_) (fun q9 i hi => ?_) (by rw [b9]; exact gr) (fun l => ?_) (fun l => ?_)
          · rw [b32] at hi
            rw [b33]
            have := isLet_rng (nmh.2.2.1 i hi)
            omega
          · rw [b3] at q9 ⊢
            have := isLet_rng (ok.2.2.2.1.2.2.1.2.2.1 i (by rw [q9]; exact hi))
            omega
          · refine ⟨fun z => absurd z (by decide), fun _ => T_placeOf (by omega) (by omega) (H1 b jj j1 aj pj eo (cnd.mp l) fr)⟩
          · refine ⟨fun _ => ih (p + 2) (by omega) (by omega) (by omega) (fun j2 q1 q2 q3 q4 l2 => ?_), fun z => absurd wI_0 z⟩
            rcases ev j2 q1 q2 q3 q4 with y | y
            · exact no j2 q1 q2 q3 y l2
            · rw [uq j2 q1 q2 q3 y] at l2; exact absurd (cnd.mpr l2) l
      · rcases ev jj j1 aj pj lt' with y | y
        · exact no jj j1 aj pj y l
        · have := (V_ln v j1 aj).1.1
          rw [(V_cl v j1 aj).2.2.1, pj, y] at this
          exact absurd this ty
  exact key (2 * Kt t jd) 0 (by omega) (by omega) rfl (fun jj j1 aj pj lt' l => by have := (v.1.2.2.2.1 jj j1 aj).2.1.1; omega)
theorem M_like {P : Int → AH → Prop} {jd d : Nat} {sz : Int} {z : AH} (v : V f g n root mp t R) (X : RX f g n root h) (Z : ZR f g n root t R z h) (hk : (d : Int) < z 1 0) (a : al t jd) (dd : dirT f t jd) (e : t 1 jd = z 2 d) (nmh : isNm (h 52) sz)
    (H1 : ∀ (b : AH) (k jj : Nat), (k : Int) < z 1 0 → 1 ≤ k → 1 ≤ jj → al t jj → pt t jj = jd → t 1 jj = z 2 k → LD f g t R (h 52) sz jj → ZR f g n root t R z b → FQ h b → P k b)
    (H0 : ∀ b : AH, (∀ jj, 1 ≤ jj → al t jj → pt t jj = jd → ¬ LD f g t R (h 52) sz jj) → ZR f g n root t R z b → FQ h b → P (-9) b) : RunsI G 234 [vR 34, vI (d : Int), vI sz] h P := by
  have nn := V_n v
  have s1 := nmh.1
  have s2 := nmh.2.1
  have zd := ZR_dir v Z hk a e
  obtain ⟨k', S, kl, L, A⟩ := id Z
  have NN := SI_N S (by omega)
  have N1 := S.1.1
  have kn := V_K v a
  apply q_M_like
  have copy : ∀ (m i : Nat) (b : AH), (i : Int) + m = sz → (∀ j : Nat, j < i → b 50 j = h 52 j) → b 34 38 = sz → (∀ k, k ≠ 38 → b 34 k = h 34 k) → (∀ o, o ≠ 34 → o ≠ 50 → b o = h o) → Go G (pI P) 234 7 [some (vR 34), some (vI (d : Int)), some (vI sz), some (vI (i : Int))] [] b := by
    intro m
    induction m with
    | zero =>
      intro i b hm b50 b38 k4 ob
      have Fb : FQ h b := ⟨fun o p => ob o (by omega) (by omega), fun k p => k4 k (by omega)⟩
      have Xb := RX_Q Fb X
      have Ab : SA f root z b := SA_congr A (k4 34 (by decide)) (fun o p q => ob o (by omega) (by omega))
      apply q_M_like_c7
      rw [wI_id (z := sz) (by omega) (by omega), wI_id (z := (i : Int)) (by omega) (by omega)]
      refine ⟨fun _ => ?_, fun q => by omega⟩
      refine M_rowZ v Xb ⟨k', S, kl, L, Ab⟩ hk a e (fun c rm k5 o5 => ?_)
      have loop : ∀ (m k : Nat) (c : AH), (k : Int) + m = z 1 0 → 1 ≤ k → (∀ j : Nat, 1 ≤ j → j < k → z 3 j = d → ∀ jj, al t jj → t 1 jj = z 2 j → ¬ LD f g t R (h 52) sz jj) → (∀ i : Nat, (i : Int) < sz → c 50 i = h 52 i) → c 34 38 = sz → Rm c (Kt t jd) (R jd) → FQ h c → SA f root z c → Go G (pI P) 234 37 [some (vR 34), some (vI (d : Int)), none, some (vI (k : Int))] [] c := by
        intro m
        induction m with
        | zero =>
          intro k c hm k1 no c50 c38 rm fc Ac
          apply q_M_like_c37
          rw [Ac.1, wI_id (z := z 1 0) (by omega) (by omega), wI_id (z := (k : Int)) (by omega) (by omega)]
          refine ⟨fun _ => H0 c (fun jj j1 aj pj l => ?_) ⟨k', S, kl, L, Ac⟩ fc, fun q => by omega⟩
          obtain ⟨j, hj, ej⟩ := SL_all v S kl L jj aj
          have j0 := SL_0 v S aj hj ej.symm
          obtain ⟨kp, p42, pk, pp, p43, _⟩ := ZR_par v (b := c) ⟨k', S, kl, L, Ac⟩ hj aj ej.symm (by omega)
          have q1 := (Ac.2.2.2 j (by omega) hj).1
          have kd : kp = d := by
            rcases Nat.lt_trichotomy kp d with y | y | y
            · exact absurd (by rw [← pp, pj, e]) (S.2.2.2.2.1 kp d y hk)
            · exact y
            · exact absurd (by rw [← pp, pj, e]) (S.2.2.2.2.1 d kp y pk)
          exact no j (by omega) (by omega) (by rw [← q1, p42, kd]) jj aj ej.symm l
        | succ m ih =>
          intro k c hm k1 no c50 c38 rm fc Ac
          have hk' : (k : Int) < z 1 0 := (by omega)
          obtain ⟨q1, q2, q3, q4, q5, q6, q7⟩ := Ac.2.2.2 k k1 hk'
          obtain ⟨p1, p2, p3, p4, p5⟩ := S.2.2.2.1 k k1 hk'
          have Xc := RX_Q fc X
          apply q_M_like_c37
          rw [Ac.1, wI_id (z := z 1 0) (by omega) (by omega), wI_id (z := (k : Int)) (by omega) (by omega), show (k : Int).toNat = k by omega, q1, q2, wI_id (z := z 3 k) (by omega) (by omega), wI_id (z := (d : Int)) (by omega) (by omega), show (k : Int) + 1 = ((k + 1 : Nat) : Int) by omega]
          refine ⟨fun q => by omega, fun _ => ⟨by omega, fun ed => ⟨by omega, ?_⟩, fun ed => ih (k + 1) c (by omega) (by omega) (fun j w1 w2 w3 => ?_) c50 c38 rm fc Ac⟩⟩
          · obtain ⟨jj, aj, ej⟩ := L.1 k hk'
            obtain ⟨kp, p42, pk, pp, p43, _, _, _, _, _, j1⟩ := ZR_par v (b := c) ⟨k', S, kl, L, Ac⟩ hk' aj ej k1
            have kd : kp = d := by rw [q1, ed] at p42; omega
            have pj : pt t jj = jd := V_inj v (v.1.2.2.2.1 jj j1 aj).1 a (by rw [pp, kd, e])
            have t3 : t 3 jj = z 4 k := by rw [← p43, q2]
            have w := v.1.2.2.2.1 jj j1 aj
            have ee := V_e v j1 aj
            rw [pj] at ee
            have ok := (v.2.1 jj j1 aj).2
            unfold VS at ok
            rw [pj, t3] at ok
            rw [t3] at ee
            have sok : SetOK f (c 38) (c 34 0) (ea (c 39) (z 4 k)) (ea (c 39) (z 4 k + 2)) (4 * c 34 17 - z 4 k) := by
              rw [Xc.2.2.1, rm.1]
              exact (SetOK_row rm.2.2 p3.1 (by omega)).mpr (SetOK_g Xc.2.2.2.2.1.sm ok)
            have ea0 : ea (c 39) (z 4 k) = ha (t 1 jj) := by rw [(V_cl v j1 aj).2.2.1, pj, t3]; exact ea_cg rm.2.2 p3.1 (by omega)
            have ea2 : ea (c 39) (z 4 k + 2) = ea (R (pt t jj)) (t 3 jj + 2) := by rw [pj, t3]; exact ea_cg rm.2.2 (by omega) (by omega)
            have ok' := V_ln v j1 aj
            have cnd : (rd f (ea (c 39) (z 4 k) + 35) = sz ∧ ∀ i : Nat, (i : Int) < sz → c 38 (lt f (ea (c 39) (z 4 k + 2)) i).toNat = c 38 (h 52 i).toNat) ↔ LD f g t R (h 52) sz jj := by
              rw [ea0, ea2]
              have gl : rd f (ha (t 1 jj) + 35) = sz → ∀ i : Nat, (i : Int) < sz → c 38 (lt f (ea (R (pt t jj)) (t 3 jj + 2)) i).toNat = g (lt f (ea (R (pt t jj)) (t 3 jj + 2)) i).toNat ∧ c 38 (h 52 i).toNat = g (h 52 i).toNat := fun eq i hi => by
                have l1 := isLet_rng (nmh.2.2.1 i hi)
                have l2 := isLet_rng (ok'.2.2.2.1.2.2.1.2.2.1 i (by rw [eq]; exact hi))
                exact ⟨Xc.2.2.2.2.1 _ (by omega), Xc.2.2.2.2.1 _ (by omega)⟩
              refine ⟨fun y => ⟨y.1.symm, fun i hi => ?_⟩, fun y => ⟨y.1.symm, fun i hi => ?_⟩⟩
              · have q := gl y.1 i hi
                have r := y.2 i hi
                rw [q.1, q.2] at r
                exact r.symm
              · have q := gl y.1.symm i hi
                rw [q.1, q.2]
                exact (y.2 i hi).symm
            have fz' : ∀ c2 : AH, FZ c c2 → (∀ i : Nat, (i : Int) < sz → c2 50 i = h 52 i) ∧ c2 34 38 = sz ∧ Rm c2 (Kt t jd) (R jd) ∧ FQ h c2 ∧ SA f root z c2 := fun c2 fz => ⟨fun i hi => by rw [fz.2 50 (by decide) (by decide)]; exact c50 i hi, (fz.1 38 (by decide) (by decide) (by decide) (by decide) (by decide) (by decide)).trans c38, Rm_congr (fz.1 17 (by decide) (by decide) (by decide) (by decide) (by decide) (by decide)) (fz.2 39 (by decide) (by decide)) rm, fc.tr (FQ_z fz), SA_congr Ac (fz.1 34 (by decide) (by decide) (by decide) (by decide) (by decide) (by decide)) (fun o p q => fz.2 o (by omega) (by omega))⟩
            refine M_isLike (f := f) (m := sz) (nm := h 52) Xc.1 Xc.2.1 (by rw [Xc.2.2.1]; exact nn) p3.1 (by rw [rm.1]; omega) (by rw [rm.1]; omega) (fun i hi => ?_) Xc.2.2.2.2.2 p3.2 sok c38 (by omega) c50 (fun i hi => by have := isLet_rng (nmh.2.2.1 i hi); omega) (fun c2 y fz => ?_) (fun c2 y fz => ?_)
            · rw [rm.1] at hi
              rw [rm.2.2 i (by omega)]
              have := (v.1.2.1 _ a i (by omega)).1
              unfold clu at this
              omega
            · obtain ⟨g1, g2, g3, g4, g5⟩ := fz' c2 fz
              exact ⟨fun q => absurd q (by decide), fun _ => H1 c2 k jj hk' k1 j1 aj pj ej (cnd.mp y) ⟨k', S, kl, L, g5⟩ g4⟩
            · obtain ⟨g1, g2, g3, g4, g5⟩ := fz' c2 fz
              refine ⟨fun _ => ih (k + 1) c2 (by omega) (by omega) (fun j w1 w2 w3 j2 a2 e2 => ?_) g1 g2 g3 g4 g5, fun q => absurd wI_0 q⟩
              by_cases yk : j = k
              · subst yk
                rw [V_inj v a2 aj (e2.trans ej.symm)]
                exact fun l => y (cnd.mpr l)
              · exact no j w1 (by omega) w3 j2 a2 e2
          · by_cases yk : j = k
            · subst yk; exact absurd w3 ed
            · exact no j w1 (by omega) w3
      exact loop (z 1 0 - 1).toNat 1 c (by omega) (by omega) (fun j w1 w2 => by omega) (fun i hi => by rw [o5 50 (by decide) (by decide)]; exact b50 i (by omega)) ((k5 38 (by decide)).trans b38) rm (Fb.tr (FQ_17 k5 o5)) (SA_congr Ab (k5 34 (by decide)) (fun o p q => o5 o (by omega) (by omega)))
    | succ m ih =>
      intro i b hm b50 b38 k4 ob
      apply q_M_like_c7
      rw [wI_id (z := sz) (by omega) (by omega), wI_id (z := (i : Int)) (by omega) (by omega), show (i : Int).toNat = i by omega, show (i : Int) + 1 = ((i + 1 : Nat) : Int) by omega]
      refine ⟨fun q => by omega, fun _ => ⟨by omega, by omega, ih (i + 1) _ (by omega) (fun j hj => ?_) (by rw [hs_o _ _ _ _ _ (by decide)]; exact b38) (fun k hk => by rw [hs_o _ _ _ _ _ (by decide)]; exact k4 k hk) (fun o p q => by rw [hs_o _ _ _ _ _ q]; exact ob o p q)⟩⟩
      rw [hs_app, if_pos rfl]
      by_cases y : j = i
      · rw [if_pos y, y, ob 52 (by decide) (by decide)]
      · rw [if_neg y]; exact b50 j (by omega)
  exact copy sz.toNat 0 _ (by omega) (fun j hj => by omega) (hs_same _ _ _ _) (fun k hk => hs_k _ _ _ _ _ hk) (fun o p _ => hs_o _ _ _ _ _ p)
theorem T_look (hI : Inv Mo h) {x1 : Int} (hx : in32 x1) : okI G (Inv Mo) 150 235 [vI x1] h := by
  obtain ⟨⟨c1, c2, c3, c4⟩, _⟩ := id hI
  have e34 := c2.2.2.2.1
  rcases c2.2.2.2.2.1 with h8 | h8
  · exact O_look Mo_C hI h8
  obtain ⟨t, R, v, hd, X, gr, m2⟩ := Mo_get hI h8
  have I0 := Inv_clear Mo_C hI
  apply q_V_look
  rw [h8]
  refine ⟨fun z => absurd z (by decide), fun _ => ?_⟩
  have ref : ∀ (b : AH) (r : Int), (∀ o, o ≠ 15 → o ≠ 16 → b o = h o) → ((∀ jj, al t jj → t 1 jj = x1 → ¬ dirT (h 3) t jj) ∧ r = -1 ∨ ∃ jd, al t jd ∧ t 1 jd = x1 ∧ dirT (h 3) t jd ∧ ((¬ isNm (h 33) (h 32 1) ∧ r = -3) ∨ (isNm (h 33) (h 32 1) ∧ ((∃ jj, 1 ≤ jj ∧ al t jj ∧ pt t jj = jd ∧ LD (h 3) (h 9) t R (h 33) (h 32 1) jj ∧ r = t 1 jj) ∨ ((∀ jj, 1 ≤ jj → al t jj → pt t jj = jd → ¬ LD (h 3) (h 9) t R (h 33) (h 32 1) jj) ∧ r = -9))))) → RunsI G 235 [vR 34, vI x1] (hs b 32 1 0) (fun r2 h2 => wI r = wI r2 ∧ Inv Mo h2) := by
    intro b r ob cs
    apply q_M_look
    apply q_M_usedDraft
    have b34 : (hs b 32 1 0) 34 = h 34 := by rw [hs_o _ _ _ _ _ (by decide), ob 34 (by decide) (by decide)]
    rw [b34]
    generalize eg : hs (hs b 32 1 0) 34 41 0 = b1
    have F0 : FQ (hs (hs h 32 1 0) 34 41 0) b1 := by
      refine ⟨fun o p => ?_, fun k p => ?_⟩
      · have o34 : o ≠ 34 := (by omega)
        have y1 : b1 o = (hs b 32 1 0) o := by rw [← eg]; exact hs_o _ _ _ _ _ o34
        have y2 : (hs (hs h 32 1 0) 34 41 0) o = (hs h 32 1 0) o := hs_o _ _ _ _ _ o34
        rw [y1, y2]
        by_cases q : o = 32
        · subst q
          funext k
          rw [hs_app, hs_app, ob 32 (by decide) (by decide)]
        · rw [hs_o _ _ _ _ _ q, hs_o _ _ _ _ _ q]; exact ob o (by omega) (by omega)
      · rw [← eg]
        by_cases q : k = 41
        · rw [q, hs_same, hs_same]
        · rw [hs_k _ _ _ _ _ q, hs_k _ _ _ _ _ q, b34, hs_o _ _ _ _ _ (by decide)]
    have bo : ∀ o, ¬ (o = 15 ∨ o = 16 ∨ o = 32 ∨ o = 34) → b1 o = h o := fun o p => by rw [← eg, hs_o _ _ _ _ _ (by omega), hs_o _ _ _ _ _ (by omega)]; exact ob o (by omega) (by omega)
    have bk : ∀ k, k ≠ 41 → b1 34 k = h 34 k := fun k p => by rw [← eg, hs_k _ _ _ _ _ p, b34]
    clear eg
    rw [bk 3 (by decide), ← e34, h8]
    refine ⟨fun z => absurd z (by decide), fun _ => ?_⟩
    have X1 : RX (h 3) (h 9) (h 7 1) (h 7 2) b1 := by unfold RX at *; rw [bo 35 (by decide), bo 38 (by decide), bk 0 (by decide), bk 1 (by decide)]; exact X
    refine M_directoryAt v X1 hx (fun b2 z d jd Z hk a e ez k2 k0 dd fr => ?_) (fun b2 no fr => ⟨fun _ => ⟨?_, Inv_Q I0 (F0.tr (FQ_n fr))⟩, fun q => absurd (by decide) q⟩)
    · rw [wI_id (z := (d : Int)) (by omega) (by omega)]
      refine ⟨fun q => by omega, fun _ => ?_⟩
      have cs' : (¬ isNm (h 33) (h 32 1) ∧ r = -3) ∨ (isNm (h 33) (h 32 1) ∧ ((∃ jj, 1 ≤ jj ∧ al t jj ∧ pt t jj = jd ∧ LD (h 3) (h 9) t R (h 33) (h 32 1) jj ∧ r = t 1 jj) ∨ ((∀ jj, 1 ≤ jj → al t jj → pt t jj = jd → ¬ LD (h 3) (h 9) t R (h 33) (h 32 1) jj) ∧ r = -9))) := by
        rcases cs with ⟨no, _⟩ | ⟨j2, a2, e2, d2, cs⟩
        · exact absurd dd (no jd a e)
        · have : j2 = jd := V_inj v a2 a (e2.trans e.symm)
          subst this
          exact cs
      have b52 : b2 52 = h 52 := (fr.1 52 (by decide)).trans (bo 52 (by decide))
      have nm : ∀ k : Nat, (k : Int) < h 32 1 → h 33 k = h 52 k := fun k hk => (c3.2.2 k hk).1
      have sz : h 34 41 = h 32 1 := c3.1.symm
      have fq2 := F0.tr (FQ_n fr)
      rw [sz]
      refine M_isName_52 c3.2.1 (fun k hk => ?_) (fun q => ⟨fun y => absurd y (by decide), fun _ => ?_⟩) (fun q => ⟨fun _ => ⟨?_, Inv_Q I0 fq2⟩, fun y => absurd wI_0 y⟩)
      · rw [b52, ← nm k hk]
        have := (c3.2.2 k hk).2
        omega
      · rw [b52] at q
        have q3 : isNm (h 33) (h 32 1) := isNm_congr (fun k hk => (nm k hk).symm) q
        have ldq : ∀ jj, LD (h 3) (h 9) t R (h 52) (h 32 1) jj ↔ LD (h 3) (h 9) t R (h 33) (h 32 1) jj := fun jj => ⟨fun l => ⟨l.1, fun i hi => by rw [nm i hi]; exact l.2 i hi⟩, fun l => ⟨l.1, fun i hi => by rw [← nm i hi]; exact l.2 i hi⟩⟩
        refine M_like v (RX_congr fr X1) Z hk a dd (by rw [e, ez]) (by rw [b52]; exact q) (fun b4 k jj hk4 k1 j1 aj pj ej l Z4 f4 => ?_) (fun b4 no Z4 f4 => ⟨fun _ => ⟨?_, Inv_Q I0 (fq2.tr f4)⟩, fun y => absurd (by decide) y⟩)
        · rw [b52, ldq] at l
          obtain ⟨k', S4, _, _, A4⟩ := Z4
          have NN := SI_N S4 (by have := V_n v; omega)
          have nn := V_n v
          rw [wI_id (z := (k : Int)) (by omega) (by omega), show (k : Int).toNat = k by omega, (A4.2.1 k hk4).1, ← ej]
          refine ⟨fun y => by omega, fun _ => ⟨by omega, ?_, Inv_Q I0 (fq2.tr f4)⟩⟩
          rcases cs' with ⟨y, _⟩ | ⟨_, ⟨j2, q1, q2, q4, q5, q6⟩ | ⟨no, _⟩⟩
          · exact absurd q3 y
          · rw [q6, LD_one v (fun _ _ => rfl) q1 j1 q2 aj (by rw [q4, pj]) q5 l]
          · exact absurd l (no jj j1 aj pj)
        · rcases cs' with ⟨y, _⟩ | ⟨_, ⟨j2, q1, q2, q4, q5, q6⟩ | ⟨_, rv⟩⟩
          · exact absurd q3 y
          · exact absurd (by rw [b52, ldq]; exact q5) (no j2 q1 q2 q4)
          · rw [rv]
      · rw [b52] at q
        rcases cs' with ⟨_, rv⟩ | ⟨y, _⟩
        · rw [rv]
        · exact absurd (isNm_congr (fun k hk => nm k hk) y) q
    · rcases cs with ⟨_, q⟩ | ⟨j2, a2, e2, d2, _⟩
      · rw [q]
      · exact absurd d2 (no j2 a2 e2)
  refine T_isDirectory v rfl rfl hd hx (fun jd a d e => ⟨fun z => absurd z (by decide), fun _ => ?_⟩) (fun no => ⟨fun _ => ref h (-1) (fun _ _ _ => rfl) (Or.inl ⟨no, rfl⟩), fun z => absurd wI_0 z⟩)
  refine N_isRight_32 c3.2.1 (fun k hk => by have := (c3.2.2 k hk).2; omega) (fun q => ⟨fun z => absurd z (by decide), fun _ => ?_⟩) (fun q => ⟨fun _ => ref h (-3) (fun _ _ _ => rfl) (Or.inr ⟨jd, a, e, d, Or.inl ⟨q, rfl⟩⟩), fun z => absurd wI_0 z⟩)
  apply q_T_find
  rw [← e]
  refine T_findBut v rfl rfl rfl rfl gr a d q (by unfold in32; omega) (fun b jj j1 aj pj _ l fr => ?_) (fun b no fr => ?_)
  · rw [e]
    exact ref b _ fr (Or.inr ⟨jd, a, e, d, Or.inr ⟨q, Or.inl ⟨jj, j1, aj, pj, l, rfl⟩⟩⟩)
  · rw [e]
    refine ref b _ fr (Or.inr ⟨jd, a, e, d, Or.inr ⟨q, Or.inr ⟨fun jj j1 aj pj l => ?_, rfl⟩⟩⟩)
    have := no jj j1 aj pj l
    have := V_cl v j1 aj
    omega
end LOOK
