/-! move: the reference -/
section MREN
variable {f g nm u w : Nat → Int} {n root mp : Int} {t R : AH} {jd jj k : Nat} {G : GG} {h : AH}
theorem Zex_cg {b b' : AH} {j : Nat} (o : ∀ o, 41 ≤ o → o ≤ 49 → b' o = b o) (z : Zex f t b k j) : Zex f t b' k j := fun y => by
  obtain ⟨kp, x⟩ := z y
  refine ⟨kp, ?_⟩
  rw [o 42 (by decide) (by decide), o 43 (by decide) (by decide), o 44 (by decide) (by decide), o 46 (by decide) (by decide), o 47 (by decide) (by decide), o 48 (by decide) (by decide)]
  exact x
theorem M_rowP {Q : AH → Prop} {kj K' : Nat} {r' : Nat → Int} (v : V f g n root mp t R) (hE : E (ub (h 35)) u) (h1 : h 34 1 = root) (j1 : 1 ≤ jj) (aj : al t jj) (zx : Zex f t h kj jj) (rw' : RwG f u root t R (pt t jj) K' r') (H : ∀ h', Rm h' K' r' → (∀ k, k ≠ 17 → h' 34 k = h 34 k) → (∀ o, o ≠ 34 → o ≠ 39 → h' o = h o) → Q h') : RunsV G 210 [vR 34, vI (h 42 kj)] h Q := by
  obtain ⟨kp, z42, z43, z44, kp0, kp2, parr⟩ := zx (by omega)
  rw [z42]
  exact M_rowG v hE h1 (v.1.2.2.2.1 jj j1 aj).1 kp0 kp2 parr rw' H
theorem Zex_43 {kj : Nat} (j1 : 1 ≤ jj) (zx : Zex f t h kj jj) : h 43 kj = t 3 jj := by
  obtain ⟨kp, z42, z43, _⟩ := zx (by omega)
  exact z43
theorem M_unP {P : AH → Prop} {kj K' : Nat} {r' : Nat → Int} (v : V f g n root mp t R) (h6 : Sb (h 36)) (hE : E (ub (h 35)) u) (hW : E (ub (h 36)) w) (h1 : h 34 1 = root) (j1 : 1 ≤ jj) (aj : al t jj) (k2 : kj < 200) (zx : Zex f t h kj jj) (rw' : RwG f u root t R (pt t jj) K' r') (same : ∀ x, (x = ha (t 1 jj) ∨ x = ha (t 1 jj) + 32 ∨ x = ea (R (pt t jj)) (t 3 jj + 2) ∨ (rd f (ha (t 1 jj) + 1) = 3 ∧ x = ea (R (pt t jj)) (t 3 jj + 2) + 32)) → rd w x = rd f x)
    (H : ∀ h', Sb (h' 36) → E (ub (h' 36)) (uu w (ha (t 1 jj)) (ea (R (pt t jj)) (t 3 jj + 2)) (rd f (ha (t 1 jj) + 1))) → (∀ k, k ≠ 17 → h' 34 k = h 34 k) → (∀ o, o ≠ 34 → o ≠ 36 → o ≠ 39 → h' o = h o) → P h') : RunsV G 257 [vR 34, vI (kj : Int)] h P := by
  obtain ⟨kp, z42, z43, z44, kp0, kp2, parr⟩ := zx (by omega)
  exact M_unG v h6 hE hW h1 j1 aj k2 z42 z43 z44 kp0 kp2 parr rw' same H
theorem mvW_low (v : V f g n root mp t R) (a : al t jd) (dd : dirT f t jd) (kc : 0 < k → k ≤ cf f mp n 0 n.toNat) {e : Int} {m2 sz : Nat} (m34 : (2 + (m2 : Int)) = 3 ∨ (2 + (m2 : Int)) = 4) (sp : Spc f (R jd) (Kt t jd) (2 + (m2 : Int)) e k) (tm : Int) {x : Int} (x0 : 0 ≤ x) (x1 : x < 1024) : rd (mvW f g nm n mp t R jd jj k tm e m2 sz) x = rd (d4 f n mp 0 t R jd k tm) x := by
  have po := mv_pos v a dd kc (Or.inl rfl) m34 sp
  have c4 := (d4_row v a dd kc (Or.inl rfl) tm).2.2.2
  have sle := (Spc_le m34 sp).1
  have e0 := sp.1
  unfold mvW mkW
  rw [nset_n (by omega) (by omega) x0 (by omega) (by omega)]
  have ro : ∀ i : Nat, i < e.toNat → 1024 ≤ ea (dRo f n mp 0 t R jd k) (i : Int) := fun i hi => by
    have := c4 ((i : Int) / 4).toNat (by omega)
    exact (ea_rng (r := dRo f n mp 0 t R jd k) (e := (i : Int)) (by omega) this).1
  rcases mks_or (w := d4 f n mp 0 t R jd k tm) (r := dRo f n mp 0 t R jd k) (x := x) x0 e.toNat (fun i hi => by have := ro i hi; omega) with y | ⟨⟨i, i1, i2⟩, _⟩
  · exact y
  · have := ro i i1
    omega
/-- the row where the old SET lies, when the new one is there -/
theorem mv_row (v : V f g n root mp t R) (a : al t jd) (dd : dirT f t jd) (kc : 0 < k → k ≤ cf f mp n 0 n.toNat) {e : Int} {m2 sz : Nat} (m34 : (2 + (m2 : Int)) = 3 ∨ (2 + (m2 : Int)) = 4) (sp : Spc f (R jd) (Kt t jd) (2 + (m2 : Int)) e k) (tm : Int) {jp : Nat} (ap : al t jp) : ∃ K' r', RwG f (mvW f g nm n mp t R jd jj k tm e m2 sz) root t R jp K' r' := by
  have nn := V_n v
  have px : PX f mp n 0 := Or.inl rfl
  have lowft : ∀ c : Int, 2 ≤ c → c ≤ 101 → ft (mvW f g nm n mp t R jd jj k tm e m2 sz) c = ft (d4 f n mp 0 t R jd k tm) c := fun c c0 c1 => u4_cg (fun x _ _ => mvW_low v a dd kc m34 sp tm (by omega) (by omega))
  by_cases z : jp = 0
  · subst z
    obtain ⟨t1, R1, v1, gr⟩ := V_room v a dd kc px tm
    have a1 : al t1 0 := (gr.1 0).mpr ap
    obtain ⟨_, r2, r3⟩ := v1.2.2.1 0 a1
    rw [v1.1.1.2.1, rwP_0] at r2 r3
    have K1 := v1.1.1.2.2
    have kn := V_K v1 a1
    have ts : ∀ i, i ≤ Kt t1 0 → tc (mvW f g nm n mp t R jd jj k tm e m2 sz) 0 root i = tc (d4 f n mp 0 t R jd k tm) 0 root i := tc_sm (fun i hi => Or.inr (by
      rw [r2 i hi]
      have := V_rr v1 a1 i hi
      exact lowft _ this.1 this.2))
    refine ⟨Kt t1 0, R1 0, ?_, fun i hi => ?_, Or.inl ⟨rfl, by omega, fun i hi => ⟨by rw [ts i (by omega)]; exact r2 i hi, V_rr v1 a1 i hi⟩, by rw [ts _ (Nat.le_refl _)]; exact r3 (Or.inl rfl) K1⟩⟩
    · by_cases y : (0 : Nat) = jd
      · rw [← y] at gr
        rw [gr.2.2.2.2.2.2.1]
        omega
      · rw [(gr.2.2.2.2.2.1 0 y).1]
        exact Nat.le_refl _
    · by_cases y : (0 : Nat) = jd
      · rw [← y] at gr
        have := gr.2.2.2.2.2.2.2 i (by omega)
        rw [this]
        unfold app
        rw [if_pos hi]
      · exact (gr.2.2.2.2.2.1 0 y).2 i
  · refine ⟨Kt t jp, R jp, Nat.le_refl _, fun _ _ => rfl, Or.inr ⟨z, rfl, fun i hi => ?_⟩⟩
    have c := V_rr v ap i (by omega)
    have e4 : ft (d4 f n mp 0 t R jd k tm) (R jp i) = ft (d3 f n mp 0 t R jd k) (R jp i) := by
      unfold d4
      split
      · rfl
      · rename_i y
        have rg := V_rng v (show 1 ≤ jd by omega) a
        exact u4_cg (fun x _ _ => rly_ne (by omega) (by omega) (by omega))
    rw [lowft _ c.1 c.2, e4]
    by_cases y : k = 0 ∨ jp ≠ jd
    · exact Or.inr (d3_fto v a kc px ap (by omega) y)
    · have ej : jp = jd := Classical.not_not.mp (fun q => y (Or.inr q))
      have k1 : k ≠ 0 := fun q => y (Or.inl q)
      subst ej
      by_cases b1 : bR f (t 1 jp) = 1
      · exact Or.inl b1
      · refine Or.inr ?_
        have w0 : dWr f t jp = 0 := by
          unfold dWr
          rw [if_neg z]
          rcases bR_01 f (t 1 jp) with q | q
          · exact q
          · exact absurd q b1
        have Kp := V_Kd v a dd
        have r0 : dRn f n mp 0 t R jp k = 0 := by
          unfold dRn
          rw [if_neg k1]
          have at9 : atF f mp n 0 (Kt t jp) (R jp (Kt t jp - 1)) (dWr f t jp) k = -9 := by
            unfold atF
            rw [if_neg (show ¬ Kt t jp = 0 by omega)]
            exact if_neg (fun q => by have := q.1; omega)
          unfold rnF
          rw [at9, if_pos rfl]
        obtain ⟨o1, o2⟩ := dSq_ok (t := t) (R := R) (jd := jp) kc
        have b := dB_bas (jd := jp) v kc px
        have eB : ft (dB f n mp 0 t R jp k) (R jp i) = ft f (R jp i) := by
          rw [Bas_ft b (by omega) (by omega)]
          exact u4_cg (fun x _ _ => so1_hi f (by omega))
        rw [d3_ft v a kc px (by omega) (by omega), ← eB]
        unfold d2 d1
        have tr := tk_row (w := dB f n mp 0 t R jp k) (wr' := dWr f t jp) (run := dRn f n mp 0 t R jp k) (V_rr v a) (fun i hi => by have := (o1 i hi).1; unfold clu at this; omega) (fun i i' p p' q => by have := (v.1.2.2.1 jp jp i i' a a (by omega) p' q).2; omega) o2 (fun i i' p p' q => (V_fresh v (o1 i' p').2.1).2 jp a i p q) r0 (by omega)
        rw [tr.1 i hi, if_neg (by omega)]
theorem M_move {P : Int → AH → Prop} {x1 x2 r f' n' : Int} {m2 sz : Nat} {d' : Nat → Int} (v : V f g n root mp t R) (X : RX f g n root h) (hm : h 34 2 = mp) (h6 : Sb (h 36)) (h3 : h 34 3 = 1) (hf : 0 ≤ h 34 5 ∧ h 34 5 ≤ 1000) (j1 : 1 ≤ jj) (aj : al t jj) (ej : t 1 jj = x1) (hx : in32 x1) (a : al t jd) (dd : dirT f t jd) (ed : t 1 jd = x2) (hy : in32 x2) (nw : ¬ Wn t jj jd) (esz : h 34 41 = (sz : Int)) (hn : ∀ i, i < sz → h 52 i = nm i) (nmo : isNm nm sz) (mm : (m2 = 1 ∧ sz ≤ 15) ∨ (m2 = 2 ∧ 15 < sz ∧ sz ≤ 30)) (NL : ∀ j3, 1 ≤ j3 → al t j3 → j3 ≠ jj → pt t j3 = jd → ¬ LD f g t R nm sz j3) (gg : Gr g) (ro' : u2 f (ha (t 1 jj) + 4) % 2 = 0)
    (HF : (∀ p' : Int, 0 ≤ p' → p' % 2 = 0 → p' + (2 + (m2 : Int)) ≤ 4 * (Kt t jd : Int) → ¬ FRw f (R jd) (2 + (m2 : Int)) p') → cf f mp n 0 n.toNat < 1 → ∀ b, Sb (b 36) → (∀ k, (k ≤ 6 ∨ (9 ≤ k ∧ k ≤ 11)) → b 34 k = h 34 k) → b 34 41 = 0 → (∀ o, ¬ (o = 15 ∨ o = 16 ∨ o = 34 ∨ o = 36 ∨ (39 ≤ o ∧ o ≤ 51) ∨ (53 ≤ o ∧ o ≤ 59)) → b o = h o) → P (-6) b)
    (ph : ∀ e k, Spc f (R jd) (Kt t jd) (2 + (m2 : Int)) e k → (0 < k → k ≤ cf f mp n 0 n.toNat) → Ph f (mvL f g nm n mp t R jd jj k (h 34 4) e m2 sz) (h 34 5) (h 34 6) r d' f' n')
    (H : ∀ e k, Spc f (R jd) (Kt t jd) (2 + (m2 : Int)) e k → (0 < k → k ≤ cf f mp n 0 n.toNat) → ∀ b a', (r = 0 ∧ a' = -7 ∨ r = 1 ∧ a' = 4 * dRo f n mp 0 t R jd k (e / 4).toNat + e % 4) → Sb (b 35) → Sb (b 36) → (∀ k, k < 13824 → ub (b 35) k = d' k) → b 34 5 = f' → b 34 6 = n' → b 34 3 = r → b 34 41 = 0 → (∀ k, ((k ≤ 2 ∨ k = 4) ∨ (9 ≤ k ∧ k ≤ 11)) → b 34 k = h 34 k) → (∀ o, ¬ (o = 15 ∨ o = 16 ∨ (34 ≤ o ∧ o ≤ 36) ∨ (39 ≤ o ∧ o ≤ 51) ∨ (53 ≤ o ∧ o ≤ 59)) → b o = h o) → P a' b) : RunsI G 269 [vR 34, vI x1, vI x2] h P := by
  have nn := V_n v
  have mpc := V_mp v
  unfold clu at mpc
  have sz1 := nmo.1
  have mr : sz ≤ 30 ∧ (m2 = 1 ∨ m2 = 2) := by rcases mm with y | y <;> omega
  have m34 : (2 + (m2 : Int)) = 3 ∨ (2 + (m2 : Int)) = 4 := (by omega)
  have njd : jj ≠ jd := fun y => nw ⟨0, y.symm⟩
  have px : PX f mp n 0 := Or.inl rfl
  have wa := V_at v j1 aj
  have rg := V_rng v j1 aj
  have Kpos := V_Kd v a dd
  have wp := v.1.2.2.2.1 jj j1 aj
  have hfb := V_by v
  have lno := (V_ln v j1 aj).2.2.1
  have u5 := u4_rng hfb (show 0 ≤ ha (t 1 jj) + 56 by omega) (show ha (t 1 jj) + 56 + 3 < 13824 by omega)
  have u8 := u4_rng hfb (show 0 ≤ ha (t 1 jj) + 8 by omega) (show ha (t 1 jj) + 8 + 3 < 13824 by omega)
  have u12 := u4_rng hfb (show 0 ≤ ha (t 1 jj) + 12 by omega) (show ha (t 1 jj) + 12 + 3 < 13824 by omega)
  have f52 : 0 ≤ u4 f (ha (t 1 jj) + 52) ∧ u4 f (ha (t 1 jj) + 52) ≤ 1000 := by
    by_cases y : u4 f (ha (t 1 jj) + 56) = 0
    · rw [(lno.2.2.2.2.2.1 y).1]; decide
    · have := lno.2.2.2.2.2.2 y
      omega
  have s3 := SetOK_3 (V_ln v j1 aj)
  have e3 := V_e v j1 aj
  have knp := V_K v wp.1
  have kn := V_K v a
  clear lno
  apply q_M_move
  apply q_M_usedDraft
  generalize eg : hs h 34 41 0 = h1
  have g41 : h1 34 41 = 0 := by rw [← eg]; exact hs_same _ _ _ _
  have gk : ∀ k, k ≠ 41 → h1 34 k = h 34 k := fun k p => by rw [← eg]; exact hs_k _ _ _ _ _ p
  have go' : ∀ o, o ≠ 34 → h1 o = h o := fun o p => by rw [← eg]; exact hs_o _ _ _ _ _ p
  clear eg
  have X1 : RX f g n root h1 := by unfold RX at *; rw [go' 35 (by decide), go' 38 (by decide), gk 0 (by decide), gk 1 (by decide)]; exact X
  rw [gk 3 (by decide), h3, esz]
  refine ⟨fun z => absurd z (by decide), fun _ => ?_⟩
  refine M_setAt v X1 hx (fun c0 z0 kj j2 Z0 hk0 a2 e2 ez0 k20 k00 fr0 => ?_) (fun b no fr => absurd ej (no jj aj))
  have ej2 : j2 = jj := V_inj v a2 aj (e2.trans ej.symm)
  subst ej2
  have Xc := RX_congr fr0 X1
  refine M_directoryAt v Xc hy (fun b0 z kd j3 Z hk a3 e3' ez k2 k0 dd2 fr => ?_) (fun b0 no fr => absurd dd (no jd a ed))
  have ed3 : j3 = jd := V_inj v a3 a (e3'.trans ed.symm)
  subst ed3
  have ZE := ZR_eq v Z0 Z (kj + 1) kj (by omega) hk0
  have hkj := ZE.1
  have ejz : t 1 j2 = z 2 kj := by rw [← ZE.2, ez0]; exact ej
  clear ZE ez0 Z0 hk0
  have kj1 : 1 ≤ kj := by omega
  rw [wI_id (z := (kj : Int)) (by omega) (by omega), wI_id (z := (kd : Int)) (by omega) (by omega)]
  refine ⟨fun y => by omega, fun _ => ⟨fun y => by omega, fun _ => ⟨fun y => by omega, fun _ => ?_⟩⟩⟩
  refine M_isWithin v Z j1 aj hkj ejz a hk (by rw [ez]; exact ed) (fun y => absurd y nw) (fun _ => ⟨fun _ => ?_, fun y => absurd wI_0 y⟩)
  have fr2 : FN h1 b0 := fr0.tr fr
  clear fr0 fr Xc
  have n52 : ∀ i, i < sz → b0 52 i = nm i := fun i hi => by rw [fr2.1 52 (by decide), go' 52 (by decide)]; exact hn i hi
  have nm52 : isNm (b0 52) sz := isNm_congr (fun i hi => (n52 i (by omega)).symm) nmo
  refine M_isName_52 (by omega) (fun i hi => by rw [n52 i (by omega)]; have := isLet_rng (nmo.2.2.1 i hi); omega) (fun _ => ⟨fun y => absurd y (by decide), fun _ => ?_⟩) (fun no => absurd nm52 no)
  have X0 := RX_congr fr2 X1
  have LDe : ∀ j4, LD f g t R (b0 52) sz j4 → LD f g t R nm sz j4 := fun j4 l => ⟨l.1, fun i hi => by rw [← n52 i (by omega)]; exact l.2 i hi⟩
  -- the rest
  have c101 : ∀ b : AH, ZR f g n root t R z b → FQ b0 b → Go G (pI P) 269 101 [some (vR 34), none, none, some (vI (sz : Int)), some (vI (kj : Int)), some (vI (kd : Int)), none, none, none, none, none, none, none] [] b := by
    intro b Zb fq
    have Xb := RX_Q fq X0
    have bo : ∀ o, ¬ (o = 15 ∨ o = 16 ∨ o = 34 ∨ (39 ≤ o ∧ o ≤ 51)) → b o = h o := fun o p => (fq.1 o p).trans ((fr2.1 o (by omega)).trans (go' o (by omega)))
    have bk : ∀ k, (k ≤ 6 ∨ (9 ≤ k ∧ k ≤ 11) ∨ k = 41) → b 34 k = h1 34 k := fun k p => by rw [fq.2 k p]; exact fr2.2 k (by omega)
    obtain ⟨d46, darr, dex⟩ := ZR_dirE v Zb hk a (by rw [ed, ez]) k0
    obtain ⟨_, jarr, jex⟩ := ZR_dirE v Zb hkj aj ejz k00
    obtain ⟨b46, b47, b48⟩ := jarr kj1
    have b49 : b 49 kj = u2 f (ha (t 1 j2) + 4) := by
      obtain ⟨kp, _, _, _, _, _, _, _, _, y, _⟩ := ZR_par v Zb hkj aj ejz kj1
      exact y
    clear jarr Zb
    apply q_M_move_c101
    rw [wI_id (z := (kj : Int)) (by omega) (by omega), show (kj : Int).toNat = kj by omega, b49, bA_1, wI_id (z := u2 f (ha (t 1 j2) + 4) % 2) (by omega) (by omega), ro']
    refine ⟨by omega, fun _ => ?_, fun y => absurd rfl y⟩
    refine M_noPlans (fun c0 np nr oc0 => ?_)
    refine M_beginWrite (by rw [oc0 35 (by decide)]; exact Xb.1) (by rw [oc0 36 (by decide), bo 36 (by decide)]; exact h6) (fun c c6 cE oc => ?_)
    rw [oc0 35 (by decide)] at cE
    have cE' : E (ub (c 36)) f := cE.tr Xb.2.1
    have cb : ∀ o, ¬ (o = 36 ∨ o = 54 ∨ (56 ≤ o ∧ o ≤ 59)) → c o = b o := fun o p => (oc o (by omega)).trans (oc0 o (by omega))
    have c0z : ∀ p, p < 2 → c 54 p = 0 ∧ c 56 p = 0 ∧ c 57 p = 0 ∧ c 58 p = 0 := fun p hp => by rw [oc 54 (by decide), oc 56 (by decide), oc 57 (by decide), oc 58 (by decide)]; exact np p hp
    have c59 : ∀ x, x < 102 → c 59 x = 0 := fun x hx' => by rw [oc 59 (by decide)]; exact nr x hx'
    have cbo : ∀ o, ¬ (o = 15 ∨ o = 16 ∨ o = 34 ∨ o = 36 ∨ (39 ≤ o ∧ o ≤ 51) ∨ (53 ≤ o ∧ o ≤ 59)) → c o = h o := fun o p => (cb o (by omega)).trans (bo o (by omega))
    have ck34 : ∀ k, (k ≤ 6 ∨ (9 ≤ k ∧ k ≤ 11)) → c 34 k = h 34 k := fun k p => by rw [cb 34 (by decide), bk k (by omega)]; exact gk k (by omega)
    have c41 : c 34 41 = 0 := by rw [cb 34 (by decide), bk 41 (by omega)]; exact g41
    have c35 : c 35 = b 35 := cb 35 (by decide)
    have carr : ∀ o, 41 ≤ o → o ≤ 49 → c o = b o := fun o p p' => cb o (by omega)
    have z0 := c0z 0 (by decide)
    have z1 := c0z 1 (by decide)
    have c138 : ∀ s2 : Int, s2 = 2 + (m2 : Int) → Go G (pI P) 269 138 [some (vR 34), none, none, some (vI (sz : Int)), some (vI (kj : Int)), some (vI (kd : Int)), none, none, none, none, none, none, none] [vI s2, vI (kd : Int), vR 34] c := by
      intro s2 es2
      subst es2
      apply q_M_move_c138
      have plu : Pl c 0 0 (R j3) 0 0 (R j3) 0 := ⟨z0.1, by decide, fun i hi => absurd hi (Nat.not_lt_zero _), z0.2.2.1, z0.2.1, by decide, fun i hi => absurd hi (Nat.not_lt_zero _), z0.2.2.2⟩
      refine M_planSpace (X := 0) (m := 2 + (m2 : Int)) v (by rw [c35]; exact Xb.1) (by rw [c35]; exact Xb.2.1) cE' (by rw [ck34 0 (by omega)]; exact X.2.2.1) (by rw [ck34 1 (by omega)]; exact X.2.2.2.1) (by rw [ck34 2 (by omega)]; exact hm) a dd k0 k2 (fun y => by rw [carr 46 (by omega) (by omega), carr 47 (by omega) (by omega), carr 48 (by omega) (by omega)]; exact darr y) (by rw [carr 46 (by omega) (by omega)]; exact d46) plu z1.2.1 (fun x x1 x2 => by rw [c59 x x1]; exact ⟨Or.inl rfl, fun y => absurd y (by decide), fun y => by omega⟩) m34 (fun no full y yk oy => ⟨fun _ => HF no full y (by rw [oy 36 (by decide)]; exact c6) (fun k p => by rw [yk k (by omega)]; exact ck34 k p) (by rw [yk 41 (by decide)]; exact c41) (fun o p => (oy o (by omega)).trans (cbo o p)), fun q => absurd (by decide) q⟩) (fun e' k sp kc y p0 p1 yk oy => ?_)
      have yo : ∀ o, ¬ (o = 15 ∨ o = 16 ∨ o = 34 ∨ o = 36 ∨ (39 ≤ o ∧ o ≤ 51) ∨ (53 ≤ o ∧ o ≤ 59)) → y o = h o := fun o p => (oy o (by omega)).trans (cbo o p)
      have ykk : ∀ k, (k ≤ 6 ∨ (9 ≤ k ∧ k ≤ 11)) → y 34 k = h 34 k := fun k p => by rw [yk k (by omega)]; exact ck34 k p
      have y41 : y 34 41 = 0 := by rw [yk 41 (by decide)]; exact c41
      have y35 : y 35 = b 35 := (oy 35 (by decide)).trans c35
      have y36 : y 36 = c 36 := oy 36 (by decide)
      have yarr : ∀ o, 41 ≤ o → o ≤ 49 → y o = b o := fun o p p' => (oy o (by omega)).trans (carr o p p')
      have ph' := ph e' k sp kc
      have H' := H e' k sp kc
      have e0 := sp.1
      have ev := sp.2.1
      have sle := Spc_le m34 sp
      have emK := sle.1
      have kle := sle.2
      obtain ⟨q1, q2, q3, q4⟩ := d4_row v a dd kc px (h 34 4)
      have dsj := dRo_ds v a dd kc px e0 ev (show e' + 3 ≤ 4 * ((Kt t j3 + k : Nat) : Int) by omega)
      obtain ⟨K', r', rwg⟩ := mv_row (g := g) (nm := nm) (jj := j2) (sz := sz) v a dd kc m34 sp (h 34 4) wp.1
      have old : ∀ x, ((ha (t 1 j2) ≤ x ∧ x < ha (t 1 j2) + 64) ∨ (ea (R (pt t j2)) (t 3 j2 + 2) ≤ x ∧ x < ea (R (pt t j2)) (t 3 j2 + 2) + 64)) → rd f x ≠ 0 → rd (mvW f g nm n mp t R j3 j2 k (h 34 4) e' m2 sz) x = rd f x := fun x hx nz => mvW_old v a dd kc m34 sp (h 34 4) j1 aj njd hx nz
      have zxd : Zex f t y kd j3 := Zex_cg yarr dex
      have zxj : Zex f t y kj j2 := Zex_cg yarr jex
      rw [wI_id (z := e') (by omega) (by omega), wI_id (z := (kj : Int)) (by omega) (by omega), show (kj : Int).toNat = kj by omega]
      refine ⟨fun q => by omega, fun _ => ⟨by omega, ?_⟩⟩
      refine M_rowP v (by rw [y35]; exact Xb.2.1) (by rw [ykk 1 (Or.inl (by decide))]; exact X.2.2.2.1) j1 aj zxj (RwG_same v wp.1 (fun _ _ => rfl)) (fun b2 rm2 b2k ob2 => ⟨by omega, ?_⟩)
      have zxj2 : Zex f t b2 kj j2 := Zex_cg (fun o p p' => ob2 o (by omega) (by omega)) zxj
      have ea0 : ea (b2 39) (t 3 j2) = ha (t 1 j2) := by rw [(V_cl v j1 aj).2.2.1]; exact ea_cg rm2.2.2 wp.2.1.1 (by omega)
      have b235 : b2 35 = b 35 := (ob2 35 (by decide) (by decide)).trans y35
      rw [Zex_43 j1 zxj2]
      refine M_entryAt wp.2.1.1 (by omega) ?_
      rw [ea0]
      refine M_get4 (f := f) (by rw [b235]; exact Xb.2.1) (by omega) (by omega) ⟨by omega, ?_⟩
      rw [Zex_43 j1 zxj2]
      refine M_entryAt wp.2.1.1 (by omega) ?_
      rw [ea0]
      refine M_get4 (f := f) (by rw [b235]; exact Xb.2.1) (by omega) (by omega) ?_
      clear ea0
      have b2kk : ∀ k, (k ≤ 6 ∨ (9 ≤ k ∧ k ≤ 11)) → b2 34 k = h 34 k := fun k p => by rw [b2k k (by omega)]; exact ykk k p
      have b241 : b2 34 41 = 0 := by rw [b2k 41 (by decide)]; exact y41
      have b2o : ∀ o, ¬ (o = 15 ∨ o = 16 ∨ o = 34 ∨ o = 36 ∨ (39 ≤ o ∧ o ≤ 51) ∨ (53 ≤ o ∧ o ≤ 59)) → b2 o = h o := fun o p => (ob2 o (by omega) (by omega)).trans (yo o p)
      have b2arr : ∀ o, 41 ≤ o → o ≤ 49 → b2 o = b o := fun o p p' => (ob2 o (by omega) (by omega)).trans (yarr o p p')
      have b236 : b2 36 = c 36 := (ob2 36 (by decide) (by decide)).trans y36
      have zxd2 : Zex f t b2 kd j3 := Zex_cg (fun o p p' => ob2 o (by omega) (by omega)) zxd
      clear yo ykk y41 yarr zxd zxj oy yk y35 y36
      refine M_room (PF := fun b => P (-7) b) (X := 0) (D := 0) (r := r) (d' := d') (f' := f') (n' := n') (ws := [mvW f g nm n mp t R j3 j2 k (h 34 4) e' m2 sz, mvU f g nm n mp t R j3 j2 k (h 34 4) e' m2 sz]) v a dd kc px (by rw [b235]; exact Xb.1) (by rw [b236]; exact c6) (by rw [b235]; exact Xb.2.1) (by rw [b236]; exact cE') (by rw [b2kk 5 (Or.inl (by decide))]; exact hf) (by rw [b2kk 1 (Or.inl (by decide))]; exact X.2.2.2.1) (by rw [b2kk 2 (Or.inl (by decide))]; exact hm) (Pl_cg (fun o p p' => ob2 o (by omega) (by omega)) p0) rfl rfl (Or.inl rfl) (Or.inl rfl) (Or.inl ⟨rfl, rfl, rfl⟩) (Pl_cg (fun o p p' => ob2 o (by omega) (by omega)) p1) k0 k2 zxd2 kle (by rw [b2kk 5 (Or.inl (by decide)), b2kk 6 (Or.inl (by decide))]; exact ph') (fun l r0' l5 l6 ld lf ln' l3 lk ol => ?_) (fun i pq q5 s6 qE sW qf rm ik oi => ?_)
      · exact H' l (-7) (Or.inl ⟨r0', rfl⟩) l5 l6 ld lf ln' (by rw [l3, r0']) (by rw [lk 41 (by decide) (by decide) (by decide)]; exact b241) (fun k p => by rw [lk k (kA_ p).1 (kA_ p).2.1 (kA_ p).2.2.1]; exact b2kk k (kA_ p).2.2.2.2.1) (fun o p => by rw [ol o (oA_ p).1 (oA_ p).2.1 (oA_ p).2.2.1]; exact b2o o (oA_ p).2.2.2.2)
      rw [b2kk 4 (Or.inl (by decide))] at sW
      have rmi : ∀ x, x < Kt t j3 + k → i 39 x = dRo f n mp 0 t R j3 k x := rm.2.2
      have ikk : ∀ k, (k ≤ 4 ∨ (9 ≤ k ∧ k ≤ 11)) → i 34 k = h 34 k := fun k p => by rw [ik k (kB_ p).1 (kB_ p).2.1 (kB_ p).2.2.1]; exact b2kk k (kB_ p).2.2.2
      have i41 : i 34 41 = 0 := by rw [ik 41 (by decide) (by decide) (by decide)]; exact b241
      have ioh : ∀ o, ¬ (o = 15 ∨ o = 16 ∨ (34 ≤ o ∧ o ≤ 36) ∨ (39 ≤ o ∧ o ≤ 51) ∨ (53 ≤ o ∧ o ≤ 59)) → i o = h o := fun o p => (oi o (oA_ p).1 (oA_ p).2.1 (oA_ p).2.2.1 (oA_ p).2.2.2.1).trans (b2o o (oA_ p).2.2.2.2)
      have iarr : ∀ o, 41 ≤ o → o ≤ 49 → i o = b o := fun o p p' => (oi o (by omega) (by omega) (by omega) (by omega)).trans (b2arr o p p')
      have zxi : Zex f t i kj j2 := Zex_cg iarr jex
      have pidx : (e' / 4).toNat < Kt t j3 + k := (by omega)
      have cpl := q4 _ pidx
      rw [tdiv_pos (by omega), tmod_pos (by omega), wI_id (z := e' / 4) (by omega) (by omega), rmi _ pidx, iarr 49 (by decide) (by decide), iarr 47 (by decide) (by decide), iarr 48 (by decide) (by decide), iarr 46 (by decide) (by decide), b49, b47, b48, b46]
      refine ⟨by decide, by omega, by decide, by omega, by omega, by omega, by omega, ?_⟩
      refine M_laySet (K := Kt t j3 + k) (r := dRo f n mp 0 t R j3 k) (w := d4 f n mp 0 t R j3 k (h 34 4)) (nm := nm) (g := g) (m2 := m2) s6 sW rmi rm.2.1 q4 e0 ev mm emK dsj nmo (fun x hx' => by rw [ioh 52 (by decide)]; exact hn x hx') (by rw [ioh 38 (by decide)]; exact X.2.2.2.2.1) gg wa.2.2 (by omega) (by omega) (bR_01 _ _) (by omega) f52 (fun j j6 jW oj => ?_)
      have j34 : j 34 = i 34 := oj 34 (by decide)
      have jW' : E (ub (j 36)) (mvW f g nm n mp t R j3 j2 k (h 34 4) e' m2 sz) := jW
      refine M_flS (f := d3 f n mp 0 t R j3 k) (w := mvW f g nm n mp t R j3 j2 k (h 34 4) e' m2 sz) (ws := [mvU f g nm n mp t R j3 j2 k (h 34 4) e' m2 sz]) (r := r) (d' := d') (f' := f') (n' := n') (by rw [oj 35 (by decide)]; exact q5) j6 (by rw [oj 35 (by decide)]; exact qE) jW' (by rw [j34]; exact qf) (by rw [j34]; exact pq) (fun x r0' x5 x6 xd xf xn x3 xk ox => ⟨fun _ => ?_, fun w => absurd wI_0 w⟩) (fun x px' x5 x6 xE xf xk ox => ⟨fun w => absurd w (by decide), fun _ => ?_⟩)
      · exact H' x (-7) (Or.inl ⟨r0', rfl⟩) x5 (by rw [x6]; exact j6) xd xf xn (by rw [x3, r0']) (by rw [xk 41 (by decide) (by decide) (by decide), j34]; exact i41) (fun k p => by rw [xk k (kA_ p).1 (kA_ p).2.1 (kA_ p).2.2.1, j34]; exact ikk k (kA_ p).2.2.2.2.2) (fun o p => by rw [ox o (oA_ p).1 (oA_ p).2.1, oj o (oA_ p).2.2.1]; exact ioh o p)
      have xW : E (ub (x 36)) (mvW f g nm n mp t R j3 j2 k (h 34 4) e' m2 sz) := by rw [x6]; exact jW'
      have zxx : Zex f t x kj j2 := Zex_cg (fun o p p' => (ox o (by omega) (by omega)).trans (oj o (by omega))) zxi
      refine M_unP (K' := K') (r' := r') v (by rw [x6]; exact j6) xE xW (by rw [xk 1 (by decide) (by decide), j34, ikk 1 (Or.inl (by decide))]; exact X.2.2.2.1) j1 aj k20 zxx rwg (fun x' hx' => ?_) (fun m m6 mW mk om => ?_)
      · rcases hx' with y' | y' | y' | ⟨y3, y'⟩
        · rw [y']; exact old _ (Or.inl ⟨by omega, by omega⟩) (by rw [s3.2.2.1]; decide)
        · rw [y']; exact old _ (Or.inl ⟨by omega, by omega⟩) (by rw [s3.2.2.2.1]; decide)
        · rw [y']; exact old _ (Or.inr ⟨by omega, by omega⟩) (by rw [s3.2.2.2.2.1]; decide)
        · rw [y']; exact old _ (Or.inr ⟨by omega, by omega⟩) (by rw [s3.2.2.2.2.2 y3]; decide)
      have mW' : E (ub (m 36)) (mvU f g nm n mp t R j3 j2 k (h 34 4) e' m2 sz) := mW
      have mkk : ∀ k, (k ≤ 4 ∨ (9 ≤ k ∧ k ≤ 11)) → m 34 k = h 34 k := fun k p => by rw [mk k (kB_ p).2.2.1, xk k (kB_ p).1 (kB_ p).2.1, j34]; exact ikk k p
      have m41 : m 34 41 = 0 := by rw [mk 41 (by decide), xk 41 (by decide) (by decide), j34]; exact i41
      have moh : ∀ o, ¬ (o = 15 ∨ o = 16 ∨ (34 ≤ o ∧ o ≤ 36) ∨ (39 ≤ o ∧ o ≤ 51) ∨ (53 ≤ o ∧ o ≤ 59)) → m o = h o := fun o p => by rw [om o (oA_ p).1 (oA_ p).2.2.1 (oA_ p).2.2.2.1, ox o (oA_ p).1 (oA_ p).2.1, oj o (oA_ p).2.2.1]; exact ioh o p
      have m35 : m 35 = x 35 := om 35 (by decide) (by decide) (by decide)
      refine M_flS (f := mvW f g nm n mp t R j3 j2 k (h 34 4) e' m2 sz) (w := mvU f g nm n mp t R j3 j2 k (h 34 4) e' m2 sz) (ws := []) (r := r) (d' := d') (f' := f') (n' := n') (by rw [m35]; exact x5) m6 (by rw [m35]; exact xE) mW' (by rw [mk 5 (by decide)]; exact xf) (by rw [mk 5 (by decide), mk 6 (by decide)]; exact px') (fun s r0' s5 s6' sd sf sn' s3' sk os => ⟨fun _ => ?_, fun w => absurd wI_0 w⟩) (fun s ps s5 s6' sE sf sk os => ⟨fun w => absurd w (by decide), fun _ => ?_⟩)
      · exact H' s (-7) (Or.inl ⟨r0', rfl⟩) s5 (by rw [s6']; exact m6) sd sf sn' (by rw [s3', r0']) (by rw [sk 41 (by decide) (by decide) (by decide)]; exact m41) (fun k p => by rw [sk k (kA_ p).1 (kA_ p).2.1 (kA_ p).2.2.1]; exact mkk k (kA_ p).2.2.2.2.2) (fun o p => by rw [os o (oA_ p).1 (oA_ p).2.1]; exact moh o p)
      · obtain ⟨w1, w2, w3, w4⟩ := ps
        exact H' s _ (Or.inr ⟨w1, rfl⟩) s5 (by rw [s6']; exact m6) (fun w hw => (sE w hw).trans (w2 w hw).symm) w3.symm w4.symm (by rw [sk 3 (by decide) (by decide), mkk 3 (Or.inl (by decide)), w1]; exact h3) (by rw [sk 41 (by decide) (by decide)]; exact m41) (fun k p => by rw [sk k (kA_ p).2.1 (kA_ p).2.2.1]; exact mkk k (kA_ p).2.2.2.2.2) (fun o p => by rw [os o (oA_ p).1 (oA_ p).2.1]; exact moh o p)
    rw [wI_id (z := (sz : Int)) (by omega) (by omega)]
    refine ⟨fun y => c138 3 ?_, fun y => c138 4 ?_⟩
    · rcases mm with x | x <;> omega
    · rcases mm with x | x <;> omega
  have NN : z 1 0 ≤ n + 1 := by obtain ⟨k', S, _⟩ := Z; exact SI_N S (by omega)
  have i5 : ∀ j j' : Nat, j < j' → (j' : Int) < z 1 0 → z 2 j ≠ z 2 j' := by obtain ⟨k', S, _⟩ := Z; exact S.2.2.2.2.1
  refine M_like v X0 Z hk a dd (by rw [ed, ez]) nm52 (fun b k' j4 hk4 k41 j41 a4 p4 e4 l Z4 f4 => ?_) (fun b _ Zb fq => ⟨fun _ => c101 b Zb fq, fun y => absurd (by decide) y⟩)
  have e42 : j4 = j2 := Classical.byContradiction (fun y => NL j4 j41 a4 y p4 (LDe j4 l))
  rw [e42, ejz] at e4
  have kk : k' = kj := by
    rcases Nat.lt_trichotomy k' kj with x | x | x
    · exact absurd e4.symm (i5 k' kj x hkj)
    · exact x
    · exact absurd e4 (i5 kj k' x hk4)
  rw [kk, wI_id (z := (kj : Int)) (by omega) (by omega)]
  exact ⟨fun y => by omega, fun _ => ⟨fun _ => c101 b Z4 f4, fun y => absurd rfl y⟩⟩
end MREN
