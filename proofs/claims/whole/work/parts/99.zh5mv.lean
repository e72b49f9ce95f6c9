/-! move -/
section TMOVE
variable {G : GG} {h : AH}
theorem T_move (hI : Inv Mo h) {x1 x2 : Int} (hx : in32 x1) (hy : in32 x2) : okI G (Inv Mo) 156 269 [vI x1, vI x2] h := by
  obtain ⟨⟨c1, c2, c3, c4⟩, _⟩ := id hI
  have e34 := c2.2.2.2.1
  rcases c2.2.2.2.2.1 with h8 | h8
  · exact O_move Mo_C hI h8
  obtain ⟨t, R, v, hd, X, gr, m2'⟩ := Mo_get hI h8
  have nn := V_n v
  have hfb := V_by v
  have I0 := Inv_clear Mo_C hI
  have nm : ∀ k : Nat, (k : Int) < h 32 1 → h 33 k = h 52 k := fun k hk => (c3.2.2 k hk).1
  have sz41 : h 34 41 = h 32 1 := c3.1.symm
  have uq : ∀ j j', 1 ≤ j → al t j → 1 ≤ j' → al t j' → pt t j = pt t j' → LD (h 3) (h 9) t R (h 33) (h 32 1) j → LD (h 3) (h 9) t R (h 33) (h 32 1) j' → j = j' := fun j j' q1 q2 q3 q4 q5 q6 q7 => LD_one v (fun _ _ => rfl) q1 q3 q2 q4 q5 q6 q7
  apply q_V_move
  rw [h8]
  refine ⟨fun z => absurd z (by decide), fun _ => ?_⟩
  have set1 : ∀ (r : Int) (b : AH), wI r ≠ -7 → RunsI G 269 [vR 34, vI x1, vI x2] b (fun r2 h2 => wI r = wI r2 ∧ Inv Mo h2) → RunsI G 163 [vR 0, vI r] b (fun r2 h2 => RunsI G 269 [vR 34, vI x1, vI x2] h2 (fun r3 h3 => wI r2 = wI r3 ∧ Inv Mo h3)) := by
    intro r b rn k
    apply q_V_settled
    exact ⟨fun z => absurd z rn, fun _ => k⟩
  have ref : ∀ (b : AH) (r : Int), (∀ o, o ≠ 15 → o ≠ 16 → b o = h o) → (((∀ jj, 1 ≤ jj → al t jj → t 1 jj ≠ x1) ∨ (∀ jj, al t jj → t 1 jj = x2 → ¬ dirT (h 3) t jj)) ∧ r = -1 ∨ ∃ jj jd, 1 ≤ jj ∧ al t jj ∧ t 1 jj = x1 ∧ al t jd ∧ t 1 jd = x2 ∧ dirT (h 3) t jd ∧ ((Wn t jj jd ∧ r = -1) ∨ (¬ Wn t jj jd ∧ ((¬ isNm (h 33) (h 32 1) ∧ r = -3) ∨ (isNm (h 33) (h 32 1) ∧ ((∃ j3, 1 ≤ j3 ∧ al t j3 ∧ pt t j3 = jd ∧ j3 ≠ jj ∧ LD (h 3) (h 9) t R (h 33) (h 32 1) j3) ∧ r = -4 ∨ (∀ j3, 1 ≤ j3 → al t j3 → j3 ≠ jj → pt t j3 = jd → ¬ LD (h 3) (h 9) t R (h 33) (h 32 1) j3) ∧ u2 (h 3) (ha (t 1 jj) + 4) % 2 ≠ 0 ∧ r = -5)))))) → RunsI G 269 [vR 34, vI x1, vI x2] (hs b 32 1 0) (fun r2 h2 => wI r = wI r2 ∧ Inv Mo h2) := by
    intro b r ob cs
    apply q_M_move
    apply q_M_usedDraft
    have b34 : (hs b 32 1 0) 34 = h 34 := by rw [hs_o _ _ _ _ _ (by decide), ob 34 (by decide) (by decide)]
    rw [b34]
    generalize eg : hs (hs b 32 1 0) 34 41 0 = b1
    have F0 : FQ (hs (hs h 32 1 0) 34 41 0) b1 := by
      refine ⟨fun o p => ?_, fun k p => ?_⟩
      · have o34 : o ≠ 34 := (by omega)
        have y1 : b1 o = (hs b 32 1 0) o := by rw [← eg]; exact hs_o _ _ _ _ _ o34
        have y2 : (hs (hs h 32 1 0) 34 41 0) o = (hs h 32 1 0) o := hs_o _ _ _ _ _ o34
        rw [y1, y2]
        by_cases q : o = 32
        · subst q
          funext k
          rw [hs_app, hs_app, ob 32 (by decide) (by decide)]
        · rw [hs_o _ _ _ _ _ q, hs_o _ _ _ _ _ q]; exact ob o (by omega) (by omega)
      · rw [← eg]
        by_cases q : k = 41
        · rw [q, hs_same, hs_same]
        · rw [hs_k _ _ _ _ _ q, hs_k _ _ _ _ _ q, b34, hs_o _ _ _ _ _ (by decide)]
    have bo : ∀ o, ¬ (o = 15 ∨ o = 16 ∨ o = 32 ∨ o = 34) → b1 o = h o := fun o p => by rw [← eg, hs_o _ _ _ _ _ (by omega), hs_o _ _ _ _ _ (by omega)]; exact ob o (by omega) (by omega)
    have bk : ∀ k, k ≠ 41 → b1 34 k = h 34 k := fun k p => by rw [← eg, hs_k _ _ _ _ _ p, b34]
    clear eg
    rw [bk 3 (by decide), ← e34, h8]
    refine ⟨fun z => absurd z (by decide), fun _ => ?_⟩
    have X1 : RX (h 3) (h 9) (h 7 1) (h 7 2) b1 := by unfold RX at *; rw [bo 35 (by decide), bo 38 (by decide), bk 0 (by decide), bk 1 (by decide)]; exact X
    refine M_setAt v X1 hx (fun c0 z0 kj jj Z0 hk0 aj ej ez0 k20 k00 fr0 => ?_) (fun c0 no fr0 => ?_)
    · have NN0 : z0 1 0 ≤ h 7 1 + 1 := by obtain ⟨k', S, _⟩ := Z0; exact SI_N S (by omega)
      have X2 := RX_congr fr0 X1
      refine M_directoryAt v X2 hy (fun b2 z kd jd Z hk a ed ez k2 k0 dd fr => ?_) (fun b2 no fr => ?_)
      · have fr2 : FN b1 b2 := fr0.tr fr
        have fq2 := F0.tr (FQ_n fr2)
        have NN : z 1 0 ≤ h 7 1 + 1 := by obtain ⟨k', S, _⟩ := Z; exact SI_N S (by omega)
        rw [wI_id (z := (kj : Int)) (by omega) (by omega), wI_id (z := (kd : Int)) (by omega) (by omega)]
        refine ⟨fun y => by omega, fun _ => ⟨fun y => ⟨?_, Inv_Q I0 fq2⟩, fun kjn => ⟨fun y => by omega, fun _ => ?_⟩⟩⟩
        · rcases cs with ⟨_, rv⟩ | ⟨j3, _, q1, q2, q3, q4⟩
          · rw [rv]
          · clear q4
            have : j3 = jj := V_inj v q2 aj (q3.trans ej.symm)
            omega
        have j1 : 1 ≤ jj := by omega
        have kj1 : 1 ≤ kj := by omega
        have cs' : (Wn t jj jd ∧ r = -1) ∨ (¬ Wn t jj jd ∧ ((¬ isNm (h 33) (h 32 1) ∧ r = -3) ∨ (isNm (h 33) (h 32 1) ∧ ((∃ j3, 1 ≤ j3 ∧ al t j3 ∧ pt t j3 = jd ∧ j3 ≠ jj ∧ LD (h 3) (h 9) t R (h 33) (h 32 1) j3) ∧ r = -4 ∨ (∀ j3, 1 ≤ j3 → al t j3 → j3 ≠ jj → pt t j3 = jd → ¬ LD (h 3) (h 9) t R (h 33) (h 32 1) j3) ∧ u2 (h 3) (ha (t 1 jj) + 4) % 2 ≠ 0 ∧ r = -5)))) := by
          rcases cs with ⟨y | y, _⟩ | ⟨j3, j4, q1, q2, q3, q4, q5, q6, q7⟩
          · exact absurd ej (y jj j1 aj)
          · exact absurd dd (y jd a ed)
          · have x1' : j3 = jj := V_inj v q2 aj (q3.trans ej.symm)
            have x2' : j4 = jd := V_inj v q4 a (q5.trans ed.symm)
            subst x1' x2'
            exact q7
        clear cs
        have ZE := ZR_eq v Z0 Z (kj + 1) kj (by omega) hk0
        have hkj := ZE.1
        have ejz : t 1 jj = z 2 kj := by rw [← ZE.2, ez0]; exact ej
        refine M_isWithin v Z j1 aj hkj ejz a hk (by rw [ez]; exact ed) (fun y => ⟨fun y' => absurd y' (by decide), fun _ => ⟨?_, Inv_Q I0 fq2⟩⟩) (fun nw => ⟨fun _ => ?_, fun y => absurd wI_0 y⟩)
        · rcases cs' with ⟨_, rv⟩ | ⟨y', _⟩
          · rw [rv]
          · exact absurd y y'
        have cs2 := cs'.resolve_left (fun y => nw y.1)
        clear cs'
        have b52 : b2 52 = h 52 := (fr2.1 52 (by decide)).trans (bo 52 (by decide))
        rw [sz41]
        refine M_isName_52 c3.2.1 (fun k hk => ?_) (fun q => ⟨fun y => absurd y (by decide), fun _ => ?_⟩) (fun q => ⟨fun _ => ⟨?_, Inv_Q I0 fq2⟩, fun y => absurd wI_0 y⟩)
        · rw [b52, ← nm k hk]
          have := (c3.2.2 k hk).2
          omega
        · rw [b52] at q
          have q3 : isNm (h 33) (h 32 1) := isNm_congr (fun k hk => (nm k hk).symm) q
          have ldq : ∀ jj, LD (h 3) (h 9) t R (h 52) (h 32 1) jj ↔ LD (h 3) (h 9) t R (h 33) (h 32 1) jj := fun jj => ⟨fun l => ⟨l.1, fun i hi => by rw [nm i hi]; exact l.2 i hi⟩, fun l => ⟨l.1, fun i hi => by rw [← nm i hi]; exact l.2 i hi⟩⟩
          have cs3 := (cs2.2.resolve_left (fun y => y.1 q3)).2
          have wa := V_at v j1 aj
          have i5 : ∀ j j' : Nat, j < j' → (j' : Int) < z 1 0 → z 2 j ≠ z 2 j' := by obtain ⟨k', S, _⟩ := Z; exact S.2.2.2.2.1
          have c101 : ∀ b4 : AH, ZR (h 3) (h 9) (h 7 1) (h 7 2) t R z b4 → FQ b2 b4 → u2 (h 3) (ha (t 1 jj) + 4) % 2 ≠ 0 → r = -5 → Go G (pI (fun r2 h2 => wI r = wI r2 ∧ Inv Mo h2)) 269 101 [some (vR 34), none, none, some (vI (h 32 1)), some (vI (kj : Int)), some (vI (kd : Int)), none, none, none, none, none, none, none] [] b4 := by
            intro b4 Z4 f4 nr rv
            obtain ⟨kp, _, _, _, _, _, _, _, _, b49, _⟩ := ZR_par v Z4 hkj aj ejz kj1
            apply q_M_move_c101
            rw [wI_id (z := (kj : Int)) (by omega) (by omega), show (kj : Int).toNat = kj by omega, b49, bA_1, wI_id (z := u2 (h 3) (ha (t 1 jj) + 4) % 2) (by omega) (by omega)]
            exact ⟨by omega, fun y => absurd y nr, fun _ => ⟨by rw [rv], Inv_Q I0 (fq2.tr f4)⟩⟩
          refine M_like v (RX_congr fr2 X1) Z hk a dd (by rw [ed, ez]) (by rw [b52]; exact q) (fun b4 k j4 hk4 k1 j41 a4 p4 e4 l Z4 f4 => ?_) (fun b4 no Z4 f4 => ⟨fun _ => ?_, fun y => absurd (by decide) y⟩)
          · rw [b52, ldq] at l
            rw [wI_id (z := (k : Int)) (by omega) (by omega)]
            refine ⟨fun y => by omega, fun _ => ⟨fun y => ?_, fun y => ⟨?_, Inv_Q I0 (fq2.tr f4)⟩⟩⟩
            · have ek : k = kj := by omega
              rcases cs3 with ⟨⟨j3, q1, q2, q4, q5, q6⟩, _⟩ | ⟨_, nr, rv⟩
              · have x3 : j3 = j4 := uq j3 j4 q1 q2 j41 a4 (by rw [q4, p4]) q6 l
                exact absurd (V_inj v (by rw [x3]; exact a4) aj (by rw [x3, e4, ejz, ek])) q5
              · exact c101 b4 Z4 f4 nr rv
            · rcases cs3 with ⟨_, rv⟩ | ⟨no, _⟩
              · rw [rv]
              · refine absurd l (no j4 j41 a4 (fun x => ?_) p4)
                rw [x, ejz] at e4
                rcases Nat.lt_trichotomy k kj with y' | y' | y'
                · exact i5 k kj y' hkj e4.symm
                · omega
                · exact i5 kj k y' hk4 e4
          · rcases cs3 with ⟨⟨j3, q1, q2, q4, q5, q6⟩, _⟩ | ⟨_, nr, rv⟩
            · exact absurd (by rw [b52, ldq]; exact q6) (no j3 q1 q2 q4)
            · exact c101 b4 Z4 f4 nr rv
        · rw [b52] at q
          rcases cs2.2 with ⟨_, rv⟩ | ⟨y, _⟩
          · rw [rv]
          · exact absurd (isNm_congr (fun k hk => nm k hk) y) q
      · have fq2 := F0.tr (FQ_n (fr0.tr fr))
        have rv : r = -1 := by
          rcases cs with ⟨_, rv⟩ | ⟨_, jd, _, _, _, q4, q5, q6, _⟩
          · exact rv
          · exact absurd q6 (no jd q4 q5)
        rw [wI_id (z := (kj : Int)) (by omega) (by omega)]
        exact ⟨fun y => by omega, fun _ => ⟨fun y => ⟨by rw [rv], Inv_Q I0 fq2⟩, fun _ => ⟨fun _ => ⟨by rw [rv], Inv_Q I0 fq2⟩, fun y => absurd (by decide) y⟩⟩⟩
    · have rv : r = -1 := by
        rcases cs with ⟨_, rv⟩ | ⟨jj, _, q1, q2, q3, _⟩
        · exact rv
        · exact absurd q3 (no jj q2)
      have X2 := RX_congr fr0 X1
      refine M_directoryAt v X2 hy (fun b2 z kd jd Z hk a ed ez k2 k0 dd fr => ⟨fun _ => ⟨by rw [rv], Inv_Q I0 (F0.tr (FQ_n (fr0.tr fr)))⟩, fun y => absurd (by decide) y⟩) (fun b2 no fr => ⟨fun _ => ⟨by rw [rv], Inv_Q I0 (F0.tr (FQ_n (fr0.tr fr)))⟩, fun y => absurd (by decide) y⟩)
  by_cases ex : ∃ jj, 1 ≤ jj ∧ al t jj ∧ t 1 jj = x1
  · obtain ⟨jj, j1, aj, ej⟩ := ex
    have hx' := hx
    rw [← ej] at hx'
    by_cases ed' : ∃ jd, al t jd ∧ t 1 jd = x2 ∧ dirT (h 3) t jd
    · obtain ⟨jd, a, ed, dd⟩ := ed'
      have hy' := hy
      rw [← ed] at hy'
      by_cases nw : Wn t jj jd
      · apply q_A_rename
        rw [← ej, ← ed]
        refine T_isEntry v rfl rfl hd hx' (fun _ _ _ _ => ⟨fun z => absurd z (by decide), fun _ => ?_⟩) (fun no => absurd rfl (no jj j1 aj))
        refine T_isDirectory v rfl rfl hd hy' (fun _ _ _ _ => ⟨fun z => absurd z (by decide), fun _ => ?_⟩) (fun no => absurd dd (no jd a rfl))
        refine T_isWithin v hd j1 aj a (fun _ => ⟨fun z => absurd z (by decide), fun _ => ?_⟩) (fun no => absurd nw no)
        rw [ej, ed]
        exact set1 (-1) _ (by decide) (ref h _ (fun _ _ _ => rfl) (Or.inr ⟨jj, jd, j1, aj, ej, a, ed, dd, Or.inl ⟨nw, rfl⟩⟩))
      by_cases nmo : isNm (h 33) (h 32 1)
      · by_cases L : ∃ j3, 1 ≤ j3 ∧ al t j3 ∧ pt t j3 = jd ∧ j3 ≠ jj ∧ LD (h 3) (h 9) t R (h 33) (h 32 1) j3
        · apply q_A_rename
          rw [← ej, ← ed]
          refine T_isEntry v rfl rfl hd hx' (fun _ _ _ _ => ⟨fun z => absurd z (by decide), fun _ => ?_⟩) (fun no => absurd rfl (no jj j1 aj))
          refine T_isDirectory v rfl rfl hd hy' (fun _ _ _ _ => ⟨fun z => absurd z (by decide), fun _ => ?_⟩) (fun no => absurd dd (no jd a rfl))
          refine T_isWithin v hd j1 aj a (fun w => absurd w nw) (fun _ => ⟨fun _ => ?_, fun z => absurd wI_0 z⟩)
          refine N_isRight_32 c3.2.1 (fun i hi => by have := (c3.2.2 i hi).2; omega) (fun _ => ⟨fun z => absurd z (by decide), fun _ => ?_⟩) (fun no => absurd nmo no)
          obtain ⟨j3, q1, q2, q4, q5, q6⟩ := L
          refine T_findBut v rfl rfl rfl rfl gr a dd nmo hx' (fun b j4 j41 a4 p4 n4 l4 ob => ?_) (fun b no ob => ?_)
          · have rg := V_cl v j41 a4
            rw [wI_id (z := t 1 j4) (by omega) (by omega)]
            refine ⟨fun z => by omega, fun _ => ?_⟩
            rw [ej, ed]
            exact set1 (-4) _ (by decide) (ref b _ ob (Or.inr ⟨jj, jd, j1, aj, ej, a, ed, dd, Or.inr ⟨nw, Or.inr ⟨nmo, Or.inl ⟨⟨j4, j41, a4, p4, fun y => n4 (by rw [y]), l4⟩, rfl⟩⟩⟩⟩))
          · exact absurd (V_inj v q2 aj (no j3 q1 q2 q4 q6)) q5
        · have NL : ∀ j3, 1 ≤ j3 → al t j3 → j3 ≠ jj → pt t j3 = jd → ¬ LD (h 3) (h 9) t R (h 33) (h 32 1) j3 := fun j3 q1 q2 q5 q4 l => L ⟨j3, q1, q2, q4, q5, l⟩
          by_cases ro' : u2 (h 3) (ha (t 1 jj) + 4) % 2 = 0
          · obtain ⟨sz, esz⟩ : ∃ sz : Nat, h 32 1 = (sz : Int) := ⟨(h 32 1).toNat, by have := c3.2.1; omega⟩
            rw [esz] at nmo NL
            have sr : 1 ≤ sz ∧ sz ≤ 30 := by have := nmo.1; have := nmo.2.1; omega
            obtain ⟨m2, mm⟩ : ∃ m2 : Nat, (m2 = 1 ∧ sz ≤ 15) ∨ (m2 = 2 ∧ 15 < sz ∧ sz ≤ 30) := by
              by_cases y : sz ≤ 15
              · exact ⟨1, Or.inl ⟨rfl, y⟩⟩
              · exact ⟨2, Or.inr ⟨rfl, by omega, sr.2⟩⟩
            have cx : ∀ c : AH, (∀ o, ¬ (o = 0 ∨ (1 ≤ o ∧ o ≤ 4) ∨ o = 7 ∨ (11 ≤ o ∧ o ≤ 16) ∨ (26 ≤ o ∧ o ≤ 31) ∨ o = 32) → c o = h o) → RX (h 3) (h 9) (h 7 1) (h 7 2) c ∧ c 34 2 = h 7 3 ∧ Sb (c 36) ∧ c 34 3 = 1 ∧ (0 ≤ c 34 5 ∧ c 34 5 ≤ 1000) ∧ c 34 41 = (sz : Int) ∧ (∀ i, i < sz → c 52 i = h 33 i) := fun c oc => by
              have c34 : c 34 = h 34 := oc 34 (by decide)
              refine ⟨by unfold RX at *; rw [oc 35 (by decide), oc 38 (by decide), c34]; exact X, by rw [c34]; exact m2', by rw [oc 36 (by decide)]; exact c1.2.2.1, by rw [c34, ← e34]; exact h8, by rw [c34, ← c2.1]; exact c2.2.1, by rw [c34, sz41, esz], fun i hi => by rw [oc 52 (by decide)]; exact (nm i (by rw [esz]; omega)).symm⟩
            have fin : ∀ ee k, Spc (h 3) (R jd) (Kt t jd) (2 + (m2 : Int)) ee k → (0 < k → k ≤ cf (h 3) (h 7 3) (h 7 1) 0 (h 7 1).toNat) → ∀ (b : AH) (r a' : Int), (r = 0 ∧ a' = -7 ∨ r = 1 ∧ a' = 4 * dRo (h 3) (h 7 1) (h 7 3) 0 t R jd k (ee / 4).toNat + ee % 4) → Ph (h 3) (mvL (h 3) (h 9) (h 33) (h 7 1) (h 7 3) t R jd jj k (h 26 5) ee m2 sz) (h 1 3) (h 1 4) r (b 2) (b 1 3) (b 1 4) → Syn b → (r = 1 → ∃ t' R', V (b 3) (h 9) (h 7 1) (h 7 2) (h 7 3) t' R' ∧ Hd (b 3) t' R' b) → (∀ k, k ≠ 4 → b 7 k = h 7 k) → b 26 5 = h 26 5 → (∀ o, ¬ ((1 ≤ o ∧ o ≤ 4) ∨ o = 7 ∨ (11 ≤ o ∧ o ≤ 16) ∨ o = 26 ∨ (27 ≤ o ∧ o ≤ 31)) → b o = h o) → (-2147483648 ≤ a' ∧ a' < 2147483648 ∧ (r = 1 → a' ≠ -7)) → RunsI G 163 [vR 0, vI a'] (hs b 32 1 0) (fun r2 h2 => RunsI G 269 [vR 34, vI x1, vI x2] h2 (fun r3 h3 => wI r2 = wI r3 ∧ Inv Mo h3)) := by
              intro ee k sp kc b r a' ra ph sy gd b7 b26 ob ar
              refine T_set (as := [vI x1, vI x2]) ⟨ar.1, ar.2.1⟩ (fun b2 ob2 b08 => ?_)
              have b08' : b2 0 8 = r := by
                rw [b08, hs_o _ _ _ _ _ (by decide), ob 0 (by decide), h8]
                rcases ra with ⟨y1, y2⟩ | ⟨y1, y2⟩
                · rw [if_pos y2, y1]
                · rw [if_neg (ar.2.2 y1), y1]
              have b32 : b2 32 1 = 0 := by rw [ob2 32 (by decide), hs_same]
              have bb : ∀ o, o ≠ 0 → o ≠ 32 → b2 o = b o := fun o p q => by rw [ob2 o p, hs_o _ _ _ _ _ q]
              have bo : ∀ o, ¬ (o = 0 ∨ (1 ≤ o ∧ o ≤ 4) ∨ o = 7 ∨ (11 ≤ o ∧ o ≤ 16) ∨ (26 ≤ o ∧ o ≤ 31) ∨ o = 32) → b2 o = h o := fun o p => (bb o (by omega) (by omega)).trans (ob o (by omega))
              clear ob2
              obtain ⟨x2', y2, y6, y3, y5, y41, y52⟩ := cx b2 bo
              have t4 : b2 34 4 = h 26 5 := by rw [bo 34 (by decide)]; exact c2.2.2.2.2.2.symm
              have t5 : b2 34 5 = h 1 3 := by rw [bo 34 (by decide)]; exact c2.1.symm
              have t6 : b2 34 6 = h 1 4 := by rw [bo 34 (by decide)]; exact c2.2.2.1.symm
              refine M_move (r := r) (d' := b 2) (f' := b 1 3) (n' := b 1 4) (mp := h 7 3) (nm := h 33) (m2 := m2) (sz := sz) v x2' y2 y6 y3 y5 j1 aj ej hx a dd ed hy nw y41 y52 nmo mm NL gr ro' (fun w2 w3 => ?_) (fun e' k' sp' _ => ?_) (fun e' k' sp' _ c a2 ra2 c5 c6 cd cf' cn' cm c41 ck oc => ?_)
              · exfalso
                rcases sp.2.2 with ⟨z, z1, z2, _⟩ | ⟨z, _⟩
                · exact w2 ee sp.1 sp.2.1 z1 z2
                · have := kc (by omega); omega
              · obtain ⟨z1, z2⟩ := Spc_det sp' sp
                rw [z1, z2, t4, t5, t6]
                exact ph
              · obtain ⟨z1, z2⟩ := Spc_det sp' sp
                rw [z1, z2] at ra2
                have ea : a2 = a' := by
                  rcases ra with ⟨y1, y2⟩ | ⟨y1, y2⟩ <;> rcases ra2 with ⟨y3, y4⟩ | ⟨y3, y4⟩
                  · rw [y2, y4]
                  · omega
                  · omega
                  · rw [y2, y4]
                refine ⟨by rw [ea], ?_⟩
                have cl' : ∀ o, o ≠ 0 → o ≠ 32 → ¬ (o = 15 ∨ o = 16 ∨ (34 ≤ o ∧ o ≤ 36) ∨ (39 ≤ o ∧ o ≤ 51) ∨ (53 ≤ o ∧ o ≤ 59)) → c o = b o := fun o p q w => by rw [oc o w]; exact bb o p q
                have c7 : ∀ k, k ≠ 4 → c 7 k = h 7 k := fun k p => by rw [cl' 7 (by decide) (by decide) (by decide)]; exact b7 k p
                have c9 : c 9 = h 9 := by rw [cl' 9 (by decide) (by decide) (by decide)]; exact ob 9 (by decide)
                have c38 : c 38 = h 38 := by rw [cl' 38 (by decide) (by decide) (by decide)]; exact ob 38 (by decide)
                have b234 : b2 34 = h 34 := bo 34 (by decide)
                refine Inv_fin2 hI sy ph c5 c6 cd cf' cn' (by rw [oc 0 (by decide)]; exact b08') cm (fun o p p' => cl' o (by omega) (by omega) (by omega)) (by rw [cl' 26 (by decide) (by decide) (by decide)]; exact b26) (by rw [oc 32 (by decide)]; exact b32) c41 (by rw [cl' 17 (by decide) (by decide) (by decide)]; exact ob 17 (by decide)) (fun k p => by rw [ck k (by omega), b234]) (fun r1 => ?_)
                obtain ⟨t', R', vn, hdn⟩ := gd r1
                refine ⟨t', R', ?_, ?_, ?_, ?_, ?_, ?_, ?_⟩
                · rw [cl' 3 (by decide) (by decide) (by decide), c9, c7 1 (by decide), c7 2 (by decide), c7 3 (by decide)]; exact vn
                · rw [cl' 3 (by decide) (by decide) (by decide)]
                  unfold Hd at hdn ⊢
                  rw [cl' 12 (by decide) (by decide) (by decide), cl' 13 (by decide) (by decide) (by decide)]
                  exact hdn
                · rw [c38, c9]; exact X.2.2.2.2.1
                · rw [c9]; exact gr
                · rw [ck 0 (by omega), b234, c7 1 (by decide)]; exact X.2.2.1
                · rw [ck 1 (by omega), b234, c7 2 (by decide)]; exact X.2.2.2.1
                · rw [ck 2 (by omega), b234, c7 3 (by decide)]; exact m2'
            have rg4 : ∀ ee k, Spc (h 3) (R jd) (Kt t jd) (2 + (m2 : Int)) ee k → (0 < k → k ≤ cf (h 3) (h 7 3) (h 7 1) 0 (h 7 1).toNat) → 0 ≤ 4 * dRo (h 3) (h 7 1) (h 7 3) 0 t R jd k (ee / 4).toNat + ee % 4 ∧ 4 * dRo (h 3) (h 7 1) (h 7 3) 0 t R jd k (ee / 4).toNat + ee % 4 < 1000 := fun ee k sp kc => by
              obtain ⟨q1, q2, q3, q4⟩ := d4_row v a dd kc (Or.inl rfl) (h 26 5)
              have sle := Spc_le (show (2 + (m2 : Int)) = 3 ∨ (2 + (m2 : Int)) = 4 by rcases mm with y | y <;> omega) sp
              have := q4 (ee / 4).toNat (by have := sp.1; omega)
              omega
            rw [← ej, ← ed]
            refine A_rename c1.1 c2.2.1 v rfl rfl rfl rfl rfl gr hd j1 aj a dd nw hx' hy' esz nmo mm NL ro' (fun w2 w3 b b7 ob => ?_) (fun ee k sp kc b ph sy b7 b26 ob => ?_) (fun ee k sp kc b t' R' ph sy vn hdn b7 b26 ob => ?_)
            · rw [ej, ed]
              refine set1 (-6) _ (by decide) ?_
              have bo : ∀ o, ¬ (o = 0 ∨ (1 ≤ o ∧ o ≤ 4) ∨ o = 7 ∨ (11 ≤ o ∧ o ≤ 16) ∨ (26 ≤ o ∧ o ≤ 31) ∨ o = 32) → (hs b 32 1 0) o = h o := fun o p => by rw [hs_o _ _ _ _ _ (by omega)]; exact ob o (by omega)
              obtain ⟨x2', y2, y6, y3, y5, y41, y52⟩ := cx (hs b 32 1 0) bo
              have nosp : ∀ e' k', Spc (h 3) (R jd) (Kt t jd) (2 + (m2 : Int)) e' k' → (0 < k' → k' ≤ cf (h 3) (h 7 3) (h 7 1) 0 (h 7 1).toNat) → False := fun e' k' sp kc => by
                rcases sp.2.2 with ⟨z, z1, z2, _⟩ | ⟨z, _⟩
                · exact w2 e' sp.1 sp.2.1 z1 z2
                · have := kc (by omega); omega
              refine M_move (r := 0) (d' := b 2) (f' := 0) (n' := 0) (mp := h 7 3) (nm := h 33) (m2 := m2) (sz := sz) v x2' y2 y6 y3 y5 j1 aj ej hx a dd ed hy nw y41 y52 nmo mm NL gr ro' (fun _ _ c c6 ck c41 oc => ⟨rfl, ?_⟩) (fun e' k' sp' kc' => absurd (nosp e' k' sp' kc') id) (fun e' k' sp' kc' => absurd (nosp e' k' sp' kc') id)
              have b34' : (hs b 32 1 0) 34 = h 34 := by rw [hs_o _ _ _ _ _ (by decide)]; exact ob 34 (by decide)
              refine Inv_X hI c6 (fun o p => by rw [oc o (by omega), hs_o _ _ _ _ _ (by omega)]; exact ob o (by omega)) (fun k p => by rw [oc 7 (by decide), hs_o _ _ _ _ _ (by decide)]; exact b7 k p) (fun k p => by rw [ck k p, b34']) (by rw [oc 32 (by decide), hs_same]) c41
            · rw [ej, ed]
              exact fin ee k sp kc b 0 (-7) (Or.inl ⟨rfl, rfl⟩) ph sy (fun z => absurd z (by decide)) b7 b26 ob ⟨by decide, by decide, fun z => absurd z (by decide)⟩
            · have rg := rg4 ee k sp kc
              rw [ej, ed]
              exact fin ee k sp kc b 1 _ (Or.inr ⟨rfl, rfl⟩) ph sy (fun _ => ⟨t', R', vn, hdn⟩) b7 b26 ob ⟨by omega, by omega, fun _ => by omega⟩
          · apply q_A_rename
            have wa := V_at v j1 aj
            rw [← ej, ← ed]
            refine T_isEntry v rfl rfl hd hx' (fun _ _ _ _ => ⟨fun z => absurd z (by decide), fun _ => ?_⟩) (fun no => absurd rfl (no jj j1 aj))
            refine T_isDirectory v rfl rfl hd hy' (fun _ _ _ _ => ⟨fun z => absurd z (by decide), fun _ => ?_⟩) (fun no => absurd dd (no jd a rfl))
            refine T_isWithin v hd j1 aj a (fun w => absurd w nw) (fun _ => ⟨fun _ => ?_, fun z => absurd wI_0 z⟩)
            refine N_isRight_32 c3.2.1 (fun i hi => by have := (c3.2.2 i hi).2; omega) (fun _ => ⟨fun z => absurd z (by decide), fun _ => ?_⟩) (fun no => absurd nmo no)
            refine T_findBut v rfl rfl rfl rfl gr a dd nmo hx' (fun b j4 j41 a4 p4 n4 l4 ob => absurd l4 (NL j4 j41 a4 (fun y => n4 (by rw [y])) p4)) (fun b no ob => ⟨fun _ => ?_, fun z => absurd (by decide) z⟩)
            have hdb : Hd (h 3) t R b := by
              unfold Hd at hd ⊢
              rw [ob 12 (by decide) (by decide), ob 13 (by decide) (by decide)]
              exact hd
            apply q_T_headOf
            rw [show 768 + 32 * t 1 jj = ha (t 1 jj) from rfl]
            refine T_tailOf v hdb j1 aj ?_
            apply q_E_isReadOnly
            refine D_u2 (by rw [ob 3 (by decide) (by decide)]; exact hfb) (by omega) (by omega) ?_
            rw [ob 3 (by decide) (by decide), bA_1, wI_id (z := u2 (h 3) (ha (t 1 jj) + 4) % 2) (by omega) (by omega)]
            refine ⟨fun z => absurd z ro', fun _ => ⟨Or.inr rfl, fun z => absurd z (by decide), fun _ => ?_⟩⟩
            rw [ej, ed]
            exact set1 (-5) _ (by decide) (ref b _ ob (Or.inr ⟨jj, jd, j1, aj, ej, a, ed, dd, Or.inr ⟨nw, Or.inr ⟨nmo, Or.inr ⟨NL, ro', rfl⟩⟩⟩⟩))
      · apply q_A_rename
        rw [← ej, ← ed]
        refine T_isEntry v rfl rfl hd hx' (fun _ _ _ _ => ⟨fun z => absurd z (by decide), fun _ => ?_⟩) (fun no => absurd rfl (no jj j1 aj))
        refine T_isDirectory v rfl rfl hd hy' (fun _ _ _ _ => ⟨fun z => absurd z (by decide), fun _ => ?_⟩) (fun no => absurd dd (no jd a rfl))
        refine T_isWithin v hd j1 aj a (fun w => absurd w nw) (fun _ => ⟨fun _ => ?_, fun z => absurd wI_0 z⟩)
        refine N_isRight_32 c3.2.1 (fun i hi => by have := (c3.2.2 i hi).2; omega) (fun y => absurd y nmo) (fun no => ⟨fun _ => ?_, fun z => absurd wI_0 z⟩)
        rw [ej, ed]
        exact set1 (-3) _ (by decide) (ref h _ (fun _ _ _ => rfl) (Or.inr ⟨jj, jd, j1, aj, ej, a, ed, dd, Or.inr ⟨nw, Or.inl ⟨nmo, rfl⟩⟩⟩))
    · apply q_A_rename
      refine T_isEntry v rfl rfl hd hx (fun _ _ _ _ => ⟨fun z => absurd z (by decide), fun _ => ?_⟩) (fun no => absurd ej (no jj j1 aj))
      refine T_isDirectory v rfl rfl hd hy (fun j2 a2 d2 e2 => absurd ⟨j2, a2, e2, d2⟩ ed') (fun no => ⟨fun _ => set1 (-1) _ (by decide) (ref h _ (fun _ _ _ => rfl) (Or.inl ⟨Or.inr no, rfl⟩)), fun z => absurd wI_0 z⟩)
  · apply q_A_rename
    refine T_isEntry v rfl rfl hd hx (fun j2 j21 a2 e2 => absurd ⟨j2, j21, a2, e2⟩ ex) (fun no => ⟨fun _ => set1 (-1) _ (by decide) (ref h _ (fun _ _ _ => rfl) (Or.inl ⟨Or.inl no, rfl⟩)), fun z => absurd wI_0 z⟩)
end TMOVE
