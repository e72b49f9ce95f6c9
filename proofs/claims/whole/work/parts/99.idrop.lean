/-! drop: the reference, both -/
section TDROP
variable {G : GG} {h : AH} {f g : Nat → Int} {n root mp : Int} {t R : AH}
theorem M_drop {P : Int → AH → Prop} {x1 r f' n' : Int} {jj : Nat} {d' : Nat → Int} (v : V f g n root mp t R) (X : RX f g n root h) (hm : h 34 2 = mp) (h6 : Sb (h 36)) (h3 : h 34 3 = 1) (hf : 0 ≤ h 34 5 ∧ h 34 5 ≤ 1000) (q1 : 1 ≤ jj) (q : al t jj) (leaf : ∀ j, 1 ≤ j → al t j → pt t j ≠ jj) (e : t 1 jj = x1) (hx : in32 x1) (ro' : u2 f (ha (t 1 jj) + 4) % 2 = 0)
    (ph : Ph f [so1 f, dr1 f t R jj, dr2 f t R jj, dr3 f mp t R jj] (h 34 5) (h 34 6) r d' f' n')
    (H : ∀ b a, (r = 0 ∧ a = -7 ∨ r = 1 ∧ a = (Kt t jj : Int)) → Sb (b 35) → Sb (b 36) → (∀ k, k < 13824 → ub (b 35) k = d' k) → b 34 5 = f' → b 34 6 = n' → b 34 3 = r → (∀ k, ((k ≤ 2 ∨ k = 4) ∨ (9 ≤ k ∧ k ≤ 11) ∨ k = 41) → b 34 k = h 34 k) → (∀ o, ¬ ((34 ≤ o ∧ o ≤ 36) ∨ (39 ≤ o ∧ o ≤ 49) ∨ (53 ≤ o ∧ o ≤ 59)) → b o = h o) → P a b) : RunsI G 267 [vR 34, vI x1] h P := by
  have nn := V_n v
  have rg := V_rng v q1 q
  have v1 := V_so1 v
  have wp := v.1.2.2.2.1 jj q1 q
  have kn := V_K v q
  have rr' := V_rr v q
  have mpc := V_mp v
  have s3 := SetOK_3 (V_ln v q1 q)
  unfold clu at mpc
  have hs1 : ∀ x : Int, 512 ≤ x → rd (so1 f) x = rd f x := fun x p => so1_hi f p
  apply q_M_drop
  rw [h3]
  refine ⟨fun z => absurd z (by decide), fun _ => ?_⟩
  refine M_setAt v X hx (fun b z k j2 Z hk a2 e2 ez k2 k0 fr => ?_) (fun b no fr => absurd e (no jj q))
  have ej : j2 = jj := V_inj v a2 q (e2.trans e.symm)
  subst ej
  have k1 : 1 ≤ k := (by omega)
  rw [wI_id (z := (k : Int)) (by omega) (by omega)]
  refine ⟨fun y => by omega, fun _ => ⟨fun y => by omega, fun _ => ?_⟩⟩
  obtain ⟨kp, p42, pk, pp, p43, p44, p46, p47, p48, p49, _⟩ := ZR_par v Z hk a2 (by rw [e2, ez]) k1
  have kid := ZR_kid v Z hk a2 (by rw [e2, ez])
  have Xb := RX_congr fr X
  have NN : z 1 0 ≤ n + 1 := by obtain ⟨k', S, _⟩ := Z; exact SI_N S (by omega)
  have kp0 : kp = 0 ↔ pt t j2 = 0 := by obtain ⟨k', S, kl, L, A⟩ := Z; exact SL_0 v S wp.1 pk pp
  have parr : 1 ≤ kp → b 46 kp = bR f (t 1 (pt t j2)) ∧ b 47 kp = u4 f (ha (t 1 (pt t j2)) + 56) ∧ b 48 kp = u4 f (ha (t 1 (pt t j2)) + 52) := fun kp1 => by
    obtain ⟨k', S, kl, L, A⟩ := id Z
    obtain ⟨g1, g2, g3, g4, g5, g6, g7⟩ := A.2.2.2 kp kp1 pk
    rw [g4, g5, g6, ← pp]
    exact ⟨rfl, rfl, rfl⟩
  have b34 : b 34 34 = z 1 0 := by obtain ⟨k', S, kl, L, A⟩ := id Z; exact A.1
  have par : ∀ i : Nat, 1 ≤ i → (i : Int) < z 1 0 → 0 ≤ b 42 i ∧ b 42 i ≤ 200 := fun i i1 hi => by
    obtain ⟨k', S, kl, L, A⟩ := id Z
    obtain ⟨jc, c2, ec⟩ := L.1 i hi
    obtain ⟨kq, c42, ck, _⟩ := ZR_par v Z hi c2 ec i1
    rw [c42]
    omega
  have mid : Go G (pI P) 267 30 [some (vR 34), none, some (vI (k : Int)), some (vI (z 1 0))] [] b := by
    apply q_M_drop_c30
    rw [b34, wI_id (z := z 1 0) (by omega) (by omega), wI_id (z := (k : Int)) (by omega) (by omega), show (k : Int).toNat = k by omega, p49, bA_1, ro']
    refine ⟨fun _ => ⟨by omega, fun _ => ?_, fun y => absurd wI_0 y⟩, fun y => by omega⟩
    refine M_noPlans (fun c0 np nr oc0 => ?_)
    refine M_beginWrite (by rw [oc0 35 (by decide)]; exact Xb.1) (by rw [oc0 36 (by decide), fr.1 36 (by decide)]; exact h6) (fun c c6 cE oc => ?_)
    rw [oc0 35 (by decide)] at cE
    have cE' : E (ub (c 36)) f := cE.tr Xb.2.1
    have cb : ∀ o, ¬ (o = 36 ∨ o = 54 ∨ (56 ≤ o ∧ o ≤ 59)) → c o = b o := fun o p => (oc o (by omega)).trans (oc0 o (by omega))
    refine M_planFor (p := 0) (k := k) v (by rw [cb 35 (by decide)]; exact Xb.2.1) (by rw [cb 34 (by decide)]; exact Xb.2.2.2.1) q k0 k2 (fun _ => by rw [cb 46 (by decide), cb 47 (by decide), cb 48 (by decide)]; exact ⟨p46, p47, p48⟩) (by rw [cb 46 (by decide), p46]; exact bR_01 _ _) (by decide) (fun h5 e54 e53 e57 e58 eo e53' k5 o5 => ?_)
    rw [cb 46 (by decide), p46] at e57
    have h5b : ∀ o, ¬ (o = 34 ∨ o = 36 ∨ o = 39 ∨ (53 ≤ o ∧ o ≤ 59)) → h5 o = b o := fun o p => (o5 o (by omega)).trans (cb o (by omega))
    have h5k : ∀ k, ¬ ((17 ≤ k ∧ k ≤ 24) ∨ k = 34) → h5 34 k = h 34 k := fun k p => by rw [k5 k (by omega), cb 34 (by decide)]; exact fr.2 k p
    have oo5 : ∀ o, ¬ ((34 ≤ o ∧ o ≤ 36) ∨ (39 ≤ o ∧ o ≤ 49) ∨ (53 ≤ o ∧ o ≤ 59)) → h5 o = h o := fun o p => (h5b o (by omega)).trans (fr.1 o (by omega))
    refine M_dirtyS (f := f) (r := r) (d' := d') (f' := f') (n' := n') (ws := [dr1 f t R j2, dr2 f t R j2, dr3 f mp t R j2]) (by rw [h5b 35 (by decide)]; exact Xb.1) (by rw [o5 36 (by decide)]; exact c6) (by rw [h5b 35 (by decide)]; exact Xb.2.1) (by rw [o5 36 (by decide)]; exact cE') (by rw [h5k 5 (by decide)]; exact hf) (by rw [h5k 5 (by decide), h5k 6 (by decide)]; exact ph) (fun d r0 d5 d6 dd df dn d3 dk od => ⟨fun _ => ?_, fun y => absurd wI_0 y⟩) (fun d pd d5 d6 dE dW df dk od => ⟨fun y => absurd y (by decide), fun _ => ?_⟩)
    · exact H d (-7) (Or.inl ⟨r0, rfl⟩) d5 d6 dd df dn (by rw [d3, r0]) (fun k p => by rw [dk k (by omega) (by omega) (by omega)]; exact h5k k (by omega)) (fun o p => by rw [od o (by omega) (by omega) (by omega)]; exact oo5 o p)
    have dkk : ∀ k, ((k ≤ 3 ∨ k = 4) ∨ (9 ≤ k ∧ k ≤ 11) ∨ k = 41) → d 34 k = h 34 k := fun k p => by rw [dk k (by omega) (by omega)]; exact h5k k (by omega)
    have doo : ∀ o, ¬ ((34 ≤ o ∧ o ≤ 36) ∨ (39 ≤ o ∧ o ≤ 49) ∨ (53 ≤ o ∧ o ≤ 59)) → d o = h o := fun o p => by rw [od o (by omega) (by omega) (by omega)]; exact oo5 o p
    have darr : ∀ o, 41 ≤ o → o ≤ 49 → d o = b o := fun o p p' => by rw [od o (by omega) (by omega) (by omega)]; exact h5b o (by omega)
    refine M_unuse (u := so1 f) (w := so1 f) v1 d6 dE dW (by rw [dkk 1 (by omega)]; exact X.2.2.2.1) q1 q k2 (by rw [darr 42 (by omega) (by omega)]; exact p42) (by rw [darr 43 (by omega) (by omega)]; exact p43) (by rw [darr 44 (by omega) (by omega), p44, hs1 _ (by omega)]) kp0 (by omega) (fun kp1 => ?_) (fun _ _ => rfl) (fun u u6 uW uk ou => ?_)
    · have pa := parr kp1
      have jp1 : 1 ≤ pt t j2 := Nat.pos_of_ne_zero (fun y => absurd (kp0.mpr y) (Nat.ne_of_gt kp1))
      have prg := V_rng v jp1 wp.1
      rw [darr 46 (by omega) (by omega), darr 47 (by omega) (by omega), darr 48 (by omega) (by omega), pa.1, pa.2.1, pa.2.2]
      refine ⟨(so1_bR v jp1 wp.1).symm, ?_, ?_⟩
      · exact (u4_cg (fun x _ _ => hs1 _ (by omega))).symm
      · exact (u4_cg (fun x _ _ => hs1 _ (by omega))).symm
    rw [hs1 _ (by omega)] at uW
    have u5 : u 35 = d 35 := ou 35 (by decide) (by decide) (by decide)
    have ukk : ∀ k, k ≠ 17 → u 34 k = d 34 k := uk
    refine M_flS (f := so1 f) (w := dr1 f t R j2) (ws := [dr2 f t R j2, dr3 f mp t R j2]) (r := r) (d' := d') (f' := f') (n' := n') (by rw [u5]; exact d5) u6 (by rw [u5]; exact dE) uW (by rw [ukk 5 (by decide)]; exact df) (by rw [ukk 5 (by decide), ukk 6 (by decide)]; exact pd) (fun e r0 e5 e6 ed ef en e3 ek oe => ⟨fun _ => ?_, fun y => absurd wI_0 y⟩) (fun e pe e5 e6 eE ef ek oe => ⟨fun y => absurd y (by decide), fun _ => ?_⟩)
    · exact H e (-7) (Or.inl ⟨r0, rfl⟩) e5 (by rw [e6]; exact u6) ed ef en (by rw [e3, r0]) (fun k p => by rw [ek k (by omega) (by omega) (by omega), ukk k (by omega)]; exact dkk k (by omega)) (fun o p => by rw [oe o (by omega) (by omega), ou o (by omega) (by omega) (by omega)]; exact doo o p)
    have ekk : ∀ k, ((k ≤ 3 ∨ k = 4) ∨ (9 ≤ k ∧ k ≤ 11) ∨ k = 41) → e 34 k = h 34 k := fun k p => by rw [ek k (by omega) (by omega), ukk k (by omega)]; exact dkk k (by omega)
    have eoo : ∀ o, ¬ ((34 ≤ o ∧ o ≤ 36) ∨ (39 ≤ o ∧ o ≤ 49) ∨ (53 ≤ o ∧ o ≤ 59)) → e o = h o := fun o p => by rw [oe o (by omega) (by omega), ou o (by omega) (by omega) (by omega)]; exact doo o p
    have epl : ∀ o, 53 ≤ o → o ≤ 59 → e o = h5 o := fun o p p' => by rw [oe o (by omega) (by omega), ou o (by omega) (by omega) (by omega)]; exact od o (by omega) (by omega) (by omega)
    have em : e 34 2 = mp := by rw [ekk 2 (by omega)]; exact hm
    refine M_frees (K := Kt t j2) (keep := 0) (r := R j2) (w := dr1 f t R j2) (wr' := bR f (t 1 j2)) (rr := r) (d' := d') (f' := f') (n' := n') e5 (by rw [e6]; exact u6) eE (by rw [e6]; exact uW) ef (by rw [em]; omega) (by rw [epl 54 (by omega) (by omega)]; exact e54) (fun i hi => by rw [epl 53 (by omega) (by omega)]; have := e53 i hi; rw [show 102 * 0 + i = i by omega] at this; exact this) (by omega) rr' (fun i j p p' y => by have := (v.1.2.2.1 j2 j2 i j q q (by omega) p' y).2; omega) (by rw [epl 57 (by omega) (by omega)]; exact e57) (bR_01 _ _) (Nat.zero_le _) (by rw [em]; exact Ph_FRr pe) (fun g1 g5 g6 gd gf gn g3 gk og => ?_)
    have gkk : ∀ k, ((k ≤ 2 ∨ k = 4) ∨ (9 ≤ k ∧ k ≤ 11) ∨ k = 41) → g1 34 k = h 34 k := fun k p => by rw [gk k (by omega) (by omega) (by omega)]; exact ekk k (by omega)
    have goo : ∀ o, ¬ ((34 ≤ o ∧ o ≤ 36) ∨ (39 ≤ o ∧ o ≤ 49) ∨ (53 ≤ o ∧ o ≤ 59)) → g1 o = h o := fun o p => by rw [og o (by omega) (by omega) (by omega)]; exact eoo o p
    rcases (Ph_f ef pe).2 with y1 | y1
    · rw [y1] at g3 ⊢
      exact ⟨fun _ => H g1 (-7) (Or.inl ⟨y1, rfl⟩) g5 g6 gd gf gn (by rw [g3, y1, if_neg (by decide)]) gkk goo, fun y => absurd wI_0 y⟩
    · rw [y1] at g3 ⊢
      refine ⟨fun y => absurd y (by decide), fun _ => ⟨by decide, ?_⟩⟩
      rw [og 54 (by decide) (by decide) (by decide), epl 54 (by omega) (by omega), e54]
      exact H g1 _ (Or.inr ⟨y1, rfl⟩) g5 g6 gd gf gn (by rw [g3, y1, if_pos rfl, ekk 3 (by omega)]; exact h3) gkk goo
  have key : ∀ (m i : Nat), (i : Int) + m = z 1 0 → 1 ≤ i → Go G (pI P) 267 30 [some (vR 34), none, some (vI (k : Int)), some (vI (i : Int))] [] b := by
    intro m
    induction m with
    | zero =>
      intro i hi i1
      rw [show (i : Int) = z 1 0 by omega]
      exact mid
    | succ m ih =>
      intro i hi i1
      have pr := par i i1 (by omega)
      apply q_M_drop_c30
      rw [b34, wI_id (z := z 1 0) (by omega) (by omega), wI_id (z := (k : Int)) (by omega) (by omega), wI_id (z := (i : Int)) (by omega) (by omega), show (i : Int).toNat = i by omega, wI_id (z := b 42 i) (by omega) (by omega), show (i : Int) + 1 = ((i + 1 : Nat) : Int) by omega]
      refine ⟨fun y => by omega, fun _ => ⟨by omega, fun y => ?_, fun _ => ih (i + 1) (by omega) (by omega)⟩⟩
      obtain ⟨jc, c1, c2, c3⟩ := kid.mpr ⟨i, i1, by omega, y⟩
      exact absurd c3 (leaf jc c1 c2)
  exact key (z 1 0 - 1).toNat 1 (by omega) (by omega)
theorem T_set {j : Nat} {as : List AV} {r : Int} {b : AH} (rr : -2147483648 ≤ r ∧ r < 2147483648) (k : ∀ b2 : AH, (∀ o, o ≠ 0 → b2 o = b o) → b2 0 8 = (if r = -7 then 0 else b 0 8) → RunsI G j (vR 34 :: as) b2 (fun r2 h2 => wI r = wI r2 ∧ Inv Mo h2)) : RunsI G 163 [vR 0, vI r] b (fun r2 h2 => RunsI G j (vR 34 :: as) h2 (fun r3 h3 => wI r2 = wI r3 ∧ Inv Mo h3)) := by
  apply q_V_settled
  rw [wI_id (z := r) rr.1 rr.2]
  refine ⟨fun z => ⟨Or.inl rfl, ?_⟩, fun z => ?_⟩
  · have := k (hs b 0 8 0) (fun o p => hs_o _ _ _ _ _ p) (by rw [hs_same, if_pos z])
    rw [wI_id (z := r) rr.1 rr.2] at this
    exact this
  · have := k b (fun _ _ => rfl) (by rw [if_neg z])
    rw [wI_id (z := r) rr.1 rr.2] at this
    exact this
theorem T_drop (hI : Inv Mo h) {x1 : Int} (hx : in32 x1) : okI G (Inv Mo) 155 267 [vI x1] h := by
  obtain ⟨⟨c1, c2, c3, c4⟩, _⟩ := id hI
  have e34 := c2.2.2.2.1
  rcases c2.2.2.2.2.1 with h8 | h8
  · exact O_drop hI h8
  obtain ⟨t, R, v, hd, X, gr, m2⟩ := Mo_get hI h8
  have nn := V_n v
  have hf := V_by v
  apply q_V_drop
  rw [h8]
  refine ⟨fun z => absurd z (by decide), fun _ => ?_⟩
  by_cases ex : ∃ jj, 1 ≤ jj ∧ al t jj ∧ t 1 jj = x1
  · obtain ⟨jj, q1, q, e⟩ := ex
    have wa := V_at v q1 q
    have rg := V_rng v q1 q
    have kn := V_K v q
    have hx' := hx
    rw [← e] at hx' ⊢
    by_cases leaf : ∀ j, 1 ≤ j → al t j → pt t j ≠ jj
    · by_cases ro' : u2 (h 3) (ha (t 1 jj) + 4) % 2 = 0
      · have fin : ∀ (b : AH) (r a : Int), (r = 0 ∧ a = -7 ∨ r = 1 ∧ a = (Kt t jj : Int)) → Ph (h 3) [so1 (h 3), dr1 (h 3) t R jj, dr2 (h 3) t R jj, dr3 (h 3) (h 7 3) t R jj] (h 1 3) (h 1 4) r (b 2) (b 1 3) (b 1 4) → Syn b → (r = 1 → b 3 = dr3 (h 3) (h 7 3) t R jj ∧ Hd (dr3 (h 3) (h 7 3) t R jj) (td t jj) R b) → (∀ o, ¬ ((1 ≤ o ∧ o ≤ 4) ∨ (11 ≤ o ∧ o ≤ 16) ∨ (27 ≤ o ∧ o ≤ 30)) → b o = h o) → RunsI G 163 [vR 0, vI a] b (fun r2 h2 => RunsI G 267 [vR 34, vI (t 1 jj)] h2 (fun r3 h3 => wI r2 = wI r3 ∧ Inv Mo h3)) := by
          intro b r a ra ph sy gd ob
          refine T_set (as := [vI (t 1 jj)]) (by omega) (fun b2 ob2 b08 => ?_)
          have b08' : b2 0 8 = r := by
            rw [b08, ob 0 (by decide), h8]
            rcases ra with ⟨y1, y2⟩ | ⟨y1, y2⟩
            · rw [if_pos y2, y1]
            · rw [if_neg (by omega), y1]
          have bo : ∀ o, ¬ ((o ≤ 4) ∨ (11 ≤ o ∧ o ≤ 16) ∨ (27 ≤ o ∧ o ≤ 30)) → b2 o = h o := fun o p => by rw [ob2 o (by omega)]; exact ob o (by omega)
          have X2 : RX (h 3) (h 9) (h 7 1) (h 7 2) b2 := by unfold RX at *; rw [bo 35 (by decide), bo 38 (by decide), bo 34 (by decide)]; exact X
          refine M_drop (r := r) (d' := b 2) (f' := b 1 3) (n' := b 1 4) v X2 (by rw [bo 34 (by decide)]; exact m2) (by rw [bo 36 (by decide)]; exact c1.2.2.1) (by rw [bo 34 (by decide), ← e34]; exact h8) (by rw [bo 34 (by decide), ← c2.1]; exact c2.2.1) q1 q leaf rfl hx' ro' (by rw [bo 34 (by decide), ← c2.1, ← c2.2.2.1]; exact ph) (fun c a2 ra2 c5 c6 cd cf cn' cm ck oc => ?_)
          have ea : a2 = a := by
            rcases ra with ⟨y1, y2⟩ | ⟨y1, y2⟩ <;> rcases ra2 with ⟨y3, y4⟩ | ⟨y3, y4⟩ <;> omega
          refine ⟨by rw [ea], ?_⟩
          have co : ∀ o, ¬ ((o ≤ 4) ∨ (11 ≤ o ∧ o ≤ 16) ∨ (27 ≤ o ∧ o ≤ 30)) → ¬ ((34 ≤ o ∧ o ≤ 36) ∨ (39 ≤ o ∧ o ≤ 49) ∨ (53 ≤ o ∧ o ≤ 59)) → c o = h o := fun o p p' => by rw [oc o p']; exact bo o p
          have cl' : ∀ o, 1 ≤ o → o ≤ 30 → c o = b o := fun o p p' => by rw [oc o (by omega)]; exact ob2 o (by omega)
          refine Inv_fin hI sy ph c5 c6 cd cf cn' (by rw [oc 0 (by decide)]; exact b08') cm (fun o p p' => cl' o p (by omega)) (by rw [co 26 (by decide) (by decide)]) (by rw [co 32 (by decide) (by decide)]) (co 33 (by decide) (by decide)) (co 52 (by decide) (by decide)) (co 17 (by decide) (by decide)) (fun k p => by rw [ck k (by omega), bo 34 (by decide)]) (fun r1 => ?_)
          obtain ⟨w3, hdn⟩ := gd r1
          refine ⟨td t jj, R, ?_, ?_, ?_, ?_, ?_, ?_, ?_⟩
          · rw [cl' 3 (by omega) (by omega), w3, co 9 (by decide) (by decide), co 7 (by decide) (by decide)]
            exact V_dr3 v q1 q leaf
          · rw [cl' 3 (by omega) (by omega), w3]
            unfold Hd at hdn ⊢
            rw [cl' 12 (by omega) (by omega), cl' 13 (by omega) (by omega)]
            exact hdn
          · rw [co 38 (by decide) (by decide), co 9 (by decide) (by decide)]; exact X.2.2.2.2.1
          · rw [co 9 (by decide) (by decide)]; exact gr
          · rw [ck 0 (by omega), bo 34 (by decide), co 7 (by decide) (by decide)]; exact X.2.2.1
          · rw [ck 1 (by omega), bo 34 (by decide), co 7 (by decide) (by decide)]; exact X.2.2.2.1
          · rw [ck 2 (by omega), bo 34 (by decide), co 7 (by decide) (by decide)]; exact m2
        refine A_drop c1.1 c2.2.1 v rfl rfl rfl rfl hd q1 q leaf hx' ro' (fun b ph sy ob => fin b 0 (-7) (Or.inl ⟨rfl, rfl⟩) ph sy (fun z => absurd z (by decide)) ob) (fun b ph sy b3 hdb ob => fin b 1 _ (Or.inr ⟨rfl, rfl⟩) ph sy (fun _ => ⟨b3, hdb⟩) ob)
      · have ref : ∀ b2, FQ h b2 → RunsI G 267 [vR 34, vI (t 1 jj)] b2 (fun r2 h2 => wI (-5) = wI r2 ∧ Inv Mo h2) := by
          intro b2 fq
          have Xq := RX_Q fq X
          apply q_M_drop
          rw [fq.2 3 (by omega), ← e34, h8]
          refine ⟨fun z => absurd z (by decide), fun _ => ?_⟩
          refine M_setAt v Xq hx' (fun b z k j2 Z hk a2 e2 ez k2 k0 fr => ?_) (fun b no fr => absurd rfl (no jj q))
          have ej : j2 = jj := V_inj v a2 q e2
          subst ej
          have k1 : 1 ≤ k := (by omega)
          rw [wI_id (z := (k : Int)) (by omega) (by omega)]
          refine ⟨fun y => by omega, fun _ => ⟨fun y => by omega, fun _ => ?_⟩⟩
          obtain ⟨kp, p42, pk, pp, p43, p44, p46, p47, p48, p49, _⟩ := ZR_par v Z hk a2 (by rw [e2, ez]) k1
          have kid := ZR_kid v Z hk a2 (by rw [e2, ez])
          have NN : z 1 0 ≤ h 7 1 + 1 := by obtain ⟨k', S, _⟩ := Z; exact SI_N S (by omega)
          have b34 : b 34 34 = z 1 0 := by obtain ⟨k', S, kl, L, A⟩ := id Z; exact A.1
          have par : ∀ i : Nat, 1 ≤ i → (i : Int) < z 1 0 → 0 ≤ b 42 i ∧ b 42 i ≤ 200 := fun i i1 hi => by
            obtain ⟨k', S, kl, L, A⟩ := id Z
            obtain ⟨jc, c2, ec⟩ := L.1 i hi
            obtain ⟨kq, c42, ck, _⟩ := ZR_par v Z hi c2 ec i1
            rw [c42]
            omega
          have key : ∀ (m i : Nat), (i : Int) + m = z 1 0 → 1 ≤ i → Go G (pI (fun r2 h2 => wI (-5) = wI r2 ∧ Inv Mo h2)) 267 30 [some (vR 34), none, some (vI (k : Int)), some (vI (i : Int))] [] b := by
            intro m
            induction m with
            | zero =>
              intro i hi i1
              apply q_M_drop_c30
              rw [b34, wI_id (z := z 1 0) (by omega) (by omega), wI_id (z := (k : Int)) (by omega) (by omega), wI_id (z := (i : Int)) (by omega) (by omega), show (k : Int).toNat = k by omega, p49, bA_1, wI_id (z := u2 (h 3) (ha (t 1 j2) + 4) % 2) (by omega) (by omega)]
              exact ⟨fun _ => ⟨by omega, fun y => absurd y ro', fun _ => ⟨rfl, Inv_Q hI (fq.tr (FQ_n fr))⟩⟩, fun y => by omega⟩
            | succ m ih =>
              intro i hi i1
              have pr := par i i1 (by omega)
              apply q_M_drop_c30
              rw [b34, wI_id (z := z 1 0) (by omega) (by omega), wI_id (z := (k : Int)) (by omega) (by omega), wI_id (z := (i : Int)) (by omega) (by omega), show (i : Int).toNat = i by omega, wI_id (z := b 42 i) (by omega) (by omega), show (i : Int) + 1 = ((i + 1 : Nat) : Int) by omega]
              refine ⟨fun y => by omega, fun _ => ⟨by omega, fun y => ?_, fun _ => ih (i + 1) (by omega) (by omega)⟩⟩
              obtain ⟨jc, c1, c2, c3⟩ := kid.mpr ⟨i, i1, by omega, y⟩
              exact absurd c3 (leaf jc c1 c2)
          exact key (z 1 0 - 1).toNat 1 (by omega) (by omega)
        have c45 : ∀ b0 : AH, (∀ o, o ≠ 15 → o ≠ 16 → b0 o = h o) → Go G (pI (fun r1 h1 => RunsI G 163 [vR 0, vI r1] h1 (fun r2 h2 => RunsI G 267 [vR 34, vI (t 1 jj)] h2 (fun r3 h3 => wI r2 = wI r3 ∧ Inv Mo h3)))) 8 45 [some (vR 26), some (vI (t 1 jj)), some (vI (ha (t 1 jj)))] [] b0 := by
          intro b0 ob0
          apply q_A_remove_c45
          apply q_E_isReadOnly
          refine D_u2 (by rw [ob0 3 (by decide) (by decide)]; exact hf) (by omega) (by omega) ?_
          rw [ob0 3 (by decide) (by decide), bA_1, wI_id (z := u2 (h 3) (ha (t 1 jj) + 4) % 2) (by omega) (by omega)]
          refine ⟨fun z => absurd z ro', fun _ => ⟨Or.inr rfl, fun z => absurd z (by decide), fun _ => ?_⟩⟩
          apply q_V_settled
          exact ⟨fun z => absurd z (by decide), fun _ => ref b0 (FQ_15 ob0)⟩
        apply q_A_remove
        refine T_isEntry v rfl rfl hd hx' (fun j2 j1 a e => ⟨fun z => absurd z (by decide), fun _ => ?_⟩) (fun no => absurd rfl (no jj q1 q))
        apply q_T_headOf
        show RunsI G 83 [vR 10, vI (ha (t 1 jj))] h _
        refine E_isDirectory hf wa.1 wa.2.1 wa.2.2 (fun dd => ⟨fun z => absurd z (by decide), fun _ => ?_⟩) (fun dd => ⟨fun _ => c45 h (fun _ _ _ => rfl), fun z => absurd wI_0 z⟩)
        refine T_childV v rfl rfl rfl q (by unfold in32; decide) (fun b ob => ?_)
        rw [ans_none (fun qq p0 p1 ty => by
          obtain ⟨j', w1, w2, w3, w4⟩ := v.2.2.2.1 jj q (Or.inr dd) qq p0 p1 ty
          exact leaf j' w1 w2 w3)]
        exact ⟨fun _ => c45 b ob, fun z => absurd (by decide) z⟩
    · have kidt : ∃ jc, 1 ≤ jc ∧ al t jc ∧ pt t jc = jj := Classical.byContradiction (fun no => leaf (fun j a b c => no ⟨j, a, b, c⟩))
      obtain ⟨jc, k1, k2, k3⟩ := kidt
      have dj := (v.2.1 jc k1 k2).1
      rw [k3] at dj
      have wc := v.1.2.2.2.1 jc k1 k2
      have ec := V_e v k1 k2
      have sc := SetOK_3 (v.2.1 jc k1 k2).2
      rw [k3] at ec sc
      have ref : ∀ b2, FQ h b2 → RunsI G 267 [vR 34, vI (t 1 jj)] b2 (fun r2 h2 => wI (-1) = wI r2 ∧ Inv Mo h2) := by
        intro b2 fq
        have Xq := RX_Q fq X
        apply q_M_drop
        rw [fq.2 3 (by omega), ← e34, h8]
        refine ⟨fun z => absurd z (by decide), fun _ => ?_⟩
        refine M_setAt v Xq hx' (fun b z k j2 Z hk a2 e2 ez kk2 k0 fr => ?_) (fun b no fr => absurd rfl (no jj q))
        have ej : j2 = jj := V_inj v a2 q e2
        subst ej
        rw [wI_id (z := (k : Int)) (by omega) (by omega)]
        refine ⟨fun y => by omega, fun _ => ⟨fun y => by omega, fun _ => ?_⟩⟩
        have kid := ZR_kid v Z hk a2 (by rw [e2, ez])
        obtain ⟨i0, i01, i02, i03⟩ := kid.mp ⟨jc, k1, k2, k3⟩
        have NN : z 1 0 ≤ h 7 1 + 1 := by obtain ⟨k', S, _⟩ := Z; exact SI_N S (by omega)
        have b34 : b 34 34 = z 1 0 := by obtain ⟨k', S, kl, L, A⟩ := id Z; exact A.1
        have par : ∀ i : Nat, 1 ≤ i → (i : Int) < z 1 0 → 0 ≤ b 42 i ∧ b 42 i ≤ 200 := fun i i1 hi => by
          obtain ⟨k', S, kl, L, A⟩ := id Z
          obtain ⟨jc, c2, ec⟩ := L.1 i hi
          obtain ⟨kq, c42, ck, _⟩ := ZR_par v Z hi c2 ec i1
          rw [c42]
          omega
        have key : ∀ (m i : Nat), i + m = i0 → 1 ≤ i → Go G (pI (fun r2 h2 => wI (-1) = wI r2 ∧ Inv Mo h2)) 267 30 [some (vR 34), none, some (vI (k : Int)), some (vI (i : Int))] [] b := by
          intro m
          induction m with
          | zero =>
            intro i hi i1
            have ei : i = i0 := (by omega)
            subst ei
            apply q_M_drop_c30
            rw [b34, wI_id (z := z 1 0) (by omega) (by omega), wI_id (z := (k : Int)) (by omega) (by omega), wI_id (z := (i : Int)) (by omega) (by omega), show (i : Int).toNat = i by omega, i03, wI_id (z := (k : Int)) (by omega) (by omega)]
            exact ⟨fun y => by omega, fun _ => ⟨by omega, fun _ => ⟨rfl, Inv_Q hI (fq.tr (FQ_n fr))⟩, fun y => absurd rfl y⟩⟩
          | succ m ih =>
            intro i hi i1
            have pr := par i i1 (by omega)
            apply q_M_drop_c30
            rw [b34, wI_id (z := z 1 0) (by omega) (by omega), wI_id (z := (k : Int)) (by omega) (by omega), wI_id (z := (i : Int)) (by omega) (by omega), show (i : Int).toNat = i by omega, wI_id (z := b 42 i) (by omega) (by omega), show (i : Int) + 1 = ((i + 1 : Nat) : Int) by omega]
            exact ⟨fun y => by omega, fun _ => ⟨by omega, fun y => ⟨rfl, Inv_Q hI (fq.tr (FQ_n fr))⟩, fun _ => ih (i + 1) (by omega) (by omega)⟩⟩
        exact key (i0 - 1) 1 (by omega) (by omega)
      apply q_A_remove
      refine T_isEntry v rfl rfl hd hx' (fun j2 j1 a e => ⟨fun z => absurd z (by decide), fun _ => ?_⟩) (fun no => absurd rfl (no jj q1 q))
      apply q_T_headOf
      show RunsI G 83 [vR 10, vI (ha (t 1 jj))] h _
      refine E_isDirectory hf wa.1 wa.2.1 wa.2.2 (fun dd => ⟨fun z => absurd z (by decide), fun _ => ?_⟩) (fun dd => absurd (dj.resolve_left (by omega)) dd)
      refine T_childV v rfl rfl rfl q (by unfold in32; decide) (fun b ob => ?_)
      have as := ans_some (f := h 3) (V_rr v q) (2 * Kt t jj + 1) 0 (by omega) (by omega) (by omega) ⟨t 3 jc, wc.2.1.1, wc.2.1.2, by omega, sc.2.2.1⟩
      rw [wI_id (z := ans (h 3) (R jj) (Kt t jj) (2 * Kt t jj + 1) 0 0) (by omega) (by omega)]
      refine ⟨fun z => by omega, fun _ => ?_⟩
      apply q_V_settled
      exact ⟨fun z => absurd z (by decide), fun _ => ref b (FQ_15 ob)⟩
  · apply q_A_remove
    refine T_isEntry v rfl rfl hd hx (fun jj j1 a e => absurd ⟨jj, j1, a, e⟩ ex) (fun no => ⟨fun _ => ?_, fun z => absurd wI_0 z⟩)
    apply q_V_settled
    refine ⟨fun z => absurd z (by decide), fun _ => ?_⟩
    show RunsI G 267 [vR 34, vI x1] h _
    apply q_M_drop
    rw [← e34, h8]
    refine ⟨fun z => absurd z (by decide), fun _ => ?_⟩
    refine M_setAt v X hx (fun b z k j2 Z hk a2 e2 ez k2 k0 fr => ?_) (fun b no2 fr => ⟨fun _ => ⟨rfl, Inv_Q hI (FQ_n fr)⟩, fun y => absurd (by decide) y⟩)
    rw [wI_id (z := (k : Int)) (by omega) (by omega)]
    refine ⟨fun y => by omega, fun _ => ⟨fun y => ⟨rfl, Inv_Q hI (FQ_n fr)⟩, fun y => ?_⟩⟩
    exact absurd ⟨j2, by omega, a2, e2⟩ ex
end TDROP
