/-! write: the reference -/
theorem Inv_W {h h' : AH} (hI : Inv Mo h) (s6 : Sb (h' 36)) (o : ∀ o, ¬ (o = 7 ∨ o = 15 ∨ o = 16 ∨ (27 ≤ o ∧ o ≤ 31) ∨ o = 34 ∨ o = 36 ∨ (39 ≤ o ∧ o ≤ 51) ∨ (53 ≤ o ∧ o ≤ 59)) → h' o = h o) (k7 : ∀ k, k ≠ 4 → h' 7 k = h 7 k) (k34 : ∀ k, (k ≤ 6 ∨ (9 ≤ k ∧ k ≤ 11) ∨ k = 41) → h' 34 k = h 34 k) : Inv Mo h' := by
  obtain ⟨⟨c1, c2, c3, c4⟩, m⟩ := hI
  have cc : C1 (hs h' 0 0 0) → C1 h' := fun c => C1_congr (hs_o _ _ _ _ _ (by decide)).symm (hs_o _ _ _ _ _ (by decide)).symm (hs_o _ _ _ _ _ (by decide)).symm (hs_o _ _ _ _ _ (by decide)).symm (hs_o _ _ _ _ _ (by decide)).symm c
  refine ⟨⟨⟨?_, ?_, s6, ?_⟩, C2_congr (by rw [o 1 (by decide)]) (by rw [o 1 (by decide)]) (by rw [o 0 (by decide)]) (by rw [o 26 (by decide)]) (k34 3 (by omega)) (k34 4 (by omega)) (k34 5 (by omega)) (k34 6 (by omega)) c2, C3_congr (by rw [o 32 (by decide)]) (k34 41 (by omega)) (o 33 (by decide)) (o 52 (by decide)) c3, C4_congr (by rw [o 17 (by decide)]) (by rw [o 17 (by decide)]) (by rw [o 17 (by decide)]) (k34 9 (by omega)) (k34 10 (by omega)) (k34 11 (by omega)) c4⟩, fun q => Mo_C h h' ⟨o 2 (by decide), o 3 (by decide), k7 1 (by decide), k7 2 (by decide), k7 3 (by decide), o 9 (by decide), o 12 (by decide), o 13 (by decide), o 38 (by decide), k34 0 (by omega), k34 1 (by omega), k34 2 (by omega)⟩ (m (by rw [o 0 (by decide)] at q; exact q))⟩
  · have := c1.1
    unfold Syn Dk at *
    rw [o 2 (by decide), o 3 (by decide), o 4 (by decide)]
    exact this
  · rw [o 35 (by decide)]; exact c1.2.1
  · rw [o 2 (by decide), o 35 (by decide)]; exact c1.2.2.2
section SWRI
variable {f g : Nat → Int} {n root mp : Int} {t R : AH} {G : GG} {h : AH}
theorem M_write {P : Int → AH → Prop} {x1 x2 x3 x4 ln r f' n' : Int} {jj k m : Nat} {d' : Nat → Int} (v : V f g n root mp t R) (X : RX f g n root h) (hm : h 34 2 = mp) (h6 : Sb (h 36)) (h3 : h 34 3 = 1) (hf : 0 ≤ h 34 5 ∧ h 34 5 ≤ 1000) (q1 : 1 ≤ jj) (q : al t jj) (nd : ¬ dirT f t jj) (e : t 1 jj = x1) (hx : in32 x1) (m0 : x3 = (m : Int)) (m1 : 1 ≤ m ∧ m ≤ 1024) (a0 : 0 ≤ x2 ∧ x2 ≤ u4 f (ha (t 1 jj) + 56)) (ro' : u2 f (ha (t 1 jj) + 4) % 2 = 0) (el : ln = (if u4 f (ha (t 1 jj) + 56) < x2 + x3 then x2 + x3 else u4 f (ha (t 1 jj) + 56))) (lk : (ln + 127) / 128 = ((Kt t jj + k : Nat) : Int))
    (ph : (0 < k → k ≤ cf f mp n 0 n.toNat) → Ph f (wWs f n mp t R jj k x2 x4 m ln (h 34 4)) (h 34 5) (h 34 6) r d' f' n')
    (HF : cf f mp n 0 n.toNat < k → ∀ b, Sb (b 36) → (∀ k, (k ≤ 6 ∨ (9 ≤ k ∧ k ≤ 11) ∨ k = 41) → b 34 k = h 34 k) → (∀ o, ¬ (o = 34 ∨ o = 36 ∨ (39 ≤ o ∧ o ≤ 49) ∨ (53 ≤ o ∧ o ≤ 59)) → b o = h o) → P (-6) b)
    (H : (0 < k → k ≤ cf f mp n 0 n.toNat) → ∀ b a, (r = 0 ∧ a = -7 ∨ r = 1 ∧ a = ln) → Sb (b 35) → Sb (b 36) → (∀ k, k < 13824 → ub (b 35) k = d' k) → b 34 5 = f' → b 34 6 = n' → b 34 3 = r → (∀ k, ((k ≤ 2 ∨ k = 4) ∨ (9 ≤ k ∧ k ≤ 11) ∨ k = 41) → b 34 k = h 34 k) → (∀ o, ¬ ((34 ≤ o ∧ o ≤ 36) ∨ (39 ≤ o ∧ o ≤ 49) ∨ (53 ≤ o ∧ o ≤ 59)) → b o = h o) → P a b) : RunsI G 264 [vR 34, vI x1, vI x2, vI x3, vI x4] h P := by
  have nn := V_n v
  have rg := V_rng v q1 q
  have v1 := V_so1 v
  have wp := v.1.2.2.2.1 jj q1 q
  have ok := V_ln v q1 q
  have kn := V_K v q
  have rr' := V_rr v q
  have mpc := V_mp v
  have s3 := SetOK_3 ok
  have l56 := ok.2.2.1.1
  unfold clu at mpc
  have hb := V_by v
  have u56 := u4_rng hb (show 0 ≤ ha (t 1 jj) + 56 by omega) (show ha (t 1 jj) + 56 + 3 < 13824 by omega)
  have r1 := (v.2.2.1 jj q).1
  rw [rkP_n f _ (by have := V_cl v q1 q; omega)] at r1
  have lr : x2 + x3 ≤ ln ∧ 1 ≤ ln ∧ ln ≤ 14000 ∧ u4 f (ha (t 1 jj) + 56) ≤ ln := by
    rw [el]
    split <;> omega
  have am : x2 + m ≤ 128 * ((Kt t jj + k : Nat) : Int) := (by omega)
  have hs1 : ∀ x : Int, 512 ≤ x → rd (so1 f) x = rd f x := fun x p => so1_hi f p
  apply q_M_write
  rw [h3]
  refine ⟨fun z => absurd z (by decide), fun _ => ?_⟩
  refine M_fileAt v X hx (fun b z kx j2 Z hk a2 e2 ez k2 k0 dd fr => ?_) (fun b no fr => absurd (no jj q e) nd)
  have ej : j2 = jj := V_inj v a2 q (e2.trans e.symm)
  subst ej
  have k1 : 1 ≤ kx := (by omega)
  obtain ⟨kp, p42, pk, pp, p43, p44, p46, p47, p48, p49, _⟩ := ZR_par v Z hk a2 (by rw [e2, ez]) k1
  have Xb := RX_congr fr X
  have NN : z 1 0 ≤ n + 1 := by obtain ⟨k', S, _⟩ := Z; exact SI_N S (by omega)
  have kp0 : kp = 0 ↔ pt t j2 = 0 := by obtain ⟨k', S, kl, L, A⟩ := Z; exact SL_0 v S wp.1 pk pp
  have parr : 1 ≤ kp → b 46 kp = bR f (t 1 (pt t j2)) ∧ b 47 kp = u4 f (ha (t 1 (pt t j2)) + 56) ∧ b 48 kp = u4 f (ha (t 1 (pt t j2)) + 52) := fun kp1 => by
    obtain ⟨k', S, kl, L, A⟩ := id Z
    obtain ⟨g1, g2, g3, g4, g5, g6, g7⟩ := A.2.2.2 kp kp1 pk
    rw [g4, g5, g6, ← pp]
    exact ⟨rfl, rfl, rfl⟩
  rw [wI_id (z := (kx : Int)) (by omega) (by omega), show (kx : Int).toNat = kx by omega, p47, wI_id (z := x2) (by omega) (by omega), wI_id (z := x3) (by omega) (by omega)]
  refine ⟨fun y => by omega, fun _ => ⟨by omega, ?_⟩⟩
  refine M_in (by omega) (by omega) (by omega) (fun _ _ => ⟨fun y => absurd y (by decide), fun _ => ?_⟩) (fun no => absurd a0 no)
  refine M_in (by omega) (by omega) (by omega) (fun _ _ => ⟨fun y => absurd y (by decide), fun _ => ⟨by omega, ?_⟩⟩) (fun no => absurd (by omega) no)
  rw [p49, bA_1, ro']
  refine ⟨fun _ => ?_, fun y => absurd wI_0 y⟩
  refine M_noPlans (fun c0 np nr oc0 => ?_)
  refine M_beginWrite (by rw [oc0 35 (by decide)]; exact Xb.1) (by rw [oc0 36 (by decide), fr.1 36 (by decide)]; exact h6) (fun c c6 cE oc => ?_)
  rw [oc0 35 (by decide)] at cE
  have cE' : E (ub (c 36)) f := cE.tr Xb.2.1
  have cb : ∀ o, ¬ (o = 36 ∨ o = 54 ∨ (56 ≤ o ∧ o ≤ 59)) → c o = b o := fun o p => (oc o (by omega)).trans (oc0 o (by omega))
  refine M_planFor (p := 0) (k := kx) v (by rw [cb 35 (by decide)]; exact Xb.2.1) (by rw [cb 34 (by decide)]; exact Xb.2.2.2.1) q k0 k2 (fun _ => by rw [cb 46 (by decide), cb 47 (by decide), cb 48 (by decide)]; exact ⟨p46, p47, p48⟩) (by rw [cb 46 (by decide), p46]; exact bR_01 _ _) (by decide) (fun h5 e54 e53 e57 e58 eo e53' k5 o5 => ⟨by omega, ?_⟩)
  rw [cb 46 (by decide), p46] at e57 e58
  have h5b : ∀ o, ¬ (o = 34 ∨ o = 36 ∨ o = 39 ∨ (53 ≤ o ∧ o ≤ 59)) → h5 o = b o := fun o p => (o5 o (by omega)).trans (cb o (by omega))
  have h5k : ∀ k, ¬ ((17 ≤ k ∧ k ≤ 24) ∨ k = 34) → h5 34 k = h 34 k := fun k p => by rw [k5 k (by omega), cb 34 (by decide)]; exact fr.2 k p
  have oo5 : ∀ o, ¬ (o = 34 ∨ o = 36 ∨ (39 ≤ o ∧ o ≤ 49) ∨ (53 ≤ o ∧ o ≤ 59)) → h5 o = h o := fun o p => (h5b o (by omega)).trans (fr.1 o (by omega))
  have h56 : Sb (h5 36) := by rw [o5 36 (by decide)]; exact c6
  have h5W : E (ub (h5 36)) f := by rw [o5 36 (by decide)]; exact cE'
  have h5S : Sb (h5 35) := by rw [h5b 35 (by decide)]; exact Xb.1
  have h5E : E (ub (h5 35)) f := by rw [h5b 35 (by decide)]; exact Xb.2.1
  have n0 : ∀ p, p < 2 → h5 56 p = 0 ∧ h5 58 1 = 0 ∧ h5 54 1 = 0 ∧ h5 57 1 = 0 := fun p hp => by
    have a1 := np p hp
    have a2 := np 1 (by decide)
    rw [o5 56 (by decide), oc 56 (by decide), (eo 1 (by decide)).1, (eo 1 (by decide)).2.1, (eo 1 (by decide)).2.2, oc 54 (by decide), oc 57 (by decide), oc 58 (by decide)]
    exact ⟨a1.2.1, a2.2.2.2, a2.1, a2.2.2.1⟩
  have h559 : ∀ c, c < 102 → h5 59 c = 0 := fun c hc => by rw [o5 59 (by decide), oc 59 (by decide)]; exact nr c hc
  rw [h5b 47 (by decide), p47]
  apply q_M_greater
  rw [wL_id (z := u4 f (ha (t 1 j2) + 56)) (by omega) (by omega), wL_id (z := x2 + x3) (by omega) (by omega)]
  -- behind the choice
  have beh : ∀ b0 : AH, (0 < k → k ≤ cf f mp n 0 n.toNat) → Pl b0 0 (Kt t j2) (R j2) (bR f (t 1 j2)) k (wSq f n mp t R j2 k) (wRn f n mp t R j2 k) → Pl b0 1 0 (R j2) 0 0 (R j2) 0 → (∀ o, ¬ (o = 55 ∨ o = 56 ∨ o = 58 ∨ o = 59) → b0 o = h5 o) → RunsI G 179 [vR 34] b0 (fun r10 h10 => ((wI r10 = 0 → P (-7) h10) ∧ (¬ wI r10 = 0 → Go G (pI P) 264 152 [some (vR 34), none, some (vI x2), some (vI x3), some (vI x4), some (vI (kx : Int)), some (vL ln), none, none, some (vI 0)] [] h10))) := by
    intro b0 kc pl0 pl1 ob0
    obtain ⟨o1, o2, o3⟩ := wRo_ok v (jj := j2) (k := k) q kc
    have cs : ∀ i, i < k → 2 ≤ wSq f n mp t R j2 k i ∧ wSq f n mp t R j2 k i ≤ 101 := fun i hi => by have := (o1 i hi).1; unfold clu at this; omega
    have H' := H kc
    have ph' := ph kc
    have b034 : b0 34 = h5 34 := ob0 34 (by decide)
    refine M_dirtyS (f := f) (r := r) (d' := d') (f' := f') (n' := n') (ws := (wWs f n mp t R j2 k x2 x4 m ln (h 34 4)).tail) (by rw [ob0 35 (by decide)]; exact h5S) (by rw [ob0 36 (by decide)]; exact h56) (by rw [ob0 35 (by decide)]; exact h5E) (by rw [ob0 36 (by decide)]; exact h5W) (by rw [b034, h5k 5 (by decide)]; exact hf) (by rw [b034, h5k 5 (by decide), h5k 6 (by decide)]; exact ph') (fun d r0 d5 d6 dd df dn d3 dk od => ⟨fun _ => ?_, fun y => absurd wI_0 y⟩) (fun d pd d5 d6 dE dW df dk od => ⟨fun y => absurd y (by decide), fun _ => ?_⟩)
    · exact H' d (-7) (Or.inl ⟨r0, rfl⟩) d5 d6 dd df dn (by rw [d3, r0]) (fun k p => by rw [dk k (by omega) (by omega) (by omega), b034]; exact h5k k (by omega)) (fun o p => by rw [od o (by omega) (by omega) (by omega), ob0 o (by omega)]; exact oo5 o (by omega))
    have dkk : ∀ k, ((k ≤ 3 ∨ k = 4) ∨ (9 ≤ k ∧ k ≤ 11) ∨ k = 41) → d 34 k = h 34 k := fun k p => by rw [dk k (by omega) (by omega), b034]; exact h5k k (by omega)
    have doo : ∀ o, ¬ ((34 ≤ o ∧ o ≤ 36) ∨ (39 ≤ o ∧ o ≤ 49) ∨ (53 ≤ o ∧ o ≤ 59)) → d o = h o := fun o p => by rw [od o (by omega) (by omega) (by omega), ob0 o (by omega)]; exact oo5 o (by omega)
    have darr : ∀ o, 41 ≤ o → o ≤ 49 → d o = b o := fun o p p' => by rw [od o (by omega) (by omega) (by omega), ob0 o (by omega)]; exact h5b o (by omega)
    have dp0 : Pl d 0 (Kt t j2) (R j2) (bR f (t 1 j2)) k (wSq f n mp t R j2 k) (wRn f n mp t R j2 k) := Pl_cg (fun o p p' => od o (by omega) (by omega) (by omega)) pl0
    have dp1 : Pl d 1 0 (R j2) 0 0 (R j2) 0 := Pl_cg (fun o p p' => od o (by omega) (by omega) (by omega)) pl1
    have key : ∀ (zz i : Nat) (c : AH), i + zz = m → Sb (c 36) → E (ub (c 36)) (dat (so1 f) (wRo f n mp t R j2 k) x2 x4 i) → (∀ o, o ≠ 36 → c o = d o) → Go G (pI P) 264 152 [some (vR 34), none, some (vI x2), some (vI x3), some (vI x4), some (vI (kx : Int)), some (vL ln), none, none, some (vI (i : Int))] [] c := by
      intro zz
      induction zz with
      | zero =>
        intro i c hz c6' cW oc'
        rw [show i = m by omega] at cW ⊢
        apply q_M_write_c152
        rw [m0, wI_id (z := (m : Int)) (by omega) (by omega)]
        refine ⟨fun _ => ?_, fun y => by omega⟩
        refine M_flS (f := so1 f) (w := wD f n mp t R j2 k x2 x4 m) (ws := [w1D f n mp t R j2 k x2 x4 m, w2D f n mp t R j2 k x2 x4 m, w3D f n mp t R j2 k x2 x4 m, w4D f n mp t R j2 k x2 x4 m ln (h 34 4)]) (r := r) (d' := d') (f' := f') (n' := n') (by rw [oc' 35 (by decide)]; exact d5) c6' (by rw [oc' 35 (by decide)]; exact dE) cW (by rw [oc' 34 (by decide)]; exact df) (by rw [oc' 34 (by decide)]; exact pd) (fun e r0 e5 e6 ed ef en e3 ek oe => ⟨fun _ => ?_, fun y => absurd wI_0 y⟩) (fun e pe e5 e6 eE ef ek oe => ⟨fun y => absurd y (by decide), fun _ => ?_⟩)
        · exact H' e (-7) (Or.inl ⟨r0, rfl⟩) e5 (by rw [e6]; exact c6') ed ef en (by rw [e3, r0]) (fun k p => by rw [ek k (by omega) (by omega) (by omega), oc' 34 (by decide)]; exact dkk k (by omega)) (fun o p => by rw [oe o (by omega) (by omega), oc' o (by omega)]; exact doo o p)
        have ekk : ∀ k, ((k ≤ 3 ∨ k = 4) ∨ (9 ≤ k ∧ k ≤ 11) ∨ k = 41) → e 34 k = h 34 k := fun k p => by rw [ek k (by omega) (by omega), oc' 34 (by decide)]; exact dkk k (by omega)
        have eod : ∀ o, o ≠ 34 → o ≠ 35 → o ≠ 36 → e o = d o := fun o p q s => (oe o p q).trans (oc' o s)
        refine M_chains (f := wD f n mp t R j2 k x2 x4 m) (w := wD f n mp t R j2 k x2 x4 m) (w1 := w1D f n mp t R j2 k x2 x4 m) (w2 := w2D f n mp t R j2 k x2 x4 m) (ws := [w3D f n mp t R j2 k x2 x4 m, w4D f n mp t R j2 k x2 x4 m ln (h 34 4)]) (rr := r) (d' := d') (f' := f') (n' := n') e5 (by rw [e6]; exact c6') eE (by rw [e6]; exact cW) ef (Pl_cg (fun o p p' => eod o (by omega) (by omega) (by omega)) dp0) rr' cs (bR_01 _ _) wRn_01 (Pl_cg (fun o p p' => eod o (by omega) (by omega) (by omega)) dp1) (fun i hi => absurd hi (Nat.not_lt_zero _)) (fun i hi => absurd hi (Nat.not_lt_zero _)) (Or.inl rfl) (Or.inl rfl) (by rw [tk1_id (Or.inr rfl)]; rfl) (by rw [tk2_id (Or.inr rfl)]; rfl) pe (fun u r0 u5 u6 ud uf un' u3 uk ou => ⟨fun _ => ?_, fun y => absurd wI_0 y⟩) (fun u pu u5 u6 uE uW uf uk ou => ⟨fun y => absurd y (by decide), fun _ => ?_⟩)
        · exact H' u (-7) (Or.inl ⟨r0, rfl⟩) u5 u6 ud uf un' (by rw [u3, r0]) (fun k p => by rw [uk k (by omega) (by omega) (by omega)]; exact ekk k (by omega)) (fun o p => by rw [ou o (by omega) (by omega) (by omega), eod o (by omega) (by omega) (by omega)]; exact doo o p)
        have ukk : ∀ k, ((k ≤ 3 ∨ k = 4) ∨ (9 ≤ k ∧ k ≤ 11) ∨ k = 41) → u 34 k = h 34 k := fun k p => by rw [uk k (by omega) (by omega)]; exact ekk k (by omega)
        have uod : ∀ o, o ≠ 34 → o ≠ 35 → o ≠ 36 → u o = d o := fun o p q s => (ou o p q s).trans (eod o p q s)
        refine M_wantTaken (p := 0) (mp := mp) u6 uW (by rw [ukk 2 (by omega)]; exact hm) (by omega) (by decide) (Pl_cg (fun o p p' => uod o (by omega) (by omega) (by omega)) dp0) cs (fun y y6 yW oy => ?_)
        have w3e : w3D f n mp t R j2 k x2 x4 m = tbm (w2D f n mp t R j2 k x2 x4 m) mp (wSq f n mp t R j2 k) k := by unfold w3D tkX; rw [if_pos rfl]
        rw [← w3e] at yW
        refine M_flS (f := w2D f n mp t R j2 k x2 x4 m) (w := w3D f n mp t R j2 k x2 x4 m) (ws := [w4D f n mp t R j2 k x2 x4 m ln (h 34 4)]) (r := r) (d' := d') (f' := f') (n' := n') (by rw [oy 35 (by decide)]; exact u5) y6 (by rw [oy 35 (by decide)]; exact uE) yW (by rw [oy 34 (by decide)]; exact uf) (by rw [oy 34 (by decide)]; exact pu) (fun s r0 s5 s6 sd sf sn s3' sk os => ⟨fun _ => ?_, fun y => absurd wI_0 y⟩) (fun s ps s5 s6 sE sf sk os => ⟨fun y => absurd y (by decide), fun _ => ?_⟩)
        · exact H' s (-7) (Or.inl ⟨r0, rfl⟩) s5 (by rw [s6]; exact y6) sd sf sn (by rw [s3', r0]) (fun k p => by rw [sk k (by omega) (by omega) (by omega), oy 34 (by decide)]; exact ukk k (by omega)) (fun o p => by rw [os o (by omega) (by omega), oy o (by omega), uod o (by omega) (by omega) (by omega)]; exact doo o p)
        have skk : ∀ k, ((k ≤ 3 ∨ k = 4) ∨ (9 ≤ k ∧ k ≤ 11) ∨ k = 41) → s 34 k = h 34 k := fun k p => by rw [sk k (by omega) (by omega), oy 34 (by decide)]; exact ukk k (by omega)
        have sod : ∀ o, o ≠ 34 → o ≠ 35 → o ≠ 36 → s o = d o := fun o p q s' => (os o p q).trans ((oy o s').trans (uod o p q s'))
        refine M_plannedAt (p := 0) (i := 0) (by decide) (Pl_cg (fun o p p' => sod o (by omega) (by omega) (by omega)) dp0) (by omega) (by omega) ⟨by decide, ?_⟩
        have fe : (if Int.toNat 0 < Kt t j2 then R j2 (Int.toNat 0) else wSq f n mp t R j2 k (Int.toNat 0 - Kt t j2)) = wRo f n mp t R j2 k 0 := rfl
        rw [fe]
        have r58 : s 58 0 = wRn f n mp t R j2 k := (Pl_cg (fun o p p' => sod o (by omega) (by omega) (by omega)) dp0).2.2.2.2.2.2.2
        rw [r58]
        have c0' := (o3 0 (by omega)).1
        -- the SET
        have hdd := V_hd v q1 q
        have pne : pt t j2 ≠ j2 := fun y => by
          have := wp.2.2.2.1
          rw [y] at this
          omega
        have ftw : ∀ i, i < Kt t (pt t j2) → ft (w3D f n mp t R j2 k x2 x4 m) (R (pt t j2) i) = ft f (R (pt t j2) i) := fun i hi => by
          have ci := V_rr v wp.1 i hi
          have t1 : ft (w3D f n mp t R j2 k x2 x4 m) (R (pt t j2) i) = ft (w2D f n mp t R j2 k x2 x4 m) (R (pt t j2) i) := tkA_ft (u := wD f n mp t R j2 k x2 x4 m) (X := 0) (r := R j2) (s := wSq f n mp t R j2 k) (K := Kt t j2) (k := k) (wr' := bR f (t 1 j2)) (run := wRn f n mp t R j2 k) (show 2 ≤ mp ∧ mp ≤ 101 by omega) (Or.inl rfl) cs (show 0 ≤ R (pt t j2) i by omega) ci.2
          have t2 : ft (w2D f n mp t R j2 k x2 x4 m) (R (pt t j2) i) = ft (wD f n mp t R j2 k x2 x4 m) (R (pt t j2) i) := tk_out (wr' := bR f (t 1 j2)) (run := wRn f n mp t R j2 k) rr' cs (show 0 ≤ R (pt t j2) i by omega) (fun i2 h2 y => pne (v.1.2.2.1 _ j2 i i2 wp.1 q hi h2 y).1) (fun i2 h2 => (V_fresh v (o1 i2 h2).2).2 _ wp.1 i hi)
          rw [t1, t2]
          refine u4_cg (fun x _ _ => ?_)
          unfold wD
          rw [dat_ne (N := Kt t j2 + k) a0.1 (by omega) (fun i hi => (o3 i hi).1) (fun i' hi' => by have := (o3 i' hi').1; unfold ca; omega) m am]
          exact hs1 _ (by omega)
        have sm : ∀ y, ha (t 1 j2) ≤ y → y < ha (t 1 j2) + 64 → rd (w3D f n mp t R j2 k x2 x4 m) y = rd f y := fun y y0 y1 => by
          have cq := v.1.2.1 _ wp.1 _ hdd.2.2.1
          have cq1 := cq.1
          have cq2 := cq.2
          unfold clu at cq1
          have t2 : rd (w3D f n mp t R j2 k x2 x4 m) y = rd (wD f n mp t R j2 k x2 x4 m) y := tkA_hi (u := wD f n mp t R j2 k x2 x4 m) (X := 0) (r := R j2) (s := wSq f n mp t R j2 k) (K := Kt t j2) (k := k) (wr' := bR f (t 1 j2)) (run := wRn f n mp t R j2 k) (show 2 ≤ mp ∧ mp ≤ 101 by omega) (Or.inl rfl) rr' cs (x := y) (by omega) (by unfold ca at *; omega)
          rw [t2]
          unfold wD
          rw [dat_ne (N := Kt t j2 + k) a0.1 (by omega) (fun i hi => (o3 i hi).1) (fun i' hi' => ?_) m am]
          · exact hs1 _ (by omega)
          · have ne := (o3 i' hi').2.2 _ wp.1 pne _ hdd.2.2.1
            unfold ca at *
            omega
        refine M_changeG (u := w3D f n mp t R j2 k x2 x4 m) (w := w3D f n mp t R j2 k x2 x4 m) (K' := Kt t (pt t j2)) (r' := R (pt t j2)) v (by rw [s6]; exact y6) sE (by rw [s6]; exact yW) (by rw [skk 1 (by omega)]; exact X.2.2.2.1) q1 q k2 (by rw [sod 42 (by decide) (by decide) (by decide), darr 42 (by omega) (by omega)]; exact p42) (by rw [sod 43 (by decide) (by decide) (by decide), darr 43 (by omega) (by omega)]; exact p43) (by rw [sod 44 (by decide) (by decide) (by decide), darr 44 (by omega) (by omega)]; exact p44) kp0 (by omega) (fun kp1 => by rw [sod 46 (by decide) (by decide) (by decide), sod 47 (by decide) (by decide) (by decide), sod 48 (by decide) (by decide) (by decide), darr 46 (by omega) (by omega), darr 47 (by omega) (by omega), darr 48 (by omega) (by omega)]; exact parr kp1) (RwG_same v wp.1 ftw) sm wRn_01 (by omega) (by omega) (fun x x6 xW xk ox => ?_)
        have w4e : rly (w3D f n mp t R j2 k x2 x4 m) (ha (t 1 j2)) (ea (R (pt t j2)) (t 3 j2 + 2)) (wRn f n mp t R j2 k) (wRo f n mp t R j2 k 0) ln (s 34 4) = w4D f n mp t R j2 k x2 x4 m ln (h 34 4) := by
          rw [skk 4 (by omega)]
          rfl
        rw [w4e] at xW
        have x5 : x 35 = s 35 := ox 35 (by decide) (by decide) (by decide)
        refine M_flS (f := w3D f n mp t R j2 k x2 x4 m) (w := w4D f n mp t R j2 k x2 x4 m ln (h 34 4)) (ws := []) (r := r) (d' := d') (f' := f') (n' := n') (by rw [x5]; exact s5) x6 (by rw [x5]; exact sE) xW (by rw [xk 5 (by decide)]; exact sf) (by rw [xk 5 (by decide), xk 6 (by decide)]; exact ps) (fun l r0 l5 l6 ld lf ln' l3 lk' ol => ⟨fun _ => ?_, fun y => absurd wI_0 y⟩) (fun l pl l5 l6 lE lf lk' ol => ⟨fun y => absurd y (by decide), fun _ => ?_⟩)
        · exact H' l (-7) (Or.inl ⟨r0, rfl⟩) l5 (by rw [l6]; exact x6) ld lf ln' (by rw [l3, r0]) (fun k p => by rw [lk' k (by omega) (by omega) (by omega), xk k (by omega)]; exact skk k (by omega)) (fun o p => by rw [ol o (by omega) (by omega), ox o (by omega) (by omega) (by omega), sod o (by omega) (by omega) (by omega)]; exact doo o p)
        · obtain ⟨z1, z2, z3, z4⟩ := pl
          exact H' l ln (Or.inr ⟨z1, rfl⟩) l5 (by rw [l6]; exact x6) (fun j hj => (lE j hj).trans (z2 j hj).symm) z3.symm z4.symm (by rw [lk' 3 (by decide) (by decide), xk 3 (by decide), skk 3 (by omega), z1]; exact h3) (fun k p => by rw [lk' k (by omega) (by omega), xk k (by omega)]; exact skk k (by omega)) (fun o p => by rw [ol o (by omega) (by omega), ox o (by omega) (by omega) (by omega), sod o (by omega) (by omega) (by omega)]; exact doo o p)
      | succ zz ih =>
        intro i c hz c6' cW oc'
        have cr := (o3 ((x2 + (i : Int)) / 128).toNat (by omega)).1
        apply q_M_write_c152
        rw [m0, wI_id (z := (m : Int)) (by omega) (by omega), wI_id (z := (i : Int)) (by omega) (by omega), wI_id (z := x2 + (i : Int)) (by omega) (by omega), tdiv_pos (by omega), tmod_pos (by omega)]
        refine ⟨fun y => by omega, fun _ => ⟨by decide, M_plannedAt (p := 0) (by decide) (Pl_cg (fun o p p' => oc' o (by omega)) dp0) (by omega) (by omega) ?_⟩⟩
        apply q_M_clusterAt
        refine ⟨by decide, ?_⟩
        have ec : 1024 + 128 * ((if ((x2 + (i : Int)) / 128).toNat < Kt t j2 then R j2 ((x2 + (i : Int)) / 128).toNat else wSq f n mp t R j2 k (((x2 + (i : Int)) / 128).toNat - Kt t j2)) - 2) = ca (wRo f n mp t R j2 k ((x2 + (i : Int)) / 128).toNat) := rfl
        rw [ec]
        have cbd : 1024 ≤ ca (wRo f n mp t R j2 k ((x2 + (i : Int)) / 128).toNat) ∧ ca (wRo f n mp t R j2 k ((x2 + (i : Int)) / 128).toNat) + 128 ≤ 13824 := by unfold ca; omega
        rw [wI_id (z := ca (wRo f n mp t R j2 k ((x2 + (i : Int)) / 128).toNat) + (x2 + (i : Int)) % 128) (by omega) (by omega), show (i : Int) + 1 = ((i + 1 : Nat) : Int) by omega]
        refine ⟨by omega, ?_⟩
        have nx := ih (i + 1) (hs c 36 (ca (wRo f n mp t R j2 k ((x2 + (i : Int)) / 128).toNat) + (x2 + (i : Int)) % 128).toNat (w8 (w8 (x4 + (i : Int))))) (by omega) (Sb_set c6' _ (w8_rng _).1 (w8_rng _).2) ?_ (fun o p => (hs_o _ _ _ _ _ p).trans (oc' o p))
        · rw [m0] at nx
          exact nx
        · rw [ub_w8, show (((ca (wRo f n mp t R j2 k ((x2 + (i : Int)) / 128).toNat) + (x2 + (i : Int)) % 128).toNat : Nat) : Int) = ca (wRo f n mp t R j2 k ((x2 + (i : Int)) / 128).toNat) + (x2 + (i : Int)) % 128 by omega, dat]
          exact E_wb cW _ _ _
    exact key m 0 d (by omega) d6 dW (fun _ _ => rfl)
  have gr : ∀ yy : Int, yy = ln → ((128 : Int) ≠ 0 ∧ ((0 ≤ (0 : Int) ∧ (0 : Int) < 2) ∧ ((wI ((Int.tdiv (wL (yy + 127)) 128) - (h5 54 0)) ≤ 0 → RunsI G 179 [vR 34] h5 (fun r8 h8 => ((wI r8 = 0 → P (-7) h8) ∧ (¬ wI r8 = 0 → Go G (pI P) 264 152 [some (vR 34), none, some (vI x2), some (vI x3), some (vI x4), some (vI (kx : Int)), some (vL yy), none, none, some (vI 0)] [] h8)))) ∧ (¬ wI ((Int.tdiv (wL (yy + 127)) 128) - (h5 54 0)) ≤ 0 → RunsI G 243 [vR 34, vI 0, vI ((Int.tdiv (wL (yy + 127)) 128) - (h5 54 0))] h5 (fun r9 h9 => ((wI r9 = 0 → P (-6) h9) ∧ (¬ wI r9 = 0 → RunsI G 179 [vR 34] h9 (fun r10 h10 => ((wI r10 = 0 → P (-7) h10) ∧ (¬ wI r10 = 0 → Go G (pI P) 264 152 [some (vR 34), none, some (vI x2), some (vI x3), some (vI x4), some (vI (kx : Int)), some (vL yy), none, none, some (vI 0)] [] h10)))))))))) := by
    intro yy ey
    rw [ey, e54, wL_id (z := ln + 127) (by omega) (by omega), tdiv_pos (by omega), show (ln + 127) / 128 - (Kt t j2 : Int) = (k : Int) by omega, wI_id (z := (k : Int)) (by omega) (by omega)]
    have e53z : ∀ i, i < Kt t j2 → h5 53 (102 * 0 + i) = R j2 i := e53
    refine ⟨by decide, by decide, fun zk => ?_, fun zk => ?_⟩
    · have k00 : k = 0 := (by omega)
      refine beh h5 (by omega) ⟨e54, (by omega), e53z, e57, by rw [(n0 0 (by decide)).1, k00]; rfl, (by omega), fun i hi => by omega, ?_⟩ ⟨(n0 0 (by decide)).2.2.1, (by omega), fun i hi => by omega, (n0 0 (by decide)).2.2.2, (n0 1 (by decide)).1, (by omega), fun i hi => by omega, (n0 0 (by decide)).2.1⟩ (fun _ _ => rfl)
      rw [e58]
      unfold wRn
      rw [if_pos k00]
    · have mp' := M_plans (G := G) (P := fun r9 h9 => ((wI r9 = 0 → P (-6) h9) ∧ (¬ wI r9 = 0 → RunsI G 179 [vR 34] h9 (fun r10 h10 => ((wI r10 = 0 → P (-7) h10) ∧ (¬ wI r10 = 0 → Go G (pI P) 264 152 [some (vR 34), none, some (vI x2), some (vI x3), some (vI x4), some (vI (kx : Int)), some (vL ln), none, none, some (vI 0)] [] h10)))))) (h := h5) (f := f) (mp := mp) (n := n) (X := 0) (p := 0) (k := k) (K := Kt t j2) (last := R j2 (Kt t j2 - 1)) (wr' := bR f (t 1 j2)) h5S h5E (by rw [h5k 0 (by decide)]; exact X.2.2.1) (by rw [h5k 2 (by decide)]; exact hm) nn (by omega) (by decide) (by omega) e54 (by omega) (fun K0 => ⟨by have := e53z (Kt t j2 - 1) (by omega); rw [show 102 * 0 + (Kt t j2 - 1) = 102 * 0 + Kt t j2 - 1 by omega] at this; exact this, rr' _ (by omega)⟩) e57 (bR_01 _ _) (n0 0 (by decide)).1 (fun c c1 c2 => by rw [h559 c c1]; exact ⟨Or.inl rfl, fun y => absurd y (by decide), fun y => by omega⟩) (fun full => ⟨fun _ => HF full h5 h56 (fun k p => h5k k (by omega)) oo5, fun y => absurd wI_0 y⟩) (fun kc b2 gt g58 g58' => ⟨fun y => absurd y (by decide), fun _ => ?_⟩)
      · exact mp'
      obtain ⟨g1, g2, g3, g4, g5, g6⟩ := gt
      refine beh b2 (fun _ => kc) ⟨by rw [g6 54 (by decide)]; exact e54, (by omega), fun i hi => by rw [g6 53 (by decide)]; exact e53z i hi, by rw [g6 57 (by decide)]; exact e57, g1, by have := cf_le (f := f) (mp := mp) (n := n) (X := 0) n.toNat; omega, g2, ?_⟩ ⟨by rw [g6 54 (by decide)]; exact (n0 0 (by decide)).2.2.1, (by omega), fun i hi => by omega, by rw [g6 57 (by decide)]; exact (n0 0 (by decide)).2.2.2, by rw [g4 1 (by decide)]; exact (n0 1 (by decide)).1, (by omega), fun i hi => by omega, by rw [g58' 1 (by decide)]; exact (n0 0 (by decide)).2.1⟩ g6
      rw [g58]
      unfold wRn
      rw [if_neg (by omega)]
  exact ⟨fun c => gr _ (by rw [el]; split <;> omega), fun c => gr _ (by rw [el, if_neg (by omega)])⟩
end SWRI
