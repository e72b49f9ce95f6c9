/-! drop: the disk, the class -/
theorem Fl_d {d w d' d2 : Nat → Int} {f n r f' n' : Int} (a : ∀ k, k < 13824 → d2 k = d' k) (h : Fl 216 d w f n r d' f' n') : Fl 216 d w f n r d2 f' n' := by
  rcases h with ⟨p1, p2, p3, p4⟩ | ⟨p1, s, p2, p3, p4, p5, p6⟩
  · exact Or.inl ⟨p1, p2, fun k hk => (a k hk).trans (p3 k hk), p4⟩
  · exact Or.inr ⟨p1, s, p2, p3, p4, fun k hk => (a k hk).trans (p5 k hk), p6⟩
theorem FRr_Ph {w w1 w2 d' : Nat → Int} {fi ni r f' n' : Int} (r01 : r = 0 ∨ r = 1) (h : FRr w w1 w2 fi ni r d' f' n') : Ph w [w1, w2] fi ni r d' f' n' := by
  rcases h with h | ⟨d1, f1, n1, a, b⟩
  · exact Or.inl h
  · refine Or.inr ⟨d1, f1, n1, a, ?_⟩
    rcases r01 with z | z
    · subst z; exact Or.inl ⟨rfl, b⟩
    · subst z; exact Or.inr ⟨d', f', n', b, rfl, Fl_1 b, rfl, rfl⟩
theorem Ph_FRr {w w1 w2 d' : Nat → Int} {fi ni r f' n' : Int} (h : Ph w [w1, w2] fi ni r d' f' n') : FRr w w1 w2 fi ni r d' f' n' := by
  rcases h with h | ⟨d1, f1, n1, a, ⟨z, b⟩ | ⟨d2, f2, n2, b, z, c, e1, e2⟩⟩
  · exact Or.inl h
  · subst z; exact Or.inr ⟨d1, f1, n1, a, b⟩
  · subst z e1 e2
    exact Or.inr ⟨d1, f1, n1, a, Fl_d (fun k hk => (c k hk).trans (Fl_1 b k hk).symm) b⟩
theorem ans_none {f r : Nat → Int} {K : Nat} (no : ∀ q : Int, 0 ≤ q → q < 4 * (K : Int) → rd f (ea r q) ≠ 133) : ans f r K (2 * K + 1) 0 0 = -9 := by
  rw [ans_skip (L := 0) (by omega) (2 * K) (2 * K + 1) 0 (by omega) (by omega) (fun q a b _ => no q (by omega) (by omega)), show 2 * K + 1 - 2 * K = 0 + 1 by omega, ans, if_pos (by omega)]
theorem ans_some {f r : Nat → Int} {K : Nat} (rr : ∀ i, i < K → 2 ≤ r i ∧ r i ≤ 101) : ∀ (m : Nat) (p : Int), 0 ≤ p → p % 2 = 0 → p + 2 * (m : Int) = 4 * (K : Int) + 2 → (∃ q : Int, p ≤ q ∧ q % 2 = 0 ∧ q < 4 * (K : Int) ∧ rd f (ea r q) = 133) → 8 ≤ ans f r K m p 0 ∧ ans f r K m p 0 ≤ 500
  | 0, p, p0, pe, hm, ⟨q, a, b, c, d⟩ => by omega
  | m + 1, p, p0, pe, hm, ⟨q, a, b, c, d⟩ => by
    rw [ans, if_neg (by omega), if_neg (by decide)]
    by_cases z : rd f (ea r p) = 133
    · rw [if_pos z, if_pos rfl]
      have := rr (p / 4).toNat (by omega)
      omega
    · rw [if_neg z]
      have ne : q ≠ p := fun y => z (by rw [← y]; exact d)
      exact ans_some rr m (p + 2) (by omega) (by omega) (by omega) ⟨q, by omega, b, c, d⟩
section VDROP
variable {f g : Nat → Int} {n root mp : Int} {t R : AH}
theorem V_rr (v : V f g n root mp t R) {j : Nat} (a : al t j) : ∀ i, i < Kt t j → 2 ≤ R j i ∧ R j i ≤ 101 := fun i hi => by
  have nn := V_n v
  have := (v.1.2.1 j a i hi).1
  unfold clu at this
  omega
theorem bR_01 (f : Nat → Int) (p : Int) : bR f p = 0 ∨ bR f p = 1 := by
  unfold bR
  split
  · exact Or.inr rfl
  · exact Or.inl rfl
/-- head and tail of a SET: where they lie -/
theorem V_rng (v : V f g n root mp t R) {j : Nat} (j1 : 1 ≤ j) (a : al t j) : (1024 ≤ ha (t 1 j) ∧ ha (t 1 j) + 64 ≤ 13824) ∧ (1024 ≤ ea (R (pt t j)) (t 3 j + 2) ∧ ea (R (pt t j)) (t 3 j + 2) + 64 ≤ 13824) ∧ (ha (t 1 j) + 64 ≤ ca mp ∨ ca mp + 128 ≤ ha (t 1 j)) ∧ (ea (R (pt t j)) (t 3 j + 2) + 64 ≤ ca mp ∨ ca mp + 128 ≤ ea (R (pt t j)) (t 3 j + 2)) := by
  have nn := V_n v
  have wp := v.1.2.2.2.1 j j1 a
  have hd := V_hd v j1 a
  have tl := V_tl v j1 a
  have c1 := v.1.2.1 _ wp.1 _ hd.2.2.1
  have c2 := v.1.2.1 _ wp.1 _ tl.2.2.1
  have m := V_mp v
  have a1 := c1.1
  have a2 := c2.1
  have b1 := c1.2
  have b2 := c2.2
  unfold clu at a1 a2 m
  unfold ca at hd tl ⊢
  exact ⟨by omega, by omega, by omega, by omega⟩
theorem V_drop (v : V f g n root mp t R) {jj : Nat} (q1 : 1 ≤ jj) (q : al t jj) (leaf : ∀ j, 1 ≤ j → al t j → pt t j ≠ jj) (b : Int) : V (fbm (fzT (uu f (ha (t 1 jj)) (ea (R (pt t jj)) (t 3 jj + 2)) (rd f (ha (t 1 jj) + 1))) (R jj) b 0 (Kt t jj)) mp (R jj) 0 (Kt t jj - 0)) g n root mp (td t jj) R := by
  have nn := V_n v
  have rg := V_rng v q1 q
  have ds := V_ht v q1 q q1 q
  have rr := V_rr v q
  have mpc := V_mp v
  unfold clu at mpc
  have caM : 1024 ≤ ca mp ∧ ca mp + 128 ≤ 13824 := by unfold ca; omega
  have by1 : By (uu f (ha (t 1 jj)) (ea (R (pt t jj)) (t 3 jj + 2)) (rd f (ha (t 1 jj) + 1))) := By_un (V_by v)
  have u0 := un_0 (w := f) (k := rd f (ha (t 1 jj) + 1)) (show 0 ≤ ha (t 1 jj) by omega) (show 0 ≤ ea (R (pt t jj)) (t 3 jj + 2) by omega) (by omega)
  have une : ∀ x, 0 ≤ x → ¬ (x = ha (t 1 jj) ∨ x = ha (t 1 jj) + 32 ∨ x = ea (R (pt t jj)) (t 3 jj + 2) ∨ (rd f (ha (t 1 jj) + 1) = 3 ∧ x = ea (R (pt t jj)) (t 3 jj + 2) + 32)) → rd (uu f (ha (t 1 jj)) (ea (R (pt t jj)) (t 3 jj + 2)) (rd f (ha (t 1 jj) + 1))) x = rd f x := fun x x0 no => un_ne (by omega) (by omega) x0 no
  generalize uu f (ha (t 1 jj)) (ea (R (pt t jj)) (t 3 jj + 2)) (rd f (ha (t 1 jj) + 1)) = w1 at by1 u0 une ⊢
  have by2 : By (fzT w1 (R jj) b 0 (Kt t jj)) := By_fzT by1
  have hi : ∀ x, 1024 ≤ x → (x < ca mp ∨ ca mp + 128 ≤ x) → rd (fbm (fzT w1 (R jj) b 0 (Kt t jj)) mp (R jj) 0 (Kt t jj - 0)) x = rd w1 x := fun x x0 xm => by
    rw [fbm_ne (by omega) (by omega) xm _ (fun i hi => rr _ (by omega)), fzT_hi rr x0]
  have tbS : ∀ c, clu n c → (∀ i, i < Kt t jj → c ≠ R jj i) → tb (fbm (fzT w1 (R jj) b 0 (Kt t jj)) mp (R jj) 0 (Kt t jj - 0)) mp c = tb f mp c := fun c hc no => by
    unfold clu at hc
    rw [tb_fbm by2 (show 2 ≤ mp ∧ mp ≤ 101 by omega) (by omega) _ (fun i hi => ⟨rr _ (by omega), no _ (by omega)⟩)]
    unfold tb
    rw [fzT_hi rr (by unfold ca; omega), une _ (by unfold ca; omega) (by unfold ca at *; omega)]
  refine V_del v q1 q (By_fbm by2 _) leaf (fun j a nj d i hi' x x0 x1 no => ?_) (fun j a nj i hi' => ?_) (by rw [hi _ (by omega) (by omega), u0.1]; decide) (by rw [hi _ (by omega) (by omega), u0.2.1]; decide) (by rw [hi _ (by omega) (by omega), u0.2.2.1]; decide) (fun z => by rw [hi _ (by omega) (by omega), u0.2.2.2 z]; decide) (fun j a nj i hi' => ?_) ?_
  · have c := v.1.2.1 j a i hi'
    have c1 := c.1
    have c2 := c.2
    unfold clu at c1
    rw [hi x (by unfold ca at *; omega) (by unfold ca at *; omega)]
    exact une x (by unfold ca at *; omega) no
  · have c := (v.1.2.1 j a i hi').1
    unfold clu at c
    have e1 : ft (fbm (fzT w1 (R jj) b 0 (Kt t jj)) mp (R jj) 0 (Kt t jj - 0)) (R j i) = ft (fzT w1 (R jj) b 0 (Kt t jj)) (R j i) := u4_cg (fun x _ _ => fbm_ne (by omega) (by omega) (by omega) _ (fun i hi => rr _ (by omega)))
    rw [e1, fzT_ft rr (by omega) (fun i2 h2 _ z => nj (v.1.2.2.1 j jj i i2 a q hi' h2 z).1)]
    exact u4_cg (fun x _ _ => une _ (by omega) (by omega))
  · rw [tbS _ (v.1.2.1 j a i hi').1 (fun i2 h2 z => nj (v.1.2.2.1 j jj i i2 a q hi' h2 z).1)]
    exact v.2.2.2.2.2.1 j a i hi'
  · rw [tbS mp (V_mp v) (fun i2 h2 z => (v.1.2.1 jj q i2 h2).2 z.symm)]
    exact v.2.2.2.2.2.2.1
noncomputable def dr1 (f : Nat → Int) (t R : AH) (jj : Nat) : Nat → Int := uu (so1 f) (ha (t 1 jj)) (ea (R (pt t jj)) (t 3 jj + 2)) (rd f (ha (t 1 jj) + 1))
noncomputable def dr2 (f : Nat → Int) (t R : AH) (jj : Nat) : Nat → Int := fzT (dr1 f t R jj) (R jj) (bR f (t 1 jj)) 0 (Kt t jj)
noncomputable def dr3 (f : Nat → Int) (mp : Int) (t R : AH) (jj : Nat) : Nat → Int := fbm (dr2 f t R jj) mp (R jj) 0 (Kt t jj - 0)
theorem V_dr3 (v : V f g n root mp t R) {jj : Nat} (q1 : 1 ≤ jj) (q : al t jj) (leaf : ∀ j, 1 ≤ j → al t j → pt t j ≠ jj) : V (dr3 f mp t R jj) g n root mp (td t jj) R := by
  have rg := V_rng v q1 q
  have w := V_drop (V_so1 v) q1 q leaf (bR f (t 1 jj))
  rw [so1_hi f (show 512 ≤ ha (t 1 jj) + 1 by omega)] at w
  exact w
section
variable {G : GG} {h : AH}
theorem A_drop {P : Int → AH → Prop} {jj : Nat} (sy : Syn h) (hf : 0 ≤ h 1 3 ∧ h 1 3 ≤ 1000) (v : V f g n root mp t R) (h3 : h 3 = f) (h71 : h 7 1 = n) (h72 : h 7 2 = root) (h73 : h 7 3 = mp) (hd : Hd f t R h) (q1 : 1 ≤ jj) (q : al t jj) (leaf : ∀ j, 1 ≤ j → al t j → pt t j ≠ jj) (hx : in32 (t 1 jj)) (ro' : u2 f (ha (t 1 jj) + 4) % 2 = 0)
    (H0 : ∀ b, Ph f [so1 f, dr1 f t R jj, dr2 f t R jj, dr3 f mp t R jj] (h 1 3) (h 1 4) 0 (b 2) (b 1 3) (b 1 4) → Syn b → (∀ o, ¬ ((1 ≤ o ∧ o ≤ 4) ∨ (11 ≤ o ∧ o ≤ 16) ∨ (27 ≤ o ∧ o ≤ 30)) → b o = h o) → P (-7) b)
    (H1 : ∀ b, Ph f [so1 f, dr1 f t R jj, dr2 f t R jj, dr3 f mp t R jj] (h 1 3) (h 1 4) 1 (b 2) (b 1 3) (b 1 4) → Syn b → b 3 = dr3 f mp t R jj → Hd (dr3 f mp t R jj) (td t jj) R b → (∀ o, ¬ ((1 ≤ o ∧ o ≤ 4) ∨ (11 ≤ o ∧ o ≤ 16) ∨ (27 ≤ o ∧ o ≤ 30)) → b o = h o) → P (Kt t jj) b) : RunsI G 8 [vR 26, vI (t 1 jj)] h P := by
  have nn := V_n v
  have rg := V_rng v q1 q
  have wa := V_at v q1 q
  have s3 := SetOK_3 (V_ln v q1 q)
  have ds := V_ht v q1 q q1 q
  have kn := V_K v q
  have mpc := V_mp v
  unfold clu at mpc
  have hs1 : ∀ x : Int, 512 ≤ x → rd (so1 f) x = rd f x := fun x p => so1_hi f p
  have c45 : ∀ b0 : AH, (∀ o, o ≠ 15 → o ≠ 16 → b0 o = h o) → Go G (pI P) 8 45 [some (vR 26), some (vI (t 1 jj)), some (vI (ha (t 1 jj)))] [] b0 := by
    intro b0 ob0
    have b03 : b0 3 = f := (ob0 3 (by decide) (by decide)).trans h3
    have hb : By (b0 3) := by rw [b03]; exact V_by v
    have sy0 : Syn b0 := by unfold Syn Dk at *; rw [ob0 2 (by decide) (by decide), ob0 3 (by decide) (by decide), ob0 4 (by decide) (by decide)]; exact sy
    apply q_A_remove_c45
    apply q_E_isReadOnly
    refine D_u2 hb (by omega) (by omega) ?_
    rw [b03, bA_1, ro']
    refine ⟨fun _ => ⟨Or.inl rfl, fun _ => ?_, fun z => absurd wI_0 z⟩, fun z => absurd wI_0 z⟩
    refine A_openFile v b03 (by rw [ob0 7 (by decide) (by decide)]; exact h71) (by rw [ob0 7 (by decide) (by decide)]; exact h72) q1 q (fun h5 ro g4 g5 g30 g27 o5 => ?_)
    have oo5 : ∀ o, ¬ ((15 ≤ o ∧ o ≤ 16) ∨ (27 ≤ o ∧ o ≤ 30)) → h5 o = h o := fun o p => (o5 o (by omega)).trans (ob0 o (by omega) (by omega))
    have sy5 : Syn h5 := by unfold Syn Dk at *; rw [oo5 2 (by decide), oo5 3 (by decide), oo5 4 (by decide)]; exact sy
    have h51 : h5 1 = h 1 := oo5 1 (by decide)
    refine A_soilS (Q := Ph f [so1 f, dr1 f t R jj, dr2 f t R jj, dr3 f mp t R jj] (h 1 3) (h 1 4)) (ws := [dr1 f t R jj, dr2 f t R jj, dr3 f mp t R jj]) sy5 ((oo5 3 (by decide)).trans h3) (by rw [h51]; exact hf) (fun r d' f' n' p => by rw [h51] at p; exact p) (fun b qb syb ob => ⟨fun _ => H0 b qb syb (fun o p => (ob o (by omega)).trans (oo5 o (by omega))), fun y => absurd wI_0 y⟩) (fun b pb syb b3 bd bf ob => ⟨fun y => absurd y (by decide), fun _ => ?_⟩)
    have oob : ∀ o, ¬ ((1 ≤ o ∧ o ≤ 4) ∨ (15 ≤ o ∧ o ≤ 16) ∨ (27 ≤ o ∧ o ≤ 30)) → b o = h o := fun o p => (ob o (by omega)).trans (oo5 o (by omega))
    have hdb : Hd f t R b := by
      unfold Hd at hd ⊢
      rw [oob 12 (by decide), oob 13 (by decide)]
      exact hd
    refine T_tailOf v hdb q1 q ?_
    have r1 : ∀ x : Int, 512 ≤ x → rd (b 3) x = rd f x := fun x p => by rw [b3]; exact hs1 x p
    refine E_unS syb.1 wa.1 wa.2.1 (by omega) (by omega) (by omega) (by rw [r1 _ (by omega)]; exact s3.1) (by rw [r1 _ (by omega)]; exact s3.2.2.1) (by rw [r1 _ (by omega)]; exact s3.2.2.2.1) (by rw [r1 _ (by omega)]; exact s3.2.2.2.2.1) (by rw [r1 _ (by omega), r1 _ (by omega)]; exact s3.2.2.2.2.2) (fun c uc => ?_)
    rw [r1 _ (by omega), b3] at uc
    have c1 : c 1 = b 1 := uc.2.2 1 (by decide) (by decide)
    refine D_step (f := so1 f) (w := dr1 f t R jj) (ws := [dr2 f t R jj, dr3 f mp t R jj]) (Q := Ph f [so1 f, dr1 f t R jj, dr2 f t R jj, dr3 f mp t R jj] (h 1 3) (h 1 4)) uc.1 (fun k hk => by rw [uc.2.2 2 (by decide) (by decide)]; exact bd k hk) uc.2.1 (by rw [c1]; exact bf) (fun r d' f' n' p => pb r d' f' n' (by rw [c1] at p; exact p)) (fun e qe sye oe => ⟨fun _ => H0 e qe sye (fun o p => ((oe o (by omega)).trans (uc.2.2 o (by omega) (by omega))).trans (oob o (by omega))), fun y => absurd wI_0 y⟩) (fun e pe sye e3 ed ef oe => ⟨fun y => absurd y (by decide), fun _ => ?_⟩)
    have ooe : ∀ o, ¬ (1 ≤ o ∧ o ≤ 4) → e o = h5 o := fun o p => ((oe o (by omega)).trans (uc.2.2 o (by omega) (by omega))).trans (ob o (by omega))
    have e7 : e 7 = h 7 := (ooe 7 (by decide)).trans (oo5 7 (by decide))
    have roe : Ro e 28 29 (Kt t jj) (R jj) := by unfold Ro; rw [ooe 28 (by decide), ooe 29 (by decide)]; exact ro
    have gf := G_free (G := G) (P := fun r7 h7 => ((wI r7 = 0 → P (-7) h7) ∧ (¬ wI r7 = 0 → RunsV G 125 [vR 11] h7 (fun h8 => P (h8 28 1) h8)))) (h := e) (K := Kt t jj) (keep := 0) (r := R jj) (w := dr1 f t R jj) (wr' := bR f (t 1 jj)) sye e3 ef (by rw [e7, h71]; exact nn) (by rw [e7, h73]; omega) roe (fun i hi => by rw [e7, h71]; exact (v.1.2.1 jj q i hi).1) (by rw [ooe 27 (by decide)]; exact g4) (bR_01 _ _) (Nat.zero_le _) (fun rr d fr rr01 syd e3d od => ?_)
    · exact gf
    rw [e7, h73] at fr e3d
    have pd := pe _ _ _ _ (FRr_Ph rr01 fr)
    have ood : ∀ o, ¬ (1 ≤ o ∧ o ≤ 4) → d o = h5 o := fun o p => (od o (by omega) (by omega) (by omega) (by omega)).trans (ooe o p)
    have ood2 : ∀ o, ¬ ((1 ≤ o ∧ o ≤ 4) ∨ (11 ≤ o ∧ o ≤ 16) ∨ (27 ≤ o ∧ o ≤ 30)) → d o = h o := fun o p => (ood o (by omega)).trans (oo5 o (by omega))
    rcases rr01 with z | z
    · subst z
      exact ⟨fun _ => H0 d pd syd ood2, fun y => absurd wI_0 y⟩
    · subst z
      refine ⟨fun y => absurd y (by decide), fun _ => ?_⟩
      have d3 : d 3 = dr3 f mp t R jj := e3d rfl
      refine T_index (V_dr3 v q1 q leaf) d3 (by rw [ood2 7 (by decide)]; exact h71) (by rw [ood2 7 (by decide)]; exact h72) (fun k hk ok => ?_)
      rw [ok 28 (by decide), ood 28 (by decide), ro.1]
      refine H1 k (by rw [ok 1 (by decide), ok 2 (by decide)]; exact pd) ?_ ((ok 3 (by decide)).trans d3) hk (fun o p => (ok o (by omega)).trans (ood2 o p))
      unfold Syn Dk at *
      rw [ok 2 (by decide), ok 3 (by decide), ok 4 (by decide)]
      exact syd
  apply q_A_remove
  refine T_isEntry v h3 h71 hd hx (fun j2 j1 a e => ⟨fun z => absurd z (by decide), fun _ => ?_⟩) (fun no => absurd rfl (no jj q1 q))
  apply q_T_headOf
  show RunsI G 83 [vR 10, vI (ha (t 1 jj))] h _
  refine E_isDirectory (by rw [h3]; exact V_by v) wa.1 wa.2.1 (by rw [h3]; exact wa.2.2) (fun dd => ⟨fun z => absurd z (by decide), fun _ => ?_⟩) (fun dd => ⟨fun _ => c45 h (fun _ _ _ => rfl), fun z => absurd wI_0 z⟩)
  rw [h3] at dd
  refine T_childV v h3 h71 h72 q (by unfold in32; decide) (fun b ob => ?_)
  rw [ans_none (fun qq p0 p1 ty => by
    obtain ⟨j', w1, w2, w3, w4⟩ := v.2.2.2.1 jj q (Or.inr dd) qq p0 p1 ty
    exact leaf j' w1 w2 w3)]
  exact ⟨fun _ => c45 b ob, fun z => absurd (by decide) z⟩
end
end VDROP
