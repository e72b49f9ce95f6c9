/-! move: the class -/
section REN
variable {f g : Nat → Int} {n root mp : Int} {t R : AH} {jd jj : Nat} {G : GG} {h : AH}
theorem A_rename {P : Int → AH → Prop} {m2 sz : Nat} (sy : Syn h) (hf : 0 ≤ h 1 3 ∧ h 1 3 ≤ 1000) (v : V f g n root mp t R) (h3 : h 3 = f) (h71 : h 7 1 = n) (h72 : h 7 2 = root) (h73 : h 7 3 = mp) (h9 : h 9 = g) (gg : Gr g) (hd : Hd f t R h) (j1 : 1 ≤ jj) (aj : al t jj) (a : al t jd) (dd : dirT f t jd) (nw : ¬ Wn t jj jd) (hx : in32 (t 1 jj)) (hy : in32 (t 1 jd)) (esz : h 32 1 = (sz : Int)) (nmo : isNm (h 33) sz) (mm : (m2 = 1 ∧ sz ≤ 15) ∨ (m2 = 2 ∧ 15 < sz ∧ sz ≤ 30)) (NL : ∀ j3, 1 ≤ j3 → al t j3 → j3 ≠ jj → pt t j3 = jd → ¬ LD f g t R (h 33) sz j3) (ro' : u2 f (ha (t 1 jj) + 4) % 2 = 0)
    (HF : (∀ p' : Int, 0 ≤ p' → p' % 2 = 0 → p' + (2 + (m2 : Int)) ≤ 4 * (Kt t jd : Int) → ¬ FRw f (R jd) (2 + (m2 : Int)) p') → cf f mp n 0 n.toNat < 1 → ∀ b, (∀ k, k ≠ 4 → b 7 k = h 7 k) → (∀ o, ¬ (o = 7 ∨ o = 15 ∨ o = 16 ∨ (27 ≤ o ∧ o ≤ 31)) → b o = h o) → P (-6) b)
    (H0 : ∀ e k, Spc f (R jd) (Kt t jd) (2 + (m2 : Int)) e k → (0 < k → k ≤ cf f mp n 0 n.toNat) → ∀ b, Ph f (mvL f g (h 33) n mp t R jd jj k (h 26 5) e m2 sz) (h 1 3) (h 1 4) 0 (b 2) (b 1 3) (b 1 4) → Syn b → (∀ k, k ≠ 4 → b 7 k = h 7 k) → b 26 5 = h 26 5 → (∀ o, ¬ ((1 ≤ o ∧ o ≤ 4) ∨ o = 7 ∨ (11 ≤ o ∧ o ≤ 16) ∨ o = 26 ∨ (27 ≤ o ∧ o ≤ 31)) → b o = h o) → P (-7) b)
    (H1 : ∀ e k, Spc f (R jd) (Kt t jd) (2 + (m2 : Int)) e k → (0 < k → k ≤ cf f mp n 0 n.toNat) → ∀ b t' R', Ph f (mvL f g (h 33) n mp t R jd jj k (h 26 5) e m2 sz) (h 1 3) (h 1 4) 1 (b 2) (b 1 3) (b 1 4) → Syn b → V (b 3) g n root mp t' R' → Hd (b 3) t' R' b → (∀ k, k ≠ 4 → b 7 k = h 7 k) → b 26 5 = h 26 5 → (∀ o, ¬ ((1 ≤ o ∧ o ≤ 4) ∨ o = 7 ∨ (11 ≤ o ∧ o ≤ 16) ∨ o = 26 ∨ (27 ≤ o ∧ o ≤ 31)) → b o = h o) → P (4 * dRo f n mp 0 t R jd k (e / 4).toNat + e % 4) b) : RunsI G 1 [vR 26, vI (t 1 jj), vI (t 1 jd), vR 32] h P := by
  have nn := V_n v
  have hb := V_by v
  have mpc := V_mp v
  unfold clu at mpc
  have sz1 := nmo.1
  have mr : sz ≤ 30 ∧ ((sz : Int) + 14) / 15 = (m2 : Int) ∧ (m2 = 1 ∨ m2 = 2) := by rcases mm with y | y <;> omega
  have m34 : (2 + (m2 : Int)) = 3 ∨ (2 + (m2 : Int)) = 4 := (by omega)
  have nm0 : isNm (h 33) (h 32 1) := by rw [esz]; exact nmo
  have px : PX f mp n 0 := Or.inl rfl
  have nj : jj ≠ jd := fun y => nw ⟨0, y.symm⟩
  have wa := V_at v j1 aj
  have rg := V_rng v j1 aj
  have dsj := V_ht v j1 aj j1 aj
  have ok := V_ln v j1 aj
  have s3 := SetOK_3 ok
  apply q_A_rename
  refine T_isEntry v h3 h71 hd hx (fun _ _ _ _ => ⟨fun z => absurd z (by decide), fun _ => ?_⟩) (fun no => absurd rfl (no jj j1 aj))
  refine T_isDirectory v h3 h71 hd hy (fun _ _ _ _ => ⟨fun z => absurd z (by decide), fun _ => ?_⟩) (fun no => absurd dd (no jd a rfl))
  refine T_isWithin v hd j1 aj a (fun w => absurd w nw) (fun _ => ⟨fun _ => ?_, fun z => absurd wI_0 z⟩)
  refine N_isRight_32 (by rw [esz]; omega) (fun i hi => by rw [esz] at hi; have := isLet_rng (nmo.2.2.1 i (by omega)); omega) (fun _ => ⟨fun z => absurd z (by decide), fun _ => ?_⟩) (fun no => absurd nm0 no)
  refine T_findBut v h3 h71 h72 h9 gg a dd nm0 hx (fun b j3 j31 a3 p3 ne l ob => absurd (by rw [esz] at l; exact l) (NL j3 j31 a3 (fun y => ne (by rw [y])) p3)) (fun b _ ob => ⟨fun _ => ?_, fun z => absurd (by decide) z⟩)
  have ob' : ∀ o, ¬ (o = 15 ∨ o = 16) → b o = h o := fun o p => ob o (by omega) (by omega)
  have b3 : b 3 = f := (ob' 3 (by decide)).trans h3
  have hdb : Hd f t R b := by
    unfold Hd at hd ⊢
    rw [ob' 12 (by decide), ob' 13 (by decide)]
    exact hd
  apply q_T_headOf
  rw [show 768 + 32 * t 1 jj = ha (t 1 jj) from rfl]
  refine T_tailOf v hdb j1 aj ?_
  apply q_E_isReadOnly
  refine D_u2 (by rw [b3]; exact hb) (by omega) (by omega) ?_
  rw [b3, bA_1, wI_id (z := u2 f (ha (t 1 jj) + 4) % 2) (by omega) (by omega), ro']
  refine ⟨fun _ => ⟨Or.inl rfl, fun _ => ?_, fun z => absurd wI_0 z⟩, fun z => absurd rfl z⟩
  generalize eb : hs b 7 4 0 = b1
  have b174 : b1 7 4 = 0 := by rw [← eb]; exact hs_same _ _ _ _
  have b17 : ∀ k, k ≠ 4 → b1 7 k = h 7 k := fun k p => by rw [← eb, hs_k _ _ _ _ _ p, ob' 7 (by decide)]
  have ob1 : ∀ o, ¬ (o = 7 ∨ o = 15 ∨ o = 16) → b1 o = h o := fun o p => by rw [← eb, hs_o _ _ _ _ _ (by omega)]; exact ob' o (by omega)
  clear eb hdb b3 ob' ob
  refine A_planRow (X := 0) (m := 2 + (m2 : Int)) v ((ob1 3 (by decide)).trans h3) (by rw [b17 1 (by decide)]; exact h71) (by rw [b17 2 (by decide)]; exact h72) (by rw [b17 3 (by decide)]; exact h73) b174 a dd px (by rw [ob1 32 (by decide), esz]; omega) (by rw [ob1 32 (by decide), esz]; omega) (fun no full b ob => ⟨fun _ => HF no full b (fun k p => by rw [ob 7 (by decide)]; exact b17 k p) (fun o p => (ob o (by omega)).trans (ob1 o (by omega))), fun y => absurd wI_0 y⟩) (fun e k sp kc b ro rf e4 e5 ob => ⟨fun y => absurd y (by decide), fun _ => ?_⟩)
  have obh : ∀ o, ¬ (o = 7 ∨ o = 15 ∨ o = 16 ∨ (27 ≤ o ∧ o ≤ 31)) → b o = h o := fun o p => (ob o (by omega)).trans (ob1 o (by omega))
  have b7 : b 7 = b1 7 := ob 7 (by decide)
  have syb : Syn b := by unfold Syn Dk at *; rw [obh 2 (by decide), obh 3 (by decide), obh 4 (by decide)]; exact sy
  have hdb : Hd f t R b := by
    unfold Hd at hd ⊢
    rw [obh 12 (by decide), obh 13 (by decide)]
    exact hd
  have e26 : b 26 = h 26 := obh 26 (by decide)
  have b1' : b 1 = h 1 := obh 1 (by decide)
  obtain ⟨t', R', vn⟩ := V_move (nm := h 33) v a dd kc m34 sp (h 26 5) mm nmo j1 aj nw NL gg
  have c4 := (d4_row v a dd kc px (h 26 5)).2.2.2
  have hpos := mv_pos v a dd kc px m34 sp
  have fa : ∀ x, ((ha (t 1 jj) ≤ x ∧ x < ha (t 1 jj) + 64) ∨ (ea (R (pt t jj)) (t 3 jj + 2) ≤ x ∧ x < ea (R (pt t jj)) (t 3 jj + 2) + 64)) → _ := fun x hx => mv_far v a dd kc px m34 sp (h 26 5) j1 aj nj hx
  have old : ∀ x, ((ha (t 1 jj) ≤ x ∧ x < ha (t 1 jj) + 64) ∨ (ea (R (pt t jj)) (t 3 jj + 2) ≤ x ∧ x < ea (R (pt t jj)) (t 3 jj + 2) + 64)) → rd f x ≠ 0 → rd (mvW f g (h 33) n mp t R jd jj k (h 26 5) e m2 sz) x = rd f x := fun x hx nz => mvW_old v a dd kc m34 sp (h 26 5) j1 aj nj hx nz
  have hdj : ea (dRo f n mp 0 t R jd k) e + 64 ≤ ha (t 1 jj) ∨ ha (t 1 jj) + 64 ≤ ea (dRo f n mp 0 t R jd k) e := by
    have y1 := (fa (ha (t 1 jj)) (Or.inl ⟨by omega, by omega⟩)).1.1
    have y2 := (fa (ha (t 1 jj) + 63) (Or.inl ⟨by omega, by omega⟩)).1.1
    omega
  refine A_openRow (X := 0) (m := 2 + (m2 : Int)) (k := k) (e := e) (ws := [mvW f g (h 33) n mp t R jd jj k (h 26 5) e m2 sz, mvU f g (h 33) n mp t R jd jj k (h 26 5) e m2 sz]) (Q := Ph f (mvL f g (h 33) n mp t R jd jj k (h 26 5) e m2 sz) (h 1 3) (h 1 4)) v syb (by rw [b1']; exact hf) hdb ((obh 3 (by decide)).trans h3) (by rw [b7, b17 1 (by decide)]; exact h71) (by rw [b7, b17 3 (by decide)]; exact h73) (by rw [b7]; exact b174) a dd px (by rw [obh 32 (by decide), esz]; omega) (by rw [obh 32 (by decide), esz]; omega) sp kc ro rf e4 e5 (fun r' d' f' n' p => by rw [b1'] at p; exact p) (fun c qc syc oc => ⟨fun _ => H0 e k sp kc c qc syc (fun k p => by rw [oc 7 (by decide), b7]; exact b17 k p) (by rw [oc 26 (by decide), e26]) (fun o p => (oc o (by omega)).trans (obh o (by omega))), fun y => absurd wI_0 y⟩) (fun c pc dkc c3 cd cf' c6 c7 c26 oc => ⟨fun y => absurd y (by decide), fun _ => ?_⟩)
  rw [e26] at c3 c26
  have och : ∀ o, ¬ ((1 ≤ o ∧ o ≤ 4) ∨ o = 7 ∨ o = 15 ∨ o = 16 ∨ (26 ≤ o ∧ o ≤ 31)) → c o = h o := fun o p => (oc o (by omega)).trans (obh o (by omega))
  have c7k : ∀ k, k ≠ 4 → c 7 k = h 7 k := fun k p => by rw [oc 7 (by decide), b7]; exact b17 k p
  rw [c6, c7]
  refine E_begin (m2 := m2) (sz := sz) dkc (by omega) (by omega) (by omega) (by omega) (by omega) mm (by rw [och 32 (by decide)]; exact esz) (by rw [och 33 (by decide)]; exact nmo) (by rw [och 9 (by decide), h9]; exact gg) (fun c2 u2' => ?_)
  rw [c3, och 9 (by decide), och 33 (by decide), h9] at u2'
  have U26 : ∀ b' : AH, (∀ o, o ≠ 3 → o ≠ 4 → b' o = c o) → b' 26 6 = ea (dRo f n mp 0 t R jd k) e ∧ b' 26 7 = ea (dRo f n mp 0 t R jd k) (e + 2) ∧ b' 26 5 = h 26 5 := fun b' ob' => by
    rw [ob' 26 (by decide) (by decide)]
    exact ⟨c6, c7, c26 5 (by decide) (by decide)⟩
  have U2 := U26 c2 u2'.2.2
  rw [U2.1]
  have kp : ∀ x, ha (t 1 jj) ≤ x → x < ha (t 1 jj) + 64 → x % 32 ≠ 0 → rd (c2 3) x = rd f x := fun x x0 x1 xm => by
    have y := fa x (Or.inl ⟨x0, x1⟩)
    rw [u2'.2.1, rd_lay_n (by omega) (by omega) (by omega) y.1.1 (by have := y.1.2; omega)]
    rcases y.2 with z | z
    · exact z
    · exact absurd z.2 xm
  have a64 := (V_al64 v j1 aj).1
  refine E_copyBody u2'.1 (by omega) (by omega) (by omega) (by omega) (by omega) (fun c3' u3 => ?_)
  have v4 : u2 (c2 3) (ha (t 1 jj) + 4) = u2 f (ha (t 1 jj) + 4) := u2_cg (kp _ (by omega) (by omega) (by omega)) (kp _ (by omega) (by omega) (by omega))
  have v8 : u4 (c2 3) (ha (t 1 jj) + 8) = u4 f (ha (t 1 jj) + 8) := u4_cg (fun j _ _ => kp _ (by omega) (by omega) (by omega))
  have v12 : u4 (c2 3) (ha (t 1 jj) + 12) = u4 f (ha (t 1 jj) + 12) := u4_cg (fun j _ _ => kp _ (by omega) (by omega) (by omega))
  have v52 : u4 (c2 3) (ha (t 1 jj) + 52) = u4 f (ha (t 1 jj) + 52) := u4_cg (fun j _ _ => kp _ (by omega) (by omega) (by omega))
  have v56 : u4 (c2 3) (ha (t 1 jj) + 56) = u4 f (ha (t 1 jj) + 56) := u4_cg (fun j _ _ => kp _ (by omega) (by omega) (by omega))
  have v33 : (if rd (c2 3) (ha (t 1 jj) + 33) = 3 then (1 : Int) else 0) = bR f (t 1 jj) := by rw [kp _ (by omega) (by omega) (by omega)]; rfl
  rw [v4, v8, v12, v52, v56, v33, u2'.2.1, cpb_lay (by omega)] at u3
  have u23 := u2'.trans u3
  have U3 := U26 c3' u23.2.2
  rw [U3.1, U3.2.1]
  have r1 : rd (c3' 3) (ea (dRo f n mp 0 t R jd k) e + 1) = 1 + (m2 : Int) := by
    rw [u23.2.1, rd_lay_h (by omega) (by decide) (by decide)]
    show (1 + (m2 : Int)) / 256 ^ 0 % 256 = 1 + m2
    rw [Int.pow_zero, Int.ediv_one]
    omega
  refine E_seal u23.1 (by omega) (by omega) (by rw [r1]; omega) (by omega) (by omega) (fun c9 u9 => ?_)
  rw [u23.2.1] at u9
  have u89 := u23.trans u9
  have U9 := U26 c9 u89.2.2
  have c93 : c9 3 = mvW f g (h 33) n mp t R jd jj k (h 26 5) e m2 sz := u89.2.1
  have c91 : c9 1 = c 1 := u89.2.2 1 (by decide) (by decide)
  have c97 : ∀ k, k ≠ 4 → c9 7 k = h 7 k := fun k p => by rw [u89.2.2 7 (by decide) (by decide)]; exact c7k k p
  have o9h : ∀ o, ¬ ((1 ≤ o ∧ o ≤ 4) ∨ o = 7 ∨ o = 15 ∨ o = 16 ∨ (26 ≤ o ∧ o ≤ 31)) → c9 o = h o := fun o p => (u89.2.2 o (by omega) (by omega)).trans (och o p)
  refine D_step (f := d3 f n mp 0 t R jd k) (w := mvW f g (h 33) n mp t R jd jj k (h 26 5) e m2 sz) (ws := [mvU f g (h 33) n mp t R jd jj k (h 26 5) e m2 sz]) (Q := Ph f (mvL f g (h 33) n mp t R jd jj k (h 26 5) e m2 sz) (h 1 3) (h 1 4)) u89.1 (fun j hj => by rw [u89.2.2 2 (by decide) (by decide)]; exact cd j hj) c93 (by rw [c91]; exact cf') (fun r' d' f' n' p => pc r' d' f' n' (by rw [c91] at p; exact p)) (fun e' qe sye oe => ⟨fun _ => H0 e k sp kc e' qe sye (fun k p => by rw [oe 7 (by decide)]; exact c97 k p) (by rw [oe 26 (by decide)]; exact U9.2.2) (fun o p => (oe o (by omega)).trans (o9h o (by omega))), fun y => absurd wI_0 y⟩) (fun e' pe sye e3 ed ef oe => ⟨fun y => absurd y (by decide), fun _ => ?_⟩)
  have w0 := old (ha (t 1 jj)) (Or.inl ⟨by omega, by omega⟩) (by rw [s3.2.2.1]; decide)
  have w1 := old (ha (t 1 jj) + 1) (Or.inl ⟨by omega, by omega⟩) (by omega)
  have w32 := old (ha (t 1 jj) + 32) (Or.inl ⟨by omega, by omega⟩) (by rw [s3.2.2.2.1]; decide)
  have wt := old (ea (R (pt t jj)) (t 3 jj + 2)) (Or.inr ⟨by omega, by omega⟩) (by rw [s3.2.2.2.2.1]; decide)
  refine E_unS sye.1 (by omega) (by omega) (by omega) (by omega) (by omega) (by rw [e3, w1]; exact s3.1) (by rw [e3, w0]; exact s3.2.2.1) (by rw [e3, w32]; exact s3.2.2.2.1) (by rw [e3, wt]; exact s3.2.2.2.2.1) (fun y => ?_) (fun l ul => ?_)
  · rw [e3, w1] at y
    have y' := s3.2.2.2.2.2 y
    rw [e3, old (ea (R (pt t jj)) (t 3 jj + 2) + 32) (Or.inr ⟨by omega, by omega⟩) (by rw [y']; decide)]
    exact y'
  rw [e3, w1] at ul
  have l3 : l 3 = mvU f g (h 33) n mp t R jd jj k (h 26 5) e m2 sz := ul.2.1
  have l1 : l 1 = e' 1 := ul.2.2 1 (by decide) (by decide)
  have ol : ∀ o, ¬ (1 ≤ o ∧ o ≤ 4) → l o = c9 o := fun o p => (ul.2.2 o (by omega) (by omega)).trans (oe o p)
  refine D_step (f := mvW f g (h 33) n mp t R jd jj k (h 26 5) e m2 sz) (w := mvU f g (h 33) n mp t R jd jj k (h 26 5) e m2 sz) (ws := []) (Q := Ph f (mvL f g (h 33) n mp t R jd jj k (h 26 5) e m2 sz) (h 1 3) (h 1 4)) ul.1 (fun j hj => by rw [ul.2.2 2 (by decide) (by decide)]; exact ed j hj) l3 (by rw [l1]; exact ef) (fun r' d' f' n' p => pe r' d' f' n' (by rw [l1] at p; exact p)) (fun i qi syi oi => ⟨fun _ => H0 e k sp kc i qi syi (fun k p => by rw [oi 7 (by decide), ol 7 (by decide)]; exact c97 k p) (by rw [oi 26 (by decide), ol 26 (by decide)]; exact U9.2.2) (fun o p => by rw [oi o (by omega), ol o (by omega)]; exact o9h o (by omega)), fun y => absurd wI_0 y⟩) (fun i pi syi i3 id' if' oi => ⟨fun y => absurd y (by decide), fun _ => ?_⟩)
  have pi' := pi 1 (i 2) (i 1 3) (i 1 4) ⟨rfl, id', rfl, rfl⟩
  have oi' : ∀ o, ¬ (1 ≤ o ∧ o ≤ 4) → i o = c9 o := fun o p => (oi o p).trans (ol o p)
  refine T_index vn i3 (by rw [oi' 7 (by decide), c97 1 (by decide)]; exact h71) (by rw [oi' 7 (by decide), c97 2 (by decide)]; exact h72) (fun q hq oq => ?_)
  rw [oq 26 (by decide), oi' 26 (by decide), U9.1, ha_ea]
  have sle := Spc_le m34 sp
  have e0 := sp.1
  have q1 := c4 (e / 4).toNat (by omega)
  have q3 : q 3 = mvU f g (h 33) n mp t R jd jj k (h 26 5) e m2 sz := (oq 3 (by decide)).trans i3
  refine T_placeOf (by omega) (by omega) (H1 e k sp kc q t' R' (by rw [oq 1 (by decide), oq 2 (by decide)]; exact pi') ?_ (by rw [q3]; exact vn) (by rw [q3]; exact hq) (fun k p => by rw [oq 7 (by decide), oi' 7 (by decide)]; exact c97 k p) (by rw [oq 26 (by decide), oi' 26 (by decide)]; exact U9.2.2) (fun o p => by rw [oq o (by omega), oi' o (by omega)]; exact o9h o (by omega)))
  unfold Syn Dk at *
  rw [oq 2 (by decide), oq 3 (by decide), oq 4 (by decide)]
  exact syi
end REN
