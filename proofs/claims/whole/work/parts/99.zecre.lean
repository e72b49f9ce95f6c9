/-! make: the volume, the class -/
section CRE
variable {f g nm : Nat → Int} {n root mp X m : Int} {t R : AH} {jd k : Nat}
theorem d4_tb (v : V f g n root mp t R) (a : al t jd) {tm c : Int} (hc : 2 ≤ c ∧ c ≤ 101) : tb (d4 f n mp X t R jd k tm) mp c = tb (d3 f n mp X t R jd k) mp c := by
  unfold d4
  split
  · rfl
  · have j1 : 1 ≤ jd := (by omega)
    have rg := V_rng v j1 a
    have nn := V_n v
    have mpc := V_mp v
    unfold clu at mpc
    have ad := ad_mp (show 2 ≤ mp ∧ mp ≤ 101 by omega) rg.2.2.1 hc.1 hc.2
    unfold tb
    rw [rly_ne (by omega) ad.1 ad.2]
theorem d4_X (v : V f g n root mp t R) (a : al t jd) (kc : 0 < k → k ≤ cf f mp n X n.toNat) (px : PX f mp n X) (hX : X ≠ 0) {tm x : Int} (x0 : ca X ≤ x) (x1 : x < ca X + 128) : rd (d4 f n mp X t R jd k tm) x = 0 := by
  have fX := px.resolve_left hX
  rw [← d3_X v a kc px hX x0 x1]
  unfold d4
  split
  · rfl
  · have j1 : 1 ≤ jd := (by omega)
    have rg := V_rng v j1 a
    have hdd := V_hd v j1 a
    have wp := v.1.2.2.2.1 jd j1 a
    have ne := (V_fresh v fX.2.1).2 _ wp.1 _ hdd.2.2.1
    have c := fX.1
    refine rly_ne (by omega) (by unfold ca at x0; omega) ?_
    unfold ca at hdd x0 x1
    omega
theorem V_make (v : V f g n root mp t R) (a : al t jd) (dd : dirT f t jd) (kc : 0 < k → k ≤ cf f mp n X n.toNat) {e : Int} (m34 : m = 3 ∨ m = 4) (sp : Spc f (R jd) (Kt t jd) m e k) {tm D : Int} (XD : (D = 0 ∧ X = 0) ∨ (D = 1 ∧ fre f mp n 0 X)) {m2 sz : Nat} (em : m = 2 + (m2 : Int)) (mm : (m2 = 1 ∧ sz ≤ 15) ∨ (m2 = 2 ∧ 15 < sz ∧ sz ≤ 30)) (nmo : isNm nm sz) (NL : ∀ jj, 1 ≤ jj → al t jj → pt t jj = jd → ¬ LD f g t R nm sz jj) (gg : Gr g) : ∃ t' R', V (mkW f g nm n mp X t R jd k tm e m2 sz (16 * D) tm tm D X (128 * D)) g n root mp t' R' := by
  have nn := V_n v
  have px : PX f mp n X := by
    rcases XD with y | y
    · exact Or.inl y.2
    · exact Or.inr y.2
  have xr := PX_rng v px
  obtain ⟨t1, R1, v1, gr⟩ := V_room v a dd kc px tm
  obtain ⟨jn, n1, an⟩ := free_ix v
  have dN : jd ≠ jn := fun y => an (by rw [← y]; exact a)
  obtain ⟨o1, o2⟩ := dSq_ok (t := t) (R := R) (jd := jd) kc
  have D1 : 0 < D.toNat → D = 1 ∧ fre f mp n 0 X := fun y => by
    rcases XD with z | z
    · omega
    · exact z
  have xc : D = 1 → 2 ≤ X ∧ X ≤ n + 1 := fun y => by
    rcases XD with z | z
    · omega
    · exact z.2.1
  have D01 : D = 0 ∨ D = 1 := by
    rcases XD with z | z
    · exact Or.inl z.1
    · exact Or.inr z.1
  have X0 : D = 0 → X = 0 := fun y => by
    rcases XD with z | z
    · exact z.2
    · omega
  refine ⟨_, _, V_fin (F := mkW f g nm n mp X t R jd k tm e m2 sz (16 * D) tm tm D X (128 * D)) (ρ := fun j => if j = jn then (if jd = 0 then 1 else t 5 jd + 1) else if j = 0 then 0 else t 5 j) (K' := D.toNat) (r' := fun _ => X) v a dd kc px m34 sp v1 gr n1 dN em mm (By_nset (By_mks (By_d4 v kc px) _) (by rcases mm with y | y <;> omega)) (fun x _ _ => rfl) (fun x ox => absurd ox.1 an) nmo (fun jj j1 aj _ pj => NL jj j1 aj pj) gg ?_ ⟨by omega, by omega⟩ (by omega) (fun y => by omega) (fun y => ⟨X0 (by omega), by omega⟩) (fun y => by have := xc (by omega); omega) D01 (fun i hi => ?_) (fun i i' p p' => by omega) (fun j aj _ i i' hi hi' => (V_fresh v (D1 (by omega)).2.2.1).2 j aj i hi) (fun i i' hi hi' => (o1 i hi).2.2) ⟨by omega, fun i hi => ?_, fun y hi => by omega⟩ (fun i hi => ?_) (fun y => absurd y an) (fun _ y i hi o p p' => ?_) (fun j j1 aj nj => ?_) ?_⟩
  · rcases D01 with y | y <;> rw [y] <;> unfold At <;> decide
  · have := D1 (by omega)
    exact ⟨this.2.1, (V_fresh v this.2.2.1).1⟩
  · rw [show i = 0 by omega]
    rfl
  · have := xc (D1 (by omega)).1
    rw [d4_tb v a (by omega)]
    exact d3_tb v a kc px (by omega) (Or.inr (Or.inr rfl))
  · have := xc (D1 (by omega)).1
    rw [d4_X v a kc px (by omega) (by omega) (by omega)]
    decide
  · have w := v.1.2.2.2.1 j j1 aj
    have pn : pt t j ≠ jn := fun y => an (by rw [← y]; exact w.1)
    show (if pt t j = jn then _ else _) < (if j = jn then _ else _) ∧ 0 ≤ (if pt t j = jn then _ else _)
    rw [if_neg pn, if_neg nj, if_neg (show ¬ j = 0 by omega)]
    have w2 := w.2.2.2
    split <;> omega
  · show (if jd = jn then _ else _) < (if jn = jn then _ else _) ∧ 0 ≤ (if jd = jn then _ else _)
    rw [if_neg dN, if_pos rfl]
    by_cases y : jd = 0
    · rw [if_pos y, if_pos y]; decide
    · rw [if_neg y, if_neg y]
      have w := (v.1.2.2.2.1 jd (by omega) a).2.2.2
      omega
/-- one free CLUSTER -/
theorem rf_one (nn : 16 ≤ n ∧ n ≤ 100) : (rf f mp n 0 1 n.toNat = -9 ∧ cf f mp n 0 n.toNat < 1) ∨ (fre f mp n 0 (rf f mp n 0 1 n.toNat) ∧ 1 ≤ cf f mp n 0 n.toNat) := by
  rcases rf_0 (f := f) (mp := mp) (n := n) (X := 0) (k := 1) n.toNat with ⟨y, no⟩ | ⟨y, _⟩
  · refine Or.inl ⟨y, Nat.lt_of_not_le (fun z => ?_)⟩
    have ff := fi_fre (f := f) (mp := mp) (n := n) (X := 0) n.toNat (show 0 < cf f mp n 0 n.toNat by omega)
    refine no (fi f mp n 0 n.toNat 0) ?_ ?_ (fun i hi => ?_)
    · have := ff.1.1; omega
    · have := ff.1.1; omega
    · rw [show i = 0 by omega, show fi f mp n 0 n.toNat 0 + ((0 : Nat) : Int) = fi f mp n 0 n.toNat 0 by omega]
      exact ff.1
  · have r := rw_le (by decide) y
    have q := y 0 (by decide)
    rw [show rf f mp n 0 1 n.toNat + ((0 : Nat) : Int) = rf f mp n 0 1 n.toNat by omega] at q
    exact Or.inr ⟨q, r.1⟩
section
variable {G : GG} {h : AH}
/-- the PHASES of make -/
noncomputable def mkL (f g nm : Nat → Int) (n mp X : Int) (t R : AH) (jd k : Nat) (tm e : Int) (m2 sz : Nat) (D : Int) : List (Nat → Int) := [so1 f, dB f n mp X t R jd k, d1 f n mp X t R jd k, d2 f n mp X t R jd k, d3 f n mp X t R jd k, mkW f g nm n mp X t R jd k tm e m2 sz (16 * D) tm tm D X (128 * D)]
/-- which CLUSTER is promised -/
noncomputable def mkX (f : Nat → Int) (mp n D : Int) : Int := if D = 0 then 0 else rf f mp n 0 1 n.toNat
theorem A_create {P : Int → AH → Prop} {D : Int} {m2 sz : Nat} (sy : Syn h) (hf : 0 ≤ h 1 3 ∧ h 1 3 ≤ 1000) (v : V f g n root mp t R) (h3 : h 3 = f) (h71 : h 7 1 = n) (h72 : h 7 2 = root) (h73 : h 7 3 = mp) (h9 : h 9 = g) (gg : Gr g) (hd : Hd f t R h) (a : al t jd) (dd : dirT f t jd) (hx : in32 (t 1 jd)) (D01 : D = 0 ∨ D = 1) (esz : h 32 1 = (sz : Int)) (nmo : isNm (h 33) sz) (mm : (m2 = 1 ∧ sz ≤ 15) ∨ (m2 = 2 ∧ 15 < sz ∧ sz ≤ 30)) (NL : ∀ jj, 1 ≤ jj → al t jj → pt t jj = jd → ¬ LD f g t R (h 33) sz jj)
    (HF : (D = 1 ∧ cf f mp n 0 n.toNat < 1) ∨ ((D = 1 → 1 ≤ cf f mp n 0 n.toNat) ∧ (∀ p' : Int, 0 ≤ p' → p' % 2 = 0 → p' + (2 + (m2 : Int)) ≤ 4 * (Kt t jd : Int) → ¬ FRw f (R jd) (2 + (m2 : Int)) p') ∧ cf f mp n (mkX f mp n D) n.toNat < 1) → ∀ b, (∀ k, k ≠ 4 → b 7 k = h 7 k) → (∀ o, ¬ (o = 7 ∨ o = 15 ∨ o = 16 ∨ (27 ≤ o ∧ o ≤ 31)) → b o = h o) → P (-6) b)
    (H0 : ∀ e k, (D = 1 → 1 ≤ cf f mp n 0 n.toNat) → Spc f (R jd) (Kt t jd) (2 + (m2 : Int)) e k → (0 < k → k ≤ cf f mp n (mkX f mp n D) n.toNat) → ∀ b, Ph f (mkL f g (h 33) n mp (mkX f mp n D) t R jd k (h 26 5) e m2 sz D) (h 1 3) (h 1 4) 0 (b 2) (b 1 3) (b 1 4) → Syn b → (∀ k, k ≠ 4 → b 7 k = h 7 k) → b 26 5 = h 26 5 → (∀ o, ¬ ((1 ≤ o ∧ o ≤ 4) ∨ o = 7 ∨ (11 ≤ o ∧ o ≤ 16) ∨ o = 26 ∨ (27 ≤ o ∧ o ≤ 31)) → b o = h o) → P (-7) b)
    (H1 : ∀ e k, (D = 1 → 1 ≤ cf f mp n 0 n.toNat) → Spc f (R jd) (Kt t jd) (2 + (m2 : Int)) e k → (0 < k → k ≤ cf f mp n (mkX f mp n D) n.toNat) → ∀ b t' R', Ph f (mkL f g (h 33) n mp (mkX f mp n D) t R jd k (h 26 5) e m2 sz D) (h 1 3) (h 1 4) 1 (b 2) (b 1 3) (b 1 4) → Syn b → b 3 = mkW f g (h 33) n mp (mkX f mp n D) t R jd k (h 26 5) e m2 sz (16 * D) (h 26 5) (h 26 5) D (mkX f mp n D) (128 * D) → V (mkW f g (h 33) n mp (mkX f mp n D) t R jd k (h 26 5) e m2 sz (16 * D) (h 26 5) (h 26 5) D (mkX f mp n D) (128 * D)) g n root mp t' R' → Hd (mkW f g (h 33) n mp (mkX f mp n D) t R jd k (h 26 5) e m2 sz (16 * D) (h 26 5) (h 26 5) D (mkX f mp n D) (128 * D)) t' R' b → (∀ k, k ≠ 4 → b 7 k = h 7 k) → b 26 5 = h 26 5 → (∀ o, ¬ ((1 ≤ o ∧ o ≤ 4) ∨ o = 7 ∨ (11 ≤ o ∧ o ≤ 16) ∨ o = 26 ∨ (27 ≤ o ∧ o ≤ 31)) → b o = h o) → P (4 * dRo f n mp (mkX f mp n D) t R jd k (e / 4).toNat + e % 4) b) : RunsI G 0 [vR 26, vI (t 1 jd), vR 32, vI D] h P := by
  have nn := V_n v
  have hb := V_by v
  have mpc := V_mp v
  unfold clu at mpc
  have sz1 := nmo.1
  have mr : sz ≤ 30 ∧ ((sz : Int) + 14) / 15 = (m2 : Int) ∧ (m2 = 1 ∨ m2 = 2) := by rcases mm with y | y <;> omega
  have m34 : (2 + (m2 : Int)) = 3 ∨ (2 + (m2 : Int)) = 4 := (by omega)
  have DI : wI D = D := by rcases D01 with y | y <;> rw [y] <;> rfl
  have nm0 : isNm (h 33) (h 32 1) := by rw [esz]; exact nmo
  have c77 : ∀ b0 : AH, (D = 1 → 1 ≤ cf f mp n 0 n.toNat) → (∀ k, k ≠ 4 → b0 7 k = h 7 k) → (∀ o, ¬ (o = 7 ∨ o = 15 ∨ o = 16) → b0 o = h o) → Go G (pI P) 0 77 [some (vR 26), some (vI (t 1 jd)), some (vR 32), some (vI D), some (vI (mkX f mp n D))] [] b0 := by
    intro b0 one b07 ob0
    have XD : (D = 0 ∧ mkX f mp n D = 0) ∨ (D = 1 ∧ fre f mp n 0 (mkX f mp n D)) := by
      unfold mkX
      rcases D01 with y | y
      · exact Or.inl ⟨y, if_pos y⟩
      · rw [if_neg (by omega)]
        rcases rf_one (f := f) (mp := mp) nn with ⟨_, z⟩ | ⟨z, _⟩
        · exact absurd (one y) (by omega)
        · exact Or.inr ⟨y, z⟩
    generalize eX : mkX f mp n D = X' at *
    have px : PX f mp n X' := by
      rcases XD with y | y
      · exact Or.inl y.2
      · exact Or.inr y.2
    have xr := PX_rng v px
    generalize eb : hs b0 7 4 X' = b1
    have b174 : b1 7 4 = X' := by rw [← eb]; exact hs_same _ _ _ _
    have b17 : ∀ k, k ≠ 4 → b1 7 k = h 7 k := fun k p => by rw [← eb, hs_k _ _ _ _ _ p]; exact b07 k p
    have ob1 : ∀ o, ¬ (o = 7 ∨ o = 15 ∨ o = 16) → b1 o = h o := fun o p => by rw [← eb, hs_o _ _ _ _ _ (by omega)]; exact ob0 o p
    apply q_A_create_c77
    rw [eb]
    clear eb
    refine A_planRow (X := X') (m := 2 + (m2 : Int)) v ((ob1 3 (by decide)).trans h3) (by rw [b17 1 (by decide)]; exact h71) (by rw [b17 2 (by decide)]; exact h72) (by rw [b17 3 (by decide)]; exact h73) b174 a dd px (by rw [ob1 32 (by decide), esz]; omega) (by rw [ob1 32 (by decide), esz]; omega) (fun no full b ob => ⟨fun _ => HF (Or.inr ⟨one, no, full⟩) b (fun k p => by rw [ob 7 (by decide)]; exact b17 k p) (fun o p => (ob o (by omega)).trans (ob1 o (by omega))), fun y => absurd wI_0 y⟩) (fun e k sp kc b ro rf e4 e5 ob => ⟨fun y => absurd y (by decide), fun _ => ?_⟩)
    have obh : ∀ o, ¬ (o = 7 ∨ o = 15 ∨ o = 16 ∨ (27 ≤ o ∧ o ≤ 31)) → b o = h o := fun o p => (ob o (by omega)).trans (ob1 o (by omega))
    have b7 : b 7 = b1 7 := ob 7 (by decide)
    have syb : Syn b := by unfold Syn Dk at *; rw [obh 2 (by decide), obh 3 (by decide), obh 4 (by decide)]; exact sy
    have hdb : Hd f t R b := by
      unfold Hd at hd ⊢
      rw [obh 12 (by decide), obh 13 (by decide)]
      exact hd
    have e26 : b 26 = h 26 := obh 26 (by decide)
    have b1' : b 1 = h 1 := obh 1 (by decide)
    obtain ⟨t', R', vn⟩ := V_make (nm := h 33) (tm := h 26 5) v a dd kc m34 sp XD rfl mm nmo NL gg
    -- where the SET lies
    have emK : e + (2 + (m2 : Int)) ≤ 4 * ((Kt t jd + k : Nat) : Int) := by
      rcases sp.2.2 with ⟨z, y, _⟩ | ⟨z, _, y, _⟩ <;> omega
    have c4 := (d4_row v a dd kc px (h 26 5)).2.2.2
    obtain ⟨t1, R1, v1, gr⟩ := V_room v a dd kc px (h 26 5)
    have hpos : (1024 ≤ ea (dRo f n mp X' t R jd k) e ∧ ea (dRo f n mp X' t R jd k) e + 64 ≤ 13824) ∧ (1024 ≤ ea (dRo f n mp X' t R jd k) (e + 2) ∧ ea (dRo f n mp X' t R jd k) (e + 2) + 64 ≤ 13824) ∧ (ea (dRo f n mp X' t R jd k) e + 64 ≤ ea (dRo f n mp X' t R jd k) (e + 2) ∨ ea (dRo f n mp X' t R jd k) (e + 2) + 64 ≤ ea (dRo f n mp X' t R jd k) e) := by
      have ev := sp.2.1
      have e0 := sp.1
      have q1 := c4 (e / 4).toNat (by omega)
      have q2 := c4 ((e + 2) / 4).toNat (by omega)
      have ne : ea (dRo f n mp X' t R jd k) e ≠ ea (dRo f n mp X' t R jd k) (e + 2) := fun z => by
        have ka := ((gr.1 jd).mpr a)
        have i1 : (e / 4).toNat < Kt t1 jd := by rw [gr.2.2.2.2.2.2.1]; omega
        have i2 : ((e + 2) / 4).toNat < Kt t1 jd := by rw [gr.2.2.2.2.2.2.1]; omega
        have x1 := gr.2.2.2.2.2.2.2 (e / 4).toNat (by omega)
        have x2 := gr.2.2.2.2.2.2.2 ((e + 2) / 4).toNat (by omega)
        have z' := z
        unfold ea ca at z'
        have d1 : dRo f n mp X' t R jd k (e / 4).toNat = R1 jd (e / 4).toNat := x1.symm
        have d2 : dRo f n mp X' t R jd k ((e + 2) / 4).toNat = R1 jd ((e + 2) / 4).toNat := x2.symm
        rw [d1, d2] at z'
        by_cases y : (e / 4).toNat = ((e + 2) / 4).toNat
        · rw [y] at z'; omega
        · have nq : R1 jd (e / 4).toNat ≠ R1 jd ((e + 2) / 4).toNat := fun w => y (v1.1.2.2.1 jd jd _ _ ka ka i1 i2 w).2
          omega
      have ea1 : ea (dRo f n mp X' t R jd k) e % 64 = 0 := by unfold ea ca; omega
      have ea2 : ea (dRo f n mp X' t R jd k) (e + 2) % 64 = 0 := by unfold ea ca; omega
      refine ⟨by unfold ea ca; omega, by unfold ea ca; omega, by omega⟩
    clear v1 gr
    refine A_openRow (X := X') (m := 2 + (m2 : Int)) (k := k) (e := e) (ws := [mkW f g (h 33) n mp X' t R jd k (h 26 5) e m2 sz (16 * D) (h 26 5) (h 26 5) D X' (128 * D)]) (Q := Ph f (mkL f g (h 33) n mp X' t R jd k (h 26 5) e m2 sz D) (h 1 3) (h 1 4)) v syb (by rw [b1']; exact hf) hdb ((obh 3 (by decide)).trans h3) (by rw [b7, b17 1 (by decide)]; exact h71) (by rw [b7, b17 3 (by decide)]; exact h73) (by rw [b7]; exact b174) a dd px (by rw [obh 32 (by decide), esz]; omega) (by rw [obh 32 (by decide), esz]; omega) sp kc ro rf e4 e5 (fun r' d' f' n' p => by rw [b1'] at p; exact p) (fun c qc syc oc => ⟨fun _ => H0 e k one sp kc c qc syc (fun k p => by rw [oc 7 (by decide), b7]; exact b17 k p) (by rw [oc 26 (by decide), e26]) (fun o p => (oc o (by omega)).trans (obh o (by omega))), fun y => absurd wI_0 y⟩) (fun c pc dkc c3 cd cf' c6 c7 c26 oc => ⟨fun y => absurd y (by decide), fun _ => ?_⟩)
    rw [e26] at c3 c26
    have och : ∀ o, ¬ ((1 ≤ o ∧ o ≤ 4) ∨ o = 7 ∨ o = 15 ∨ o = 16 ∨ (26 ≤ o ∧ o ≤ 31)) → c o = h o := fun o p => (oc o (by omega)).trans (obh o (by omega))
    have c7k : ∀ k, k ≠ 4 → c 7 k = h 7 k := fun k p => by rw [oc 7 (by decide), b7]; exact b17 k p
    rw [c6, c7]
    refine E_begin (m2 := m2) (sz := sz) dkc (by omega) (by omega) (by omega) (by omega) (by omega) mm (by rw [och 32 (by decide)]; exact esz) (by rw [och 33 (by decide)]; exact nmo) (by rw [och 9 (by decide), h9]; exact gg) (fun c2 u2 => ?_)
    rw [c3, och 9 (by decide), och 33 (by decide), h9] at u2
    have U26 : ∀ b' : AH, (∀ o, o ≠ 3 → o ≠ 4 → b' o = c o) → b' 26 6 = ea (dRo f n mp X' t R jd k) e ∧ b' 26 7 = ea (dRo f n mp X' t R jd k) (e + 2) ∧ b' 26 5 = h 26 5 := fun b' ob' => by
      rw [ob' 26 (by decide) (by decide)]
      exact ⟨c6, c7, c26 5 (by decide) (by decide)⟩
    have U2 := U26 c2 u2.2.2
    rw [U2.1, U2.2.2]
    apply q_E_setMade
    refine D_wb4 u2.1 (by omega) (by omega) (fun c4' u4 => ?_)
    rw [u2.2.1, lay_hd (by omega) (by decide) (by decide)] at u4
    have u24 := u2.trans u4
    have U4 := U26 c4' u24.2.2
    rw [U4.1, U4.2.2]
    apply q_E_setChanged
    refine D_wb4 u24.1 (by omega) (by omega) (fun c5 u5 => ?_)
    rw [u24.2.1, lay_hd (by omega) (by decide) (by decide)] at u5
    have u25 := u24.trans u5
    have U5 := U26 c5 u25.2.2
    have c190 : ∀ c8 : AH, Upd c c8 (lay (mks (d4 f n mp X' t R jd k (h 26 5)) (dRo f n mp X' t R jd k) e.toNat) (ea (dRo f n mp X' t R jd k) e) (ea (dRo f n mp X' t R jd k) (e + 2)) m2 (nh m2 sz (hsh g (h 33) sz) (16 * D) (h 26 5) (h 26 5) D X' (128 * D)) (tlt (tt0 m2) (h 33) sz)) → Go G (pI P) 0 190 [some (vR 26), none, none, none, none] [] c8 := by
      intro c8 u8
      have U8 := U26 c8 u8.2.2
      apply q_A_create_c190
      rw [U8.1, U8.2.1]
      have r1 : rd (c8 3) (ea (dRo f n mp X' t R jd k) e + 1) = 1 + (m2 : Int) := by
        rw [u8.2.1, rd_lay_h (by omega) (by decide) (by decide)]
        show (1 + (m2 : Int)) / 256 ^ 0 % 256 = 1 + m2
        rw [Int.pow_zero, Int.ediv_one]
        omega
      refine E_seal u8.1 (by omega) (by omega) (by rw [r1]; omega) (by omega) (by omega) (fun c9 u9 => ?_)
      rw [u8.2.1] at u9
      have u89 := u8.trans u9
      have c93 : c9 3 = mkW f g (h 33) n mp X' t R jd k (h 26 5) e m2 sz (16 * D) (h 26 5) (h 26 5) D X' (128 * D) := u89.2.1
      have c91 : c9 1 = c 1 := u89.2.2 1 (by decide) (by decide)
      have o9h : ∀ o, ¬ ((1 ≤ o ∧ o ≤ 4) ∨ o = 7 ∨ o = 15 ∨ o = 16 ∨ (26 ≤ o ∧ o ≤ 31)) → c9 o = h o := fun o p => (u89.2.2 o (by omega) (by omega)).trans (och o p)
      have c97 : ∀ k, k ≠ 4 → c9 7 k = h 7 k := fun k p => by rw [u89.2.2 7 (by decide) (by decide)]; exact c7k k p
      have U9 := U26 c9 u89.2.2
      refine D_step (f := d3 f n mp X' t R jd k) (w := mkW f g (h 33) n mp X' t R jd k (h 26 5) e m2 sz (16 * D) (h 26 5) (h 26 5) D X' (128 * D)) (ws := []) (Q := Ph f (mkL f g (h 33) n mp X' t R jd k (h 26 5) e m2 sz D) (h 1 3) (h 1 4)) u89.1 (fun j hj => by rw [u89.2.2 2 (by decide) (by decide)]; exact cd j hj) c93 (by rw [c91]; exact cf') (fun r' d' f' n' p => pc r' d' f' n' (by rw [c91] at p; exact p)) (fun e' qe sye oe => ⟨fun _ => H0 e k one sp kc e' qe sye (fun k p => by rw [oe 7 (by decide)]; exact c97 k p) (by rw [oe 26 (by decide)]; exact U9.2.2) (fun o p => (oe o (by omega)).trans (o9h o (by omega))), fun y => absurd wI_0 y⟩) (fun e' pe sye e3 ed ef oe => ⟨fun y => absurd y (by decide), fun _ => ?_⟩)
      have pe' := pe 1 (e' 2) (e' 1 3) (e' 1 4) ⟨rfl, ed, rfl, rfl⟩
      refine T_index vn e3 (by rw [oe 7 (by decide), c97 1 (by decide)]; exact h71) (by rw [oe 7 (by decide), c97 2 (by decide)]; exact h72) (fun l hl ol => ?_)
      rw [ol 26 (by decide), oe 26 (by decide), U9.1, ha_ea]
      have q1 := c4 (e / 4).toNat (by have := sp.1; omega)
      have e0 := sp.1
      refine T_placeOf (by omega) (by omega) (H1 e k one sp kc l t' R' (by rw [ol 1 (by decide), ol 2 (by decide)]; exact pe') ?_ ((ol 3 (by decide)).trans e3) vn hl (fun k p => by rw [ol 7 (by decide), oe 7 (by decide)]; exact c97 k p) (by rw [ol 26 (by decide), oe 26 (by decide)]; exact U9.2.2) (fun o p => by rw [ol o (by omega), oe o (by omega)]; exact o9h o (by omega)))
      unfold Syn Dk at *
      rw [ol 2 (by decide), ol 3 (by decide), ol 4 (by decide)]
      exact sye
    rw [DI]
    rcases XD with ⟨y, x0⟩ | ⟨y, x0⟩
    · refine ⟨fun _ => c190 c5 ?_, fun z => absurd y z⟩
      rw [lay_cg nh_file (fun _ _ => rfl)] at u25
      rw [y, x0]
      rw [x0] at u25
      exact u25
    · refine ⟨fun z => by omega, fun _ => ?_⟩
      rw [U5.1]
      apply q_E_setAttributes
      refine D_wb2 u25.1 (by omega) (by omega) (fun c6' u6 => ?_)
      rw [u25.2.1, lay_hd (by omega) (by decide) (by decide)] at u6
      have u26 := u25.trans u6
      have U6 := U26 c6' u26.2.2
      rw [U6.1]
      refine E_setStream u26.1 (by omega) (by omega) (Or.inr rfl) (fun c7' u7 => c190 c7' ?_)
      unfold sst at u7
      rw [u26.2.1, if_neg (show ¬ (1 : Int) = 0 by decide), lay_hd (by omega) (by decide) (by decide), lay_hd (by omega) (by decide) (by decide), lay_hd (by omega) (by decide) (by decide), lay_hd (by omega) (by decide) (by decide), lay_cg nh_dir (fun _ _ => rfl)] at u7
      rw [y]
      exact u26.trans u7
  apply q_A_create
  refine T_isDirectory v h3 h71 hd hx (fun j2 a2 d2 e2 => ⟨fun z => absurd z (by decide), fun _ => ?_⟩) (fun no => absurd dd (no jd a rfl))
  refine N_isRight_32 (by rw [esz]; omega) (fun i hi => by rw [esz] at hi; have := isLet_rng (nmo.2.2.1 i (by omega)); omega) (fun _ => ⟨fun z => absurd z (by decide), fun _ => ?_⟩) (fun no => absurd nm0 no)
  apply q_T_find
  refine T_findBut v h3 h71 h72 h9 gg a dd nm0 (by unfold in32; decide) (fun b jj j1 aj pj _ l ob => absurd (by rw [esz] at l; exact l) (NL jj j1 aj pj)) (fun b _ ob => ⟨fun _ => ?_, fun z => absurd (by decide) z⟩)
  have g7 : ∀ k, k ≠ 4 → (hs b 7 4 0) 7 k = h 7 k := fun k p => by rw [hs_k _ _ _ _ _ p, ob 7 (by decide) (by decide)]
  have go' : ∀ o, ¬ (o = 7 ∨ o = 15 ∨ o = 16) → (hs b 7 4 0) o = h o := fun o p => by rw [hs_o _ _ _ _ _ (by omega)]; exact ob o (by omega) (by omega)
  rw [DI]
  rcases D01 with y | y
  · refine ⟨fun _ => ?_, fun z => absurd y z⟩
    apply q_A_create_c63
    rw [DI]
    have x0 : mkX f mp n D = 0 := by unfold mkX; rw [if_pos y]
    have c := c77 (hs b 7 4 0) (fun z => by omega) g7 go'
    rw [x0] at c
    exact ⟨fun _ => c, fun z => absurd y z⟩
  · refine ⟨fun z => by omega, fun _ => ?_⟩
    apply q_S_firstFree
    have x0 : mkX f mp n D = rf f mp n 0 1 n.toNat := by unfold mkX; rw [if_neg (by omega)]
    have fr : ∀ (Q : Int → AH → Prop), (∀ c, 2 ≤ c → c ≤ 101 → rf f mp n 0 1 n.toNat = c → Q c (hs b 7 4 0)) → (rf f mp n 0 1 n.toNat = -9 → Q 0 (hs b 7 4 0)) → RunsI G 118 [vR 7, vI ((1 : Nat) : Int)] (hs b 7 4 0) Q := by
      intro Q q1 q0
      have k3 : (hs b 7 4 0) 3 = f := (go' 3 (by decide)).trans h3
      have k71 : (hs b 7 4 0) 7 1 = n := (g7 1 (by decide)).trans h71
      have k73 : (hs b 7 4 0) 7 3 = mp := (g7 3 (by decide)).trans h73
      have k74 : (hs b 7 4 0) 7 4 = 0 := hs_same _ _ _ _
      refine S_firstRow (by rw [k3]; exact hb) (by rw [k71]; exact nn) (by rw [k73]; omega) (by rw [k74]; decide) (by decide) (fun c c0 c1 e => ?_) (fun e => ?_)
      · rw [k3, k71, k73, k74] at e
        exact q1 c c0 c1 e
      · rw [k3, k71, k73, k74] at e
        exact q0 e
    refine fr _ (fun c c0 c1 e => ?_) (fun e => ?_)
    · apply q_A_create_c63
      rw [DI, wI_id (z := c) (by omega) (by omega)]
      refine ⟨fun z => by omega, fun _ => ⟨fun z => by omega, fun _ => ?_⟩⟩
      have c' := c77 (hs b 7 4 0) (fun _ => by
        rcases rf_one (f := f) (mp := mp) nn with ⟨z, _⟩ | ⟨_, z⟩
        · omega
        · exact z) g7 go'
      rw [x0, e] at c'
      exact c'
    · apply q_A_create_c63
      rw [DI]
      refine ⟨fun z => by omega, fun _ => ⟨fun _ => HF (Or.inl ⟨y, ?_⟩) _ g7 (fun o p => go' o (by omega)), fun z => absurd wI_0 z⟩⟩
      rcases rf_one (f := f) (mp := mp) nn with ⟨_, z⟩ | ⟨z, _⟩
      · exact z
      · rw [e] at z
        have := z.1
        omega
end
end CRE
