/-! a SET is laid: the volume -/
section FIN
variable {f g nm F : Nat → Int} {n root mp X m : Int} {t R t1 R1 : AH} {jd k : Nat}
theorem free_ix (v : V f g n root mp t R) : ∃ jn, 1 ≤ jn ∧ ¬ al t jn := Classical.byContradiction (fun no => by
  have nn := V_n v
  have all : ∀ j, 1 ≤ j → al t j := fun j j1 => Classical.byContradiction (fun z => no ⟨j, j1, z⟩)
  have := V_cnt v (Q := n.toNat + 1) (κ := fun i => i + 1) (fun i _ => ⟨by omega, all _ (by omega)⟩) (fun i i' p _ z => by omega)
  omega)
/-- the disk with the new SET -/
noncomputable def mkW (f g nm : Nat → Int) (n mp X : Int) (t R : AH) (jd k : Nat) (tm e : Int) (m2 sz : Nat) (att made chg rn fs ln : Int) : Nat → Int := nset (mks (d4 f n mp X t R jd k tm) (dRo f n mp X t R jd k) e.toNat) g nm (ea (dRo f n mp X t R jd k) e) (ea (dRo f n mp X t R jd k) (e + 2)) m2 sz att made chg rn fs ln
theorem By_d4 (v : V f g n root mp t R) (kc : 0 < k → k ≤ cf f mp n X n.toNat) (px : PX f mp n X) {tm : Int} : By (d4 f n mp X t R jd k tm) := by
  have b3 := By_d3 (jd := jd) v kc px
  unfold d4
  split
  · exact b3
  · unfold rly sl sst
    exact By_wb (By_wb (By_wb (By_wb (By_wb (By_wb b3)))))
/-- SETS other than the DIRECTORY's own stay as they were -/
theorem d4_set (v : V f g n root mp t R) (a : al t jd) (dd : dirT f t jd) (kc : 0 < k → k ≤ cf f mp n X n.toNat) (px : PX f mp n X) (tm : Int) {j : Nat} (j1 : 1 ≤ j) (aj : al t j) (nj : j ≠ jd) {x : Int} (hx : (ha (t 1 j) ≤ x ∧ x < ha (t 1 j) + 64) ∨ (ea (R (pt t j)) (t 3 j + 2) ≤ x ∧ x < ea (R (pt t j)) (t 3 j + 2) + 64)) : rd (d4 f n mp X t R jd k tm) x = rd f x := by
  have g1 := (d4_row v a dd kc px tm).1
  have hd := V_hd v j1 aj
  have tl := V_tl v j1 aj
  have wp := v.1.2.2.2.1 j j1 aj
  have dp := (v.2.1 j j1 aj).1
  have no : ¬ (jd ≠ 0 ∧ ha (t 1 jd) ≤ x ∧ x < ha (t 1 jd) + 64) := fun z => by
    have h1 := V_hh v j1 aj (show 1 ≤ jd by omega) a nj
    have h2 := V_ht v j1 aj (show 1 ≤ jd by omega) a
    omega
  rcases hx with y | y
  · exact g1 _ wp.1 dp _ hd.2.2.1 x (by omega) (by omega) no
  · exact g1 _ wp.1 dp _ tl.2.2.1 x (by omega) (by omega) no
theorem d4_at (v : V f g n root mp t R) (a : al t jd) (dd : dirT f t jd) (kc : 0 < k → k ≤ cf f mp n X n.toNat) (px : PX f mp n X) (tm : Int) {j : Nat} (j1 : 1 ≤ j) (aj : al t j) : u2 (d4 f n mp X t R jd k tm) (ha (t 1 j) + 4) = u2 f (ha (t 1 j) + 4) := by
  by_cases z : j = jd
  · subst z
    have hd := V_hd v j1 aj
    have wp := v.1.2.2.2.1 j j1 aj
    have rg := V_rng v j1 aj
    have dp := (v.2.1 j j1 aj).1
    have e3 : ∀ x, ha (t 1 j) ≤ x → x < ha (t 1 j) + 64 → rd (d3 f n mp X t R j k) x = rd f x := fun x x0 x1 => d3_dir v a kc px wp.1 dp hd.2.2.1 (by omega) (by omega)
    unfold d4
    split
    · exact u2_cg (e3 _ (by omega) (by omega)) (e3 _ (by omega) (by omega))
    · exact u2_cg (by rw [rly_in (by omega) (by omega) (by omega) (by omega)]; exact e3 _ (by omega) (by omega)) (by rw [show ha (t 1 j) + 4 + 1 = ha (t 1 j) + 5 by omega, rly_in (by omega) (by omega) (by omega) (by omega)]; exact e3 _ (by omega) (by omega))
  · exact u2_cg (d4_set v a dd kc px tm j1 aj z (by omega)) (d4_set v a dd kc px tm j1 aj z (by omega))
theorem V_fin (v : V f g n root mp t R) (a : al t jd) (dd : dirT f t jd) (kc : 0 < k → k ≤ cf f mp n X n.toNat) (px : PX f mp n X) {e : Int} (m34 : m = 3 ∨ m = 4) (sp : Spc f (R jd) (Kt t jd) m e k) {tm : Int} (v1 : V (d4 f n mp X t R jd k tm) g n root mp t1 R1) (gr : GRo t R t1 R1 jd k (dSq f n mp X t R jd k)) {jn : Nat} (n1 : 1 ≤ jn) (dN : jd ≠ jn) {m2 sz : Nat} (em : m = 2 + (m2 : Int)) (mm : (m2 = 1 ∧ sz ≤ 15) ∨ (m2 = 2 ∧ 15 < sz ∧ sz ≤ 30)) {att made chg rn fs ln : Int} (byF : By F)
    (F1 : ∀ x, 0 ≤ x → ¬ OldX f t R jn x → rd F x = rd (mkW f g nm n mp X t R jd k tm e m2 sz att made chg rn fs ln) x) (F2 : ∀ x, OldX f t R jn x → rd F x ≠ 133)
    (nmo : isNm nm sz) (NL : ∀ jj, 1 ≤ jj → al t jj → jj ≠ jn → pt t jj = jd → ¬ LD f g t R nm sz jj) (gg : Gr g)
    (at' : At att) (l0 : 0 ≤ ln ∧ ln ≤ 128 * n) (f0 : 0 ≤ fs ∧ fs ≤ 1000) (dd' : 16 ≤ att → ln ≠ 0 ∧ ln % 128 = 0) (z0 : ln = 0 → fs = 0 ∧ rn = 0) (nz : ln ≠ 0 → 2 ≤ fs ∧ fs ≤ n + 1) (r01 : rn = 0 ∨ rn = 1)
    {K' : Nat} {r' ρ : Nat → Int} (A5a : ∀ i, i < K' → clu n (r' i) ∧ r' i ≠ mp) (A5b : ∀ i i', i < i' → i' < K' → r' i ≠ r' i') (A5c : ∀ j, al t j → j ≠ jn → ∀ i i', i < Kt t j → i' < K' → R j i ≠ r' i') (A5c' : ∀ i i', i < k → i' < K' → dSq f n mp X t R jd k i ≠ r' i')
    (A5d : (ln + 127) / 128 = (K' : Int) ∧ (∀ i, i < K' → tc (d4 f n mp X t R jd k tm) rn fs i = r' i) ∧ (rn = 0 → 0 < K' → tc (d4 f n mp X t R jd k tm) rn fs K' = 4294967295)) (A5e : ∀ i, i < K' → tb (d4 f n mp X t R jd k tm) mp (r' i) = 1)
    (A6 : al t jn → K' = Kt t jn ∧ (∀ i, i < K' → r' i = R jn i) ∧ (16 ≤ att ↔ isD f (ha (t 1 jn)))) (A6' : ¬ al t jn → 16 ≤ att → ∀ i, i < K' → ∀ o : Int, 0 ≤ o → o < 4 → rd (d4 f n mp X t R jd k tm) (ca (r' i) + 32 * o) ≠ 133)
    (A8 : ∀ j, 1 ≤ j → al t j → j ≠ jn → ρ (pt t j) < ρ j ∧ 0 ≤ ρ (pt t j)) (A8' : ρ jd < ρ jn ∧ 0 ≤ ρ jd) : V F g n root mp (tn t1 jn (4 * dRo f n mp X t R jd k (e / 4).toNat + e % 4) jd e K' ρ) (up R1 jn r') := by
  have nn := V_n v
  have mpc := V_mp v
  unfold clu at mpc
  obtain ⟨gA, gP, gT, gE, gK, gO, gD, gR⟩ := gr
  obtain ⟨c1, c2, c3, c4⟩ := d4_row v a dd kc px tm
  obtain ⟨o1, o2⟩ := dSq_ok (t := t) (R := R) (jd := jd) kc
  have e0 := sp.1
  have ev := sp.2.1
  have emK : e + m ≤ 4 * ((Kt t jd + k : Nat) : Int) := by
    rcases sp.2.2 with ⟨z, y, _⟩ | ⟨z, _, y, _⟩ <;> omega
  have gpt : ∀ j, pt t1 j = pt t j := fun j => by unfold pt; rw [gT]
  have K1 : ∀ j, Kt t j ≤ Kt t1 j := fun j => by
    by_cases z : j = jd
    · rw [z, gD]; omega
    · rw [(gO j z).1]; exact Nat.le_refl _
  have R1o : ∀ j i, i < Kt t j → R1 j i = R j i := fun j i hi => by
    by_cases z : j = jd
    · subst z
      rw [gR i (by omega)]
      unfold app
      rw [if_pos hi]
    · exact (gO j z).2 i
  have R1d : ∀ i, i < Kt t jd + k → R1 jd i = dRo f n mp X t R jd k i := gR
  have ead : ∀ q : Int, 0 ≤ q → q < 4 * ((Kt t jd + k : Nat) : Int) → ea (R1 jd) q = ea (dRo f n mp X t R jd k) q := fun q q0 q1 => ea_cg R1d q0 q1
  have eao : ∀ j q, 0 ≤ q → q < 4 * (Kt t j : Int) → ea (R1 j) q = ea (R j) q := fun j q q0 q1 => ea_cg (R1o j) q0 q1
  have kb : k ≤ 1 := by rcases sp.2.2 with ⟨z, _⟩ | ⟨z, _⟩ <;> omega
  -- the new ENTRIES
  have hdE : ea (R1 jd) e = ea (dRo f n mp X t R jd k) e := ead e e0 (by omega)
  have tlE : ea (R1 jd) (e + 2) = ea (dRo f n mp X t R jd k) (e + 2) := ead (e + 2) (by omega) (by omega)
  have a1 : al t1 jd := (gA jd).mpr a
  have em1 : e + m ≤ 4 * (Kt t1 jd : Int) := by rw [gD]; exact emK
  have un : ∀ i : Int, 0 ≤ i → i < m → rd (d4 f n mp X t R jd k tm) (ea (R1 jd) (e + i)) < 128 := fun i i0 i1 => by
    rw [ead _ (by omega) (by omega)]
    rcases sp.2.2 with ⟨z, pm, fe, _⟩ | ⟨z, _, el, fe, _⟩
    · rw [c2 _ (by omega) (by omega)]; exact fe i i0 i1
    · by_cases y : e + i < 4 * (Kt t jd : Int)
      · rw [c2 _ (by omega) y]; exact fe _ (by omega) (by omega) y
      · rw [c3 _ (by omega) (by omega)]; decide
  have nr := new_rng v1 a1 e0 ev m34 em1
  rw [hdE, tlE] at nr
  have hr0 := nr.2.2.2
  have dsj : ea (dRo f n mp X t R jd k) e + 64 ≤ ea (dRo f n mp X t R jd k) (e + 2) ∨ ea (dRo f n mp X t R jd k) (e + 2) + 64 ≤ ea (dRo f n mp X t R jd k) e := by
    have h1 := nr.2.2.1
    have ne : ea (dRo f n mp X t R jd k) e ≠ ea (dRo f n mp X t R jd k) (e + 2) := fun z => by
      have i1 := nr.1
      have i2 := nr.2.1
      have x1 := V_rr v1 a1 _ i1.2.2
      have x2 := V_rr v1 a1 _ i2.2.2
      have z' := z
      unfold ea at z'
      rw [← R1d _ (by rw [← gD]; exact i1.2.2), ← R1d _ (by rw [← gD]; exact i2.2.2)] at z'
      have same : R1 jd (e / 4).toNat = R1 jd ((e + 2) / 4).toNat := by unfold ca at z'; omega
      have := (v1.1.2.2.1 jd jd _ _ a1 a1 i1.2.2 i2.2.2 same).2
      rw [same] at z'
      omega
    omega
  have nok := nset_ok (w := mks (d4 f n mp X t R jd k tm) (dRo f n mp X t R jd k) e.toNat) (g := g) (nm := nm) (hd := ea (dRo f n mp X t R jd k) e) (tl := ea (dRo f n mp X t R jd k) (e + 2)) (n := n) (room := 4 * (Kt t1 jd : Int) - e) (att := att) (made := made) (chg := chg) (rn := rn) (fs := fs) (ln := ln) (m2 := m2) (sz := sz) (by omega) (by omega) dsj mm nmo (by omega) at' l0 nn.2 f0 dd' z0 nz gg
  have mfold : nset (mks (d4 f n mp X t R jd k tm) (dRo f n mp X t R jd k) e.toNat) g nm (ea (dRo f n mp X t R jd k) e) (ea (dRo f n mp X t R jd k) (e + 2)) m2 sz att made chg rn fs ln = mkW f g nm n mp X t R jd k tm e m2 sz att made chg rn fs ln := rfl
  rw [mfold] at nok
  -- what the disk is apart from them
  have rowA : ∀ i : Nat, i < e.toNat → (1024 ≤ ea (dRo f n mp X t R jd k) (i : Int) ∧ ea (dRo f n mp X t R jd k) (i : Int) % 32 = 0) ∧ (ca (dRo f n mp X t R jd k ((i : Int) / 4).toNat) ≤ ea (dRo f n mp X t R jd k) (i : Int) ∧ ea (dRo f n mp X t R jd k) (i : Int) + 32 ≤ ca (dRo f n mp X t R jd k ((i : Int) / 4).toNat) + 128) ∧ ((i : Int) / 4).toNat < Kt t jd + k := fun i hi => by
    have c := c4 ((i : Int) / 4).toNat (by omega)
    exact ⟨⟨(ea_rng (e := (i : Int)) (by omega) c).1, ea_al _ _⟩, ea_in, by omega⟩
  have mor : ∀ x, 0 ≤ x → ¬ NewX R1 jd e m x → rd (mkW f g nm n mp X t R jd k tm e m2 sz att made chg rn fs ln) x = rd (d4 f n mp X t R jd k tm) x ∨ ((∃ i : Nat, i < e.toNat ∧ x = ea (dRo f n mp X t R jd k) (i : Int)) ∧ rd (d4 f n mp X t R jd k tm) x = 0 ∧ rd (mkW f g nm n mp X t R jd k tm e m2 sz att made chg rn fs ln) x = 1) := fun x x0 nx => by
    unfold NewX at nx
    rw [hdE, tlE, em, show 2 + (m2 : Int) - 2 = m2 by omega] at nx
    have e1 : rd (mkW f g nm n mp X t R jd k tm e m2 sz att made chg rn fs ln) x = rd (mks (d4 f n mp X t R jd k tm) (dRo f n mp X t R jd k) e.toNat) x := nset_n (by omega) (by omega) x0 (fun y => nx (Or.inl y)) (fun y => nx (Or.inr y))
    rw [e1]
    exact mks_or x0 _ (fun i hi => by have := (rowA i hi).1.1; omega)
  have notNew : ∀ x, (x < 1024 ∨ ∀ i, i < Kt t jd + k → x < ca (dRo f n mp X t R jd k i) ∨ ca (dRo f n mp X t R jd k i) + 128 ≤ x) → ¬ NewX R1 jd e m x := fun x hx nx => by
    unfold NewX at nx
    rw [hdE, tlE, em, show 2 + (m2 : Int) - 2 = m2 by omega] at nx
    have i1 := nr.1
    have i2 := nr.2.1
    rw [R1d _ (by rw [← gD]; exact i1.2.2), gD] at i1
    rw [R1d _ (by rw [← gD]; exact i2.2.2), gD] at i2
    have mr : (m2 : Int) ≤ 2 := by rcases mm with y | y <;> omega
    rcases hx with y | y
    · omega
    · have y1 := y _ i1.2.2
      have y2 := y _ i2.2.2
      omega
  have far : ∀ x, 0 ≤ x → (x < 1024 ∨ ∀ i, i < Kt t jd + k → x < ca (dRo f n mp X t R jd k i) ∨ ca (dRo f n mp X t R jd k i) + 128 ≤ x) → rd (mkW f g nm n mp X t R jd k tm e m2 sz att made chg rn fs ln) x = rd (d4 f n mp X t R jd k tm) x := fun x x0 hx => by
    rcases mor x x0 (notNew x hx) with y | ⟨⟨i, i1, i2⟩, _⟩
    · exact y
    · have ra := rowA i i1
      rcases hx with y | y
      · omega
      · have := y _ ra.2.2
        omega
  -- the old one
  have olds : ∀ x, OldX (d4 f n mp X t R jd k tm) t1 R1 jn x ↔ OldX f t R jn x := fun x => by
    unfold OldX
    rw [gA]
    refine and_congr_right (fun an => ?_)
    have ee := V_e v n1 an
    have wn := v.1.2.2.2.1 jn n1 an
    rw [gP, gE, gpt, eao _ _ (by omega) (by omega), d4_set v a dd kc px tm n1 an (fun y => dN y.symm) (Or.inl ⟨by omega, by omega⟩)]
  have oldR : ∀ x, OldX f t R jn x → 1024 ≤ x ∧ x % 32 = 0 ∧ (∃ jq i, al t jq ∧ jq ≠ jn ∧ dirT f t jq ∧ i < Kt t jq ∧ ca (R jq i) ≤ x ∧ x < ca (R jq i) + 128) := fun x ox => by
    have an := ox.1
    have rg := V_rng v n1 an
    have a64 := V_al64 v n1 an
    have hd := V_hd v n1 an
    have tl := V_tl v n1 an
    have wn := v.1.2.2.2.1 jn n1 an
    have dn := (v.2.1 jn n1 an).1
    have pne : pt t jn ≠ jn := fun y => by
      have := wn.2.2.2.1
      rw [y] at this
      omega
    rcases ox.2 with y | y | y | ⟨_, y⟩
    · exact ⟨by omega, by omega, pt t jn, _, wn.1, pne, dn, hd.2.2.1, by omega, by omega⟩
    · exact ⟨by omega, by omega, pt t jn, _, wn.1, pne, dn, hd.2.2.1, by omega, by omega⟩
    · exact ⟨by omega, by omega, pt t jn, _, wn.1, pne, dn, tl.2.2.1, by omega, by omega⟩
    · exact ⟨by omega, by omega, pt t jn, _, wn.1, pne, dn, tl.2.2.1, by omega, by omega⟩
  have nno : ∀ x, OldX f t R jn x → ¬ NewX R1 jd e m x := fun x ox => by
    have an1 : al t1 jn := (gA jn).mpr ox.1
    refine new_no v1 a1 e0 ev m34 em1 un n1 an1 ?_
    have ee := V_e v n1 ox.1
    have wn := v.1.2.2.2.1 jn n1 ox.1
    rw [gP, gE, gpt, eao _ _ (by omega) (by omega)]
    rcases ox.2 with y | y | y | ⟨_, y⟩
    · exact Or.inl (by omega)
    · exact Or.inl (by omega)
    · exact Or.inr (by omega)
    · exact Or.inr (by omega)
  have Fnew : ∀ x, NewX R1 jd e m x → 0 ≤ x → rd F x = rd (mkW f g nm n mp X t R jd k tm e m2 sz att made chg rn fs ln) x := fun x nx x0 => F1 x x0 (fun ox => nno x ox nx)
  have NXh : ∀ x, ea (dRo f n mp X t R jd k) e ≤ x → x < ea (dRo f n mp X t R jd k) e + 64 → NewX R1 jd e m x := fun x x0 x1 => by unfold NewX; rw [hdE]; exact Or.inl ⟨x0, x1⟩
  have NXt : ∀ x, ea (dRo f n mp X t R jd k) (e + 2) ≤ x → x < ea (dRo f n mp X t R jd k) (e + 2) + 32 * (m2 : Int) → NewX R1 jd e m x := fun x x0 x1 => by unfold NewX; rw [tlE, em]; exact Or.inr ⟨x0, by omega⟩
  have Flow : ∀ x, 0 ≤ x → x < 1024 → rd F x = rd (d4 f n mp X t R jd k tm) x := fun x x0 x1 => by
    rw [F1 x x0 (fun ox => by have := (oldR x ox).1; omega)]
    exact far x x0 (Or.inl x1)
  have Fbm : ∀ x, ca mp ≤ x → x < ca mp + 128 → rd F x = rd (d4 f n mp X t R jd k tm) x := fun x x0 x1 => by
    rw [F1 x (by unfold ca at x0; omega) (fun ox => by
      obtain ⟨_, _, jq, i, aq, _, _, hi, y0, y1⟩ := oldR x ox
      have := (v.1.2.1 jq aq i hi).2
      unfold ca at *
      omega)]
    refine far x (by unfold ca at x0; omega) (Or.inr (fun i hi => ?_))
    have nm' := (v1.1.2.1 jd a1 i (by rw [gD]; exact hi)).2
    rw [R1d i hi] at nm'
    unfold ca at *
    omega
  have SF : SetOK F g n (ea (dRo f n mp X t R jd k) e) (ea (dRo f n mp X t R jd k) (e + 2)) (4 * (Kt t1 jd : Int) - e) := by
    refine SetOK_cg2 nok.1 (fun x x0 x1 => Fnew x (NXh x x0 x1) (by omega)) (fun x x0 x1 => Fnew x (NXt x x0 ?_) (by omega))
    rw [nok.2.1] at x1
    omega
  have F1' : rd F (ea (dRo f n mp X t R jd k) e + 1) = m - 1 := by rw [Fnew _ (NXh _ (by omega) (by omega)) (by omega), nok.2.1, em]; omega
  have F33 : rd F (ea (dRo f n mp X t R jd k) e + 33) = (if rn = 0 then 1 else 3) := by rw [Fnew _ (NXh _ (by omega) (by omega)) (by omega)]; exact nok.2.2.2.2.2.1
  have F35 : rd F (ea (dRo f n mp X t R jd k) e + 35) = sz := by rw [Fnew _ (NXh _ (by omega) (by omega)) (by omega)]; exact nok.2.2.2.2.2.2
  have F4 : u2 F (ea (dRo f n mp X t R jd k) e + 4) = att := by rw [u2_cg (Fnew _ (NXh _ (by omega) (by omega)) (by omega)) (Fnew _ (NXh _ (by omega) (by omega)) (by omega))]; exact nok.2.2.1
  have F56 : u4 F (ea (dRo f n mp X t R jd k) e + 56) = ln := by rw [u4_cg (fun j _ _ => Fnew _ (NXh _ (by omega) (by omega)) (by omega))]; exact nok.2.2.2.1
  have F52 : u4 F (ea (dRo f n mp X t R jd k) e + 52) = fs := by rw [u4_cg (fun j _ _ => Fnew _ (NXh _ (by omega) (by omega)) (by omega))]; exact nok.2.2.2.2.1
  have FD : isD F (ea (dRo f n mp X t R jd k) e) ↔ 16 ≤ att := by unfold isD; rw [F4]
  have row0 := nr.1.2.2
  have cre := V_rr v1 a1 _ row0
  have PE : 4 * R1 jd (e / 4).toNat + e % 4 = 4 * dRo f n mp X t R jd k (e / 4).toNat + e % 4 := by rw [R1d _ (by rw [← gD]; exact row0)]
  have hP : ha (4 * dRo f n mp X t R jd k (e / 4).toNat + e % 4) = ea (dRo f n mp X t R jd k) e := ha_ea.symm
  have P0 : 4 * dRo f n mp X t R jd k (e / 4).toNat + e % 4 ≠ 0 := by rw [← PE]; omega
  have bRF : bR F (4 * dRo f n mp X t R jd k (e / 4).toNat + e % 4) = rn := by
    unfold bR
    rw [hP, F33]
    rcases r01 with y | y <;> rw [y] <;> rfl
  have tcS : ∀ i, i ≤ K' → tc F rn fs i = tc (d4 f n mp X t R jd k tm) rn fs i := tc_sm (fun i hi => Or.inr (by
    rw [A5d.2.1 i hi]
    have c := (A5a i hi).1
    unfold clu at c
    exact u4_cg (fun j _ _ => Flow _ (by omega) (by omega))))
  have dD1 : dirT (d4 f n mp X t R jd k tm) t1 jd := by
    by_cases y : jd = 0
    · exact Or.inl y
    · refine Or.inr ?_
      have d' := dd.resolve_left y
      unfold isD at d' ⊢
      rw [gP, d4_at v a dd kc px tm (show 1 ≤ jd by omega) a]
      exact d'
  have dT1 : ∀ j, al t j → (dirT (d4 f n mp X t R jd k tm) t1 j ↔ dirT f t j) := fun j aj => by
    unfold dirT isD
    rw [gP]
    by_cases y : j = 0
    · exact ⟨fun _ => Or.inl y, fun _ => Or.inl y⟩
    · rw [d4_at v a dd kc px tm (show 1 ≤ j by omega) aj]
  rw [← PE]
  refine V_put (m := m) v1 n1 a1 dN dD1 e0 ev m34 em1 un byF (fun j aj dj i hi x x0 x1 nx ox => ?_) (fun x ox => F2 x ((olds x).mp ox)) (fun j aj i hi => ?_) (fun c hc => ?_) (by rw [hdE, tlE]; exact SF) (by rw [hdE]; exact F1') A5a A5b (fun j aj nj i i' hi hi' => ?_) ?_ (fun i hi => ?_) (fun an => ?_) (fun an dF i hi o p p' => ?_) (fun j j1 aj nj pj => ?_) (fun j j1 aj nj => ?_) A8'
  · rw [olds] at ox
    have c := V_rr v1 aj i hi
    have x00 : 0 ≤ x := by unfold ca at x0; omega
    rw [F1 x x00 ox]
    rcases mor x x00 nx with y | ⟨⟨i', i1, i2⟩, y1, y2⟩
    · exact Or.inl y
    · refine Or.inr ⟨?_, y1, by rw [y2]; decide⟩
      rw [i2]
      exact (rowA i' i1).1.2
  · have c := V_rr v1 aj i hi
    exact u4_cg (fun x _ _ => Flow _ (by omega) (by omega))
  · unfold clu at hc
    unfold tb
    rw [Fbm _ (by omega) (by omega)]
  · rw [gA] at aj
    by_cases y : j = jd
    · subst y
      rw [gD] at hi
      rw [R1d i hi]
      unfold dRo app
      split
      · exact A5c j aj nj i i' (by assumption) hi'
      · exact A5c' _ i' (by omega) hi'
    · rw [(gO j y).1] at hi
      rw [(gO j y).2]
      exact A5c j aj nj i i' hi hi'
  · rw [PE, rkP_n _ _ P0, rwP_n _ _ P0, hP, F56, F52, bRF]
    refine ⟨by rw [A5d.1]; omega, fun i hi => by rw [tcS i (by omega)]; exact A5d.2.1 i hi, fun b kp => by rw [tcS _ (Nat.le_refl _)]; exact A5d.2.2 b kp⟩
  · have c := (A5a i hi).1
    unfold clu at c
    have e1 : tb F mp (r' i) = tb (d4 f n mp X t R jd k tm) mp (r' i) := by
      unfold tb
      rw [Fbm _ (by omega) (by omega)]
    rw [e1]
    exact A5e i hi
  · rw [gA] at an
    obtain ⟨q1, q2, q3⟩ := A6 an
    have nj : jn ≠ jd := fun y => dN y.symm
    rw [(gO jn nj).1, hdE, FD, gP]
    refine ⟨q1, fun i hi => by rw [(gO jn nj).2]; exact q2 i hi, ?_⟩
    rw [q3]
    unfold isD
    rw [d4_at v a dd kc px tm n1 an]
  · rw [hdE, FD] at dF
    have an' : ¬ al t jn := fun y => an ((gA jn).mpr y)
    have c := (A5a i hi).1
    unfold clu at c
    have x0 : 0 ≤ ca (r' i) + 32 * o := by unfold ca; omega
    rw [F1 _ x0 (fun ox => an' ox.1)]
    rw [far _ x0 (Or.inr (fun i2 h2 => ?_))]
    · exact A6' an' dF i hi o p p'
    · have ne : dRo f n mp X t R jd k i2 ≠ r' i := by
        unfold dRo app
        split
        · exact A5c jd a dN i2 i (by assumption) hi
        · exact A5c' _ i (by omega) hi
      unfold ca
      omega
  · rw [gA] at aj
    rw [gpt] at pj
    have ee := V_e v j1 aj
    have wj := v.1.2.2.2.1 j j1 aj
    have jne : j ≠ jd := fun y => by
      have := wj.2.2.2.1
      rw [pj, y] at this
      omega
    rw [gP, gE, hdE, tlE, eao jd _ (by omega) (by rw [← pj]; omega)]
    intro l
    have s3 := SetOK_3 (V_ln v j1 aj)
    have a64 := V_al64 v j1 aj
    have keep : ∀ x, x % 32 ≠ 0 → (ha (t 1 j) ≤ x ∧ x < ha (t 1 j) + 64) ∨ (ea (R (pt t j)) (t 3 j + 2) ≤ x ∧ x < ea (R (pt t j)) (t 3 j + 2) + 64) → rd F x = rd f x := fun x x32 hx => by
      have rg := V_rng v j1 aj
      have x00 : 0 ≤ x := by omega
      have aj1 : al t1 j := (gA j).mpr aj
      have nx : ¬ NewX R1 jd e m x := new_no v1 a1 e0 ev m34 em1 un j1 aj1 (by
        rw [gP, gE, gpt, eao _ _ (by omega) (by omega)]
        exact hx)
      rw [F1 x x00 (fun ox => x32 (oldR x ox).2.1)]
      rcases mor x x00 nx with y | ⟨⟨i', i1, i2⟩, _⟩
      · rw [y]
        exact d4_set v a dd kc px tm j1 aj jne hx
      · have := (rowA i' i1).1.2
        rw [← i2] at this
        exact absurd this x32
    refine NL j j1 aj nj pj ⟨?_, fun i hi => ?_⟩
    · have l1 := l.1
      rw [F35, keep _ (by omega) (Or.inl ⟨by omega, by omega⟩)] at l1
      exact l1.symm
    · have l1 := l.1
      rw [F35] at l1
      have ll := l.2 i (by rw [l1]; exact hi)
      have nmr : ∀ i, i < sz → 0 ≤ nm i ∧ nm i < 65536 := fun i hi => by have := isLet_rng (nmo.2.2.1 i (by omega)); omega
      have s30 : sz ≤ 30 := by rcases mm with y | y <;> omega
      have i15 : i < 15 * m2 := by rcases mm with y | y <;> omega
      have lr := lof_rng (i := (i : Int)) (by omega) (by omega)
      have lnew : lt F (ea (dRo f n mp X t R jd k) (e + 2)) i = nm i := by
        have nl := nset_lt (w := mks (d4 f n mp X t R jd k tm) (dRo f n mp X t R jd k) e.toNat) (g := g) (att := att) (made := made) (chg := chg) (rn := rn) (fs := fs) (ln := ln) (show 0 ≤ ea (dRo f n mp X t R jd k) e by omega) (show 0 ≤ ea (dRo f n mp X t R jd k) (e + 2) by omega) dsj mm nmr i15
        rw [if_pos (by omega)] at nl
        rw [← nl]
        have le : la (ea (dRo f n mp X t R jd k) (e + 2)) (i : Int) = ea (dRo f n mp X t R jd k) (e + 2) + lof (i : Int) := by unfold la lof; omega
        have rng : lof (i : Int) + 2 ≤ 32 * (m2 : Int) := by rcases mm with z | z <;> omega
        unfold lt
        rw [le]
        exact u2_cg (Fnew _ (NXt _ (by omega) (by omega)) (by omega)) (Fnew _ (NXt _ (by omega) (by omega)) (by omega))
      have lold : lt F (ea (R (pt t j)) (t 3 j + 2)) i = lt f (ea (R (pt t j)) (t 3 j + 2)) i := by
        have le : la (ea (R (pt t j)) (t 3 j + 2)) (i : Int) = ea (R (pt t j)) (t 3 j + 2) + lof (i : Int) := by unfold la lof; omega
        have ev2 : lof (i : Int) % 2 = 0 := by unfold lof; split <;> omega
        have n32 : lof (i : Int) % 32 ≠ 0 := by unfold lof; split <;> omega
        unfold lt
        rw [le]
        exact u2_cg (keep _ (by omega) (Or.inr ⟨by omega, by omega⟩)) (keep _ (by omega) (Or.inr ⟨by omega, by omega⟩))
      rw [pj] at lold ⊢
      rw [lnew, lold] at ll
      exact ll.symm
  · rw [gA] at aj
    rw [gpt]
    exact A8 j j1 aj nj
end FIN
