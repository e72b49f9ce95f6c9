/-! move: the volume -/
section MVV
variable {f g nm : Nat → Int} {n root mp X m : Int} {t R : AH} {jd jj k : Nat}
noncomputable def mvW (f g nm : Nat → Int) (n mp : Int) (t R : AH) (jd jj k : Nat) (tm e : Int) (m2 sz : Nat) : Nat → Int := mkW f g nm n mp 0 t R jd k tm e m2 sz (u2 f (ha (t 1 jj) + 4)) (u4 f (ha (t 1 jj) + 8)) (u4 f (ha (t 1 jj) + 12)) (bR f (t 1 jj)) (u4 f (ha (t 1 jj) + 52)) (u4 f (ha (t 1 jj) + 56))
noncomputable def mvU (f g nm : Nat → Int) (n mp : Int) (t R : AH) (jd jj k : Nat) (tm e : Int) (m2 sz : Nat) : Nat → Int := uu (mvW f g nm n mp t R jd jj k tm e m2 sz) (ha (t 1 jj)) (ea (R (pt t jj)) (t 3 jj + 2)) (rd f (ha (t 1 jj) + 1))
noncomputable def mvL (f g nm : Nat → Int) (n mp : Int) (t R : AH) (jd jj k : Nat) (tm e : Int) (m2 sz : Nat) : List (Nat → Int) := [so1 f, dB f n mp 0 t R jd k, d1 f n mp 0 t R jd k, d2 f n mp 0 t R jd k, d3 f n mp 0 t R jd k, mvW f g nm n mp t R jd jj k tm e m2 sz, mvU f g nm n mp t R jd jj k tm e m2 sz]
noncomputable def rho (t : AH) (jj jd : Nat) : Nat → Int := fun j => @ite Int (Wn t jj j) (Classical.propDecidable _) (t 5 j + (1 + (if jd = 0 then 0 else t 5 jd))) (if j = 0 then 0 else t 5 j)
theorem rho_y {j : Nat} (h : Wn t jj j) : rho t jj jd j = t 5 j + (1 + (if jd = 0 then 0 else t 5 jd)) := if_pos h
theorem rho_n {j : Nat} (h : ¬ Wn t jj j) : rho t jj jd j = (if j = 0 then 0 else t 5 j) := if_neg h
theorem mv_pos (v : V f g n root mp t R) (a : al t jd) (dd : dirT f t jd) (kc : 0 < k → k ≤ cf f mp n X n.toNat) (px : PX f mp n X) {e : Int} (m34 : m = 3 ∨ m = 4) (sp : Spc f (R jd) (Kt t jd) m e k) : (1024 ≤ ea (dRo f n mp X t R jd k) e ∧ ea (dRo f n mp X t R jd k) e + 64 ≤ 13824) ∧ (1024 ≤ ea (dRo f n mp X t R jd k) (e + 2) ∧ ea (dRo f n mp X t R jd k) (e + 2) + 64 ≤ 13824) ∧ (ea (dRo f n mp X t R jd k) e + 64 ≤ ea (dRo f n mp X t R jd k) (e + 2) ∨ ea (dRo f n mp X t R jd k) (e + 2) + 64 ≤ ea (dRo f n mp X t R jd k) e) := by
  have c4 := (d4_row v a dd kc px 0).2.2.2
  have sle := (Spc_le m34 sp).1
  have e0 := sp.1
  have ev := sp.2.1
  have q1 := c4 (e / 4).toNat (by omega)
  have q2 := c4 ((e + 2) / 4).toNat (by omega)
  exact ⟨by unfold ea ca; omega, by unfold ea ca; omega, dRo_ds v a dd kc px e0 ev (by omega)⟩
/-- the SET that moves is not touched by what is laid -/
theorem mv_far (v : V f g n root mp t R) (a : al t jd) (dd : dirT f t jd) (kc : 0 < k → k ≤ cf f mp n X n.toNat) (px : PX f mp n X) {e : Int} (m34 : m = 3 ∨ m = 4) (sp : Spc f (R jd) (Kt t jd) m e k) (tm : Int) (j1 : 1 ≤ jj) (aj : al t jj) (nj : jj ≠ jd) {x : Int} (hx : (ha (t 1 jj) ≤ x ∧ x < ha (t 1 jj) + 64) ∨ (ea (R (pt t jj)) (t 3 jj + 2) ≤ x ∧ x < ea (R (pt t jj)) (t 3 jj + 2) + 64)) : (¬ (ea (dRo f n mp X t R jd k) e ≤ x ∧ x < ea (dRo f n mp X t R jd k) e + 64) ∧ ¬ (ea (dRo f n mp X t R jd k) (e + 2) ≤ x ∧ x < ea (dRo f n mp X t R jd k) (e + 2) + 32 * (m - 2))) ∧ (rd (mks (d4 f n mp X t R jd k tm) (dRo f n mp X t R jd k) e.toNat) x = rd f x ∨ (rd f x = 0 ∧ x % 32 = 0)) := by
  obtain ⟨t1, R1, v1, gr⟩ := V_room v a dd kc px tm
  obtain ⟨gA, gP, gT, gE, gK, gO, gD, gR⟩ := gr
  obtain ⟨c1, c2, c3, c4⟩ := d4_row v a dd kc px tm
  have e0 := sp.1
  have ev := sp.2.1
  have emK := (Spc_le m34 sp).1
  have gpt : ∀ j, pt t1 j = pt t j := fun j => by unfold pt; rw [gT]
  have R1d : ∀ i, i < Kt t jd + k → R1 jd i = dRo f n mp X t R jd k i := gR
  have R1o : ∀ j i, i < Kt t j → R1 j i = R j i := fun j i hi => by
    by_cases z : j = jd
    · subst z
      rw [gR i (by omega)]
      unfold app
      rw [if_pos hi]
    · exact (gO j z).2 i
  have ead : ∀ q : Int, 0 ≤ q → q < 4 * ((Kt t jd + k : Nat) : Int) → ea (R1 jd) q = ea (dRo f n mp X t R jd k) q := fun q q0 q1 => ea_cg R1d q0 q1
  have eao : ∀ j q, 0 ≤ q → q < 4 * (Kt t j : Int) → ea (R1 j) q = ea (R j) q := fun j q q0 q1 => ea_cg (R1o j) q0 q1
  have a1 : al t1 jd := (gA jd).mpr a
  have em1 : e + m ≤ 4 * (Kt t1 jd : Int) := by rw [gD]; exact emK
  have un : ∀ i : Int, 0 ≤ i → i < m → rd (d4 f n mp X t R jd k tm) (ea (R1 jd) (e + i)) < 128 := fun i i0 i1 => by
    rw [ead _ (by omega) (by omega)]
    rcases sp.2.2 with ⟨z, pm, fe, _⟩ | ⟨z, _, el, fe, _⟩
    · rw [c2 _ (by omega) (by omega)]; exact fe i i0 i1
    · by_cases y : e + i < 4 * (Kt t jd : Int)
      · rw [c2 _ (by omega) y]; exact fe _ (by omega) (by omega) y
      · rw [c3 _ (by omega) (by omega)]; decide
  have ee := V_e v j1 aj
  have wj := v.1.2.2.2.1 jj j1 aj
  have rg := V_rng v j1 aj
  have nx : ¬ NewX R1 jd e m x := new_no v1 a1 e0 ev m34 em1 un j1 ((gA jj).mpr aj) (by
    rw [gP, gE, gpt, eao _ _ (by omega) (by omega)]
    exact hx)
  have d4x : rd (d4 f n mp X t R jd k tm) x = rd f x := d4_set v a dd kc px tm j1 aj nj hx
  unfold NewX at nx
  rw [ead e e0 (by omega), ead (e + 2) (by omega) (by omega)] at nx
  refine ⟨⟨fun y => nx (Or.inl y), fun y => nx (Or.inr y)⟩, ?_⟩
  have ro : ∀ i : Nat, i < e.toNat → 0 ≤ ea (dRo f n mp X t R jd k) (i : Int) := fun i hi => by
    have := c4 ((i : Int) / 4).toNat (by omega)
    have := (ea_rng (r := dRo f n mp X t R jd k) (e := (i : Int)) (by omega) this).1
    omega
  rcases mks_or (w := d4 f n mp X t R jd k tm) (r := dRo f n mp X t R jd k) (x := x) (by omega) e.toNat ro with y | ⟨⟨i, i1, i2⟩, y1, y2⟩
  · exact Or.inl (y.trans d4x)
  · refine Or.inr ⟨by rw [← d4x]; exact y1, ?_⟩
    rw [i2]
    exact ea_al _ _
theorem mvW_old (v : V f g n root mp t R) (a : al t jd) (dd : dirT f t jd) (kc : 0 < k → k ≤ cf f mp n 0 n.toNat) {e : Int} {m2 sz : Nat} (m34 : (2 + (m2 : Int)) = 3 ∨ (2 + (m2 : Int)) = 4) (sp : Spc f (R jd) (Kt t jd) (2 + (m2 : Int)) e k) (tm : Int) (j1 : 1 ≤ jj) (aj : al t jj) (nj : jj ≠ jd) {x : Int} (hx : (ha (t 1 jj) ≤ x ∧ x < ha (t 1 jj) + 64) ∨ (ea (R (pt t jj)) (t 3 jj + 2) ≤ x ∧ x < ea (R (pt t jj)) (t 3 jj + 2) + 64)) (nz : rd f x ≠ 0) : rd (mvW f g nm n mp t R jd jj k tm e m2 sz) x = rd f x := by
  have fa := mv_far v a dd kc (Or.inl rfl) m34 sp tm j1 aj nj hx
  have po := mv_pos v a dd kc (Or.inl rfl) m34 sp
  have rg := V_rng v j1 aj
  unfold mvW mkW
  rw [nset_n (by omega) (by omega) (by omega) fa.1.1 (by have := fa.1.2; omega)]
  rcases fa.2 with y | y
  · exact y
  · exact absurd y.1 nz
theorem V_move (v : V f g n root mp t R) (a : al t jd) (dd : dirT f t jd) (kc : 0 < k → k ≤ cf f mp n 0 n.toNat) {e : Int} {m2 sz : Nat} (m34 : (2 + (m2 : Int)) = 3 ∨ (2 + (m2 : Int)) = 4) (sp : Spc f (R jd) (Kt t jd) (2 + (m2 : Int)) e k) (tm : Int) (mm : (m2 = 1 ∧ sz ≤ 15) ∨ (m2 = 2 ∧ 15 < sz ∧ sz ≤ 30)) (nmo : isNm nm sz) (j1 : 1 ≤ jj) (aj : al t jj) (nw : ¬ Wn t jj jd) (NL : ∀ j3, 1 ≤ j3 → al t j3 → j3 ≠ jj → pt t j3 = jd → ¬ LD f g t R nm sz j3) (gg : Gr g) : ∃ t' R', V (mvU f g nm n mp t R jd jj k tm e m2 sz) g n root mp t' R' := by
  have nn := V_n v
  have hf := V_by v
  have px : PX f mp n 0 := Or.inl rfl
  have dN : jd ≠ jj := fun y => nw ⟨0, y⟩
  obtain ⟨t1, R1, v1, gr⟩ := V_room v a dd kc px tm
  obtain ⟨o1, o2⟩ := dSq_ok (t := t) (R := R) (jd := jd) kc
  have rg := V_rng v j1 aj
  have ds := V_ht v j1 aj j1 aj
  have ok := V_ln v j1 aj
  have lno := ok.2.2.1
  have u5 := u4_rng hf (show 0 ≤ ha (t 1 jj) + 56 by omega) (show ha (t 1 jj) + 56 + 3 < 13824 by omega)
  have u52 := u4_rng hf (show 0 ≤ ha (t 1 jj) + 52 by omega) (show ha (t 1 jj) + 52 + 3 < 13824 by omega)
  have w := v.1.2.2.2.1 jj j1 aj
  have p0 : t 1 jj ≠ 0 := by have := V_cl v j1 aj; omega
  have u0 := un_0 (w := mvW f g nm n mp t R jd jj k tm e m2 sz) (hd := ha (t 1 jj)) (tl := ea (R (pt t jj)) (t 3 jj + 2)) (k := rd f (ha (t 1 jj) + 1)) (by omega) (by omega) (by omega)
  have f0 : 0 ≤ u4 f (ha (t 1 jj) + 52) ∧ u4 f (ha (t 1 jj) + 52) ≤ 1000 := by
    by_cases y : u4 f (ha (t 1 jj) + 56) = 0
    · rw [(lno.2.2.2.2.2.1 y).1]; decide
    · have := lno.2.2.2.2.2.2 y
      omega
  have a1j : al t1 jj := (gr.1 jj).mpr aj
  have nj : jj ≠ jd := fun y => dN y.symm
  have gK := (gr.2.2.2.2.2.1 jj nj).1
  have gRj := (gr.2.2.2.2.2.1 jj nj).2
  have e33 : bR (d4 f n mp 0 t R jd k tm) (t 1 jj) = bR f (t 1 jj) := by
    unfold bR
    rw [d4_set v a dd kc px tm j1 aj nj (Or.inl ⟨by omega, by omega⟩)]
  have e52 : u4 (d4 f n mp 0 t R jd k tm) (ha (t 1 jj) + 52) = u4 f (ha (t 1 jj) + 52) := u4_cg (fun j _ _ => d4_set v a dd kc px tm j1 aj nj (Or.inl ⟨by omega, by omega⟩))
  have r1 := (v.2.2.1 jj aj).1
  rw [rkP_n _ _ p0] at r1
  have A5d : (u4 f (ha (t 1 jj) + 56) + 127) / 128 = (Kt t jj : Int) ∧ (∀ i, i < Kt t jj → tc (d4 f n mp 0 t R jd k tm) (bR f (t 1 jj)) (u4 f (ha (t 1 jj) + 52)) i = R jj i) ∧ (bR f (t 1 jj) = 0 → 0 < Kt t jj → tc (d4 f n mp 0 t R jd k tm) (bR f (t 1 jj)) (u4 f (ha (t 1 jj) + 52)) (Kt t jj) = 4294967295) := by
    obtain ⟨_, s2, s3⟩ := v1.2.2.1 jj a1j
    rw [gr.2.1, gK, rwP_n _ _ p0, e33, e52] at s2 s3
    exact ⟨by omega, fun i hi => (s2 i hi).trans (gRj i), fun y z => s3 (Or.inr y) z⟩
  refine ⟨_, _, V_fin (F := mvU f g nm n mp t R jd jj k tm e m2 sz) (made := u4 f (ha (t 1 jj) + 8)) (chg := u4 f (ha (t 1 jj) + 12)) (jn := jj) (ρ := rho t jj jd) (K' := Kt t jj) (r' := R jj) v a dd kc px m34 sp v1 gr j1 dN rfl mm (By_un (By_nset (By_mks (By_d4 v kc px) _) (by rcases mm with y | y <;> omega))) (fun x x0 nx => ?_) (fun x ox => ?_) nmo NL gg (V_at v j1 aj).2.2 ⟨u5.1, lno.1⟩ f0 (fun y => lno.2.2.2.2.1 y) (fun y => ?_) (fun y => lno.2.2.2.2.2.2 y) (bR_01 _ _) (fun i hi => v.1.2.1 jj aj i hi) (fun i i' p p' y => ?_) (fun j aj' n' i i' hi hi' y => n' (v.1.2.2.1 j jj i i' aj' aj hi hi' y).1) (fun i i' hi hi' y => (V_fresh v (o1 i hi).2.1).2 jj aj i' hi' y.symm) A5d (fun i hi => ?_) (fun _ => ⟨rfl, fun _ _ => rfl, Iff.rfl⟩) (fun y => absurd aj y) (fun j q1 q n' => ?_) ?_⟩
  · exact un_ne (by omega) (by omega) x0 (fun y => nx ⟨aj, y⟩)
  · rcases ox.2 with y | y | y | ⟨y3, y⟩
    · rw [y]; unfold mvU; rw [u0.1]; decide
    · rw [y]; unfold mvU; rw [u0.2.1]; decide
    · rw [y]; unfold mvU; rw [u0.2.2.1]; decide
    · rw [y]; unfold mvU; rw [u0.2.2.2 y3]; decide
  · have z := lno.2.2.2.2.2.1 y
    refine ⟨z.1, ?_⟩
    unfold bR
    exact if_neg z.2
  · have := (v.1.2.2.1 jj jj i i' aj aj (by omega) p' y).2
    omega
  · have := v1.2.2.2.2.2.1 jj a1j i (by rw [gK]; exact hi)
    rw [gRj] at this
    exact this
  · have wj := v.1.2.2.2.1 j q1 q
    have dj : 0 ≤ (if jd = 0 then 0 else t 5 jd) := by
      split
      · decide
      · have := (v.1.2.2.2.1 jd (by omega) a).2.2.2
        omega
    by_cases y : Wn t jj (pt t j)
    · rw [rho_y y, rho_y ((Wn_s (by omega)).mpr (Or.inr y))]
      have := wj.2.2.2
      omega
    · have y2 : ¬ Wn t jj j := fun z => by
        rcases (Wn_s (by omega)).mp z with z | z
        · exact n' z
        · exact y z
      rw [rho_n y, rho_n y2, if_neg (show ¬ j = 0 by omega)]
      have := wj.2.2.2
      split <;> omega
  · have wj : Wn t jj jj := ⟨0, rfl⟩
    rw [rho_n nw, rho_y wj]
    have := w.2.2.2
    by_cases y : jd = 0
    · rw [if_pos y]
      omega
    · rw [if_neg y]
      have := (v.1.2.2.2.1 jd (by omega) a).2.2.2
      omega
end MVV
