/-! a new SET is right -/
section NEW
variable {w g nm : Nat → Int} {hd tl n room att made chg rn fs ln : Int} {m2 sz : Nat}
noncomputable def nset (w g nm : Nat → Int) (hd tl : Int) (m2 sz : Nat) (att made chg rn fs ln : Int) : Nat → Int := sl (lay w hd tl m2 (nh m2 sz (hsh g nm sz) att made chg rn fs ln) (tlt (tt0 m2) nm sz)) hd tl
theorem nset_n {x : Int} (h0 : 0 ≤ hd) (t0 : 0 ≤ tl) (x0 : 0 ≤ x) (n1 : ¬ (hd ≤ x ∧ x < hd + 64)) (n2 : ¬ (tl ≤ x ∧ x < tl + 32 * (m2 : Int))) : rd (nset w g nm hd tl m2 sz att made chg rn fs ln) x = rd w x := by
  unfold nset sl
  rw [rd_wb_ne (by omega) x0 (by omega)]
  exact rd_lay_n h0 t0 x0 n1 n2
theorem nset_h {x : Int} (h0 : 0 ≤ hd) (x0 : 0 ≤ x) (x1 : x < 64) (x2 : x ≠ 2 ∧ x ≠ 3) : rd (nset w g nm hd tl m2 sz att made chg rn fs ln) (hd + x) = rd (nh m2 sz (hsh g nm sz) att made chg rn fs ln) x := by
  unfold nset sl
  rw [rd_wb_ne (by omega) (by omega) (by omega)]
  exact rd_lay_h h0 x0 x1
theorem nset_t {x : Int} (h0 : 0 ≤ hd) (t0 : 0 ≤ tl) (ds : hd + 64 ≤ tl ∨ tl + 64 ≤ hd) (mm2 : m2 ≤ 2) (x0 : 0 ≤ x) (x1 : x < 32 * (m2 : Int)) : rd (nset w g nm hd tl m2 sz att made chg rn fs ln) (tl + x) = rd (tlt (tt0 m2) nm sz) x := by
  unfold nset sl
  rw [rd_wb_ne (by omega) (by omega) (by omega)]
  exact rd_lay_t h0 t0 ds mm2 x0 x1
theorem By_nset (h : By w) (mm2 : m2 ≤ 2) : By (nset w g nm hd tl m2 sz att made chg rn fs ln) := by
  unfold nset sl
  exact By_wb (By_lay h (fun k hk => By_nh k (by omega)) (fun k hk => By_tlt By_tt0 sz k (by omega)))
theorem nset_lt (h0 : 0 ≤ hd) (t0 : 0 ≤ tl) (ds : hd + 64 ≤ tl ∨ tl + 64 ≤ hd) (mm : (m2 = 1 ∧ sz ≤ 15) ∨ (m2 = 2 ∧ 15 < sz ∧ sz ≤ 30)) (nr : ∀ i, i < sz → 0 ≤ nm i ∧ nm i < 65536) {i : Nat} (hi : i < 15 * m2) : lt (nset w g nm hd tl m2 sz att made chg rn fs ln) tl i = if i < sz then nm i else 0 := by
  have lr := lof_rng (i := (i : Int)) (by omega) (by omega)
  have le : la tl (i : Int) = tl + lof (i : Int) := by unfold la lof; omega
  have rng : lof (i : Int) + 2 ≤ 32 * (m2 : Int) := by rcases mm with z | z <;> omega
  have e0 : u2 (nset w g nm hd tl m2 sz att made chg rn fs ln) (tl + lof (i : Int)) = u2 (tlt (tt0 m2) nm sz) (lof (i : Int)) := by
    unfold u2
    rw [nset_t h0 t0 ds (by omega) (by omega) (by omega), show tl + lof (i : Int) + 1 = tl + (lof (i : Int) + 1) by omega, nset_t h0 t0 ds (by omega) (by omega) (by omega)]
  unfold lt
  rw [le, e0]
  by_cases z : i < sz
  · rw [if_pos z, tlt_in sz i z]
    have := nr i z
    omega
  · rw [if_neg z]
    have out : ∀ x, lof (i : Int) ≤ x → x < lof (i : Int) + 2 → rd (tlt (tt0 m2) nm sz) x = 0 := fun x x0 x1 => by
      rw [tlt_out (by omega) sz (fun j hj => by have := lof_ne (show (j : Int) < (i : Int) by omega); omega)]
      unfold tt0
      split
      · rw [rd_wb_ne (by omega) (by omega) (by omega), rd_wb_ne (by omega) (by omega) (by omega)]; rfl
      · rw [rd_wb_ne (by omega) (by omega) (by omega)]; rfl
    unfold u2
    rw [out _ (by omega) (by omega), out _ (by omega) (by omega)]
    rfl
theorem nset_ok (h0 : 0 ≤ hd) (t0 : 0 ≤ tl) (ds : hd + 64 ≤ tl ∨ tl + 64 ≤ hd) (mm : (m2 = 1 ∧ sz ≤ 15) ∨ (m2 = 2 ∧ 15 < sz ∧ sz ≤ 30)) (nmo : isNm nm sz) (hroom : 2 + (m2 : Int) ≤ room) (at' : At att) (l0 : 0 ≤ ln ∧ ln ≤ 128 * n) (hn : n ≤ 100) (f0 : 0 ≤ fs ∧ fs ≤ 1000) (dd : 16 ≤ att → ln ≠ 0 ∧ ln % 128 = 0) (z : ln = 0 → fs = 0 ∧ rn = 0) (nz : ln ≠ 0 → 2 ≤ fs ∧ fs ≤ n + 1) (gr : Gr g) :
    SetOK (nset w g nm hd tl m2 sz att made chg rn fs ln) g n hd tl room ∧ rd (nset w g nm hd tl m2 sz att made chg rn fs ln) (hd + 1) = 1 + m2 ∧ u2 (nset w g nm hd tl m2 sz att made chg rn fs ln) (hd + 4) = att ∧ u4 (nset w g nm hd tl m2 sz att made chg rn fs ln) (hd + 56) = ln ∧ u4 (nset w g nm hd tl m2 sz att made chg rn fs ln) (hd + 52) = fs ∧ rd (nset w g nm hd tl m2 sz att made chg rn fs ln) (hd + 33) = (if rn = 0 then 1 else 3) ∧ rd (nset w g nm hd tl m2 sz att made chg rn fs ln) (hd + 35) = sz := by
  have sz1 := nmo.1
  have mr : m2 ≤ 2 ∧ 1 ≤ m2 ∧ sz ≤ 30 ∧ (sz + 14) / 15 = m2 := by rcases mm with y | y <;> omega
  have H : ∀ x : Int, 0 ≤ x → x < 64 → (x ≠ 2 ∧ x ≠ 3) → rd (nset w g nm hd tl m2 sz att made chg rn fs ln) (hd + x) = rd (nh m2 sz (hsh g nm sz) att made chg rn fs ln) x := fun x x0 x1 x2 => nset_h h0 x0 x1 x2
  have nmr : ∀ i, i < sz → 0 ≤ nm i ∧ nm i < 65536 := fun i hi => by have := isLet_rng (nmo.2.2.1 i (by omega)); omega
  have LT := fun (i : Nat) (hi : i < 15 * m2) => nset_lt (w := w) (g := g) (att := att) (made := made) (chg := chg) (rn := rn) (fs := fs) (ln := ln) h0 t0 ds mm nmr hi
  have hr := hsh_rng g nm sz
  have e0 : rd (nh m2 sz (hsh g nm sz) att made chg rn fs ln) 0 = 133 := rfl
  have e1 : rd (nh m2 sz (hsh g nm sz) att made chg rn fs ln) 1 = 1 + m2 := by
    show (1 + (m2 : Int)) / 256 ^ 0 % 256 = 1 + m2
    rw [Int.pow_zero, Int.ediv_one]
    omega
  have e32 : rd (nh m2 sz (hsh g nm sz) att made chg rn fs ln) 32 = 192 := rfl
  have e33 : rd (nh m2 sz (hsh g nm sz) att made chg rn fs ln) 33 = (if rn = 0 then 1 else 3) := by
    show (if rn = 0 then (1 : Int) else 3) / 256 ^ 0 % 256 = _
    split <;> rfl
  have e35 : rd (nh m2 sz (hsh g nm sz) att made chg rn fs ln) 35 = sz := by
    show (sz : Int) / 256 ^ 0 % 256 = sz
    rw [Int.pow_zero, Int.ediv_one]
    omega
  have u2S : ∀ x : Int, 4 ≤ x → x + 1 < 64 → u2 (nset w g nm hd tl m2 sz att made chg rn fs ln) (hd + x) = u2 (nh m2 sz (hsh g nm sz) att made chg rn fs ln) x := fun x x0 x1 => by
    unfold u2
    rw [H x (by omega) (by omega) (by omega), show hd + x + 1 = hd + (x + 1) by omega, H (x + 1) (by omega) (by omega) (by omega)]
  have u4S : ∀ x : Int, 4 ≤ x → x + 3 < 64 → u4 (nset w g nm hd tl m2 sz att made chg rn fs ln) (hd + x) = u4 (nh m2 sz (hsh g nm sz) att made chg rn fs ln) x := fun x x0 x1 => by
    unfold u4
    rw [H x (by omega) (by omega) (by omega), show hd + x + 1 = hd + (x + 1) by omega, H (x + 1) (by omega) (by omega) (by omega), show hd + x + 2 = hd + (x + 2) by omega, H (x + 2) (by omega) (by omega) (by omega), show hd + x + 3 = hd + (x + 3) by omega, H (x + 3) (by omega) (by omega) (by omega)]
  have e4 : u2 (nh m2 sz (hsh g nm sz) att made chg rn fs ln) 4 = att := by
    unfold nh
    rw [u2_wb_ne (by omega) (by omega) (by omega), u2_wb_ne (by omega) (by omega) (by omega), u2_wb_ne (by omega) (by omega) (by omega), u2_wb_ne (by omega) (by omega) (by omega), u2_wb_ne (by omega) (by omega) (by omega), u2_wb_ne (by omega) (by omega) (by omega), u2_wb (by omega)]
    rcases at' with y | y | y | y <;> rw [y] <;> rfl
  have e36 : u2 (nh m2 sz (hsh g nm sz) att made chg rn fs ln) 36 = hsh g nm sz := by
    unfold nh bgn
    rw [u2_wb_ne (by omega) (by omega) (by omega), u2_wb_ne (by omega) (by omega) (by omega), u2_wb_ne (by omega) (by omega) (by omega), u2_wb_ne (by omega) (by omega) (by omega), u2_wb_ne (by omega) (by omega) (by omega), u2_wb_ne (by omega) (by omega) (by omega), u2_wb_ne (by omega) (by omega) (by omega), u2_wb (by omega)]
    omega
  have e56 : u4 (nh m2 sz (hsh g nm sz) att made chg rn fs ln) 56 = ln := by
    unfold nh
    rw [u4_wb (by omega)]
    omega
  have e52 : u4 (nh m2 sz (hsh g nm sz) att made chg rn fs ln) 52 = fs := by
    unfold nh
    rw [u4_wb_ne (by omega) (by omega) (by omega), u4_wb (by omega)]
    omega
  have e40 : u4 (nh m2 sz (hsh g nm sz) att made chg rn fs ln) 40 = ln := by
    unfold nh
    rw [u4_wb_ne (by omega) (by omega) (by omega), u4_wb_ne (by omega) (by omega) (by omega), u4_wb (by omega)]
    omega
  have e44 : u4 (nh m2 sz (hsh g nm sz) att made chg rn fs ln) 44 = 0 := rfl
  have e60 : u4 (nh m2 sz (hsh g nm sz) att made chg rn fs ln) 60 = 0 := rfl
  have zr : ∀ x : Int, (x = 6 ∨ x = 7 ∨ (16 ≤ x ∧ x < 32) ∨ x = 34 ∨ x = 38 ∨ x = 39 ∨ (48 ≤ x ∧ x < 52)) → rd (nh m2 sz (hsh g nm sz) att made chg rn fs ln) x = 0 := fun x hx => by
    unfold nh bgn
    rw [rd_wb_ne (by omega) (by omega) (by omega), rd_wb_ne (by omega) (by omega) (by omega), rd_wb_ne (by omega) (by omega) (by omega), rd_wb_ne (by omega) (by omega) (by omega), rd_wb_ne (by omega) (by omega) (by omega), rd_wb_ne (by omega) (by omega) (by omega), rd_wb_ne (by omega) (by omega) (by omega), rd_wb_ne (by omega) (by omega) (by omega), rd_wb_ne (by omega) (by omega) (by omega), rd_wb_ne (by omega) (by omega) (by omega), rd_wb_ne (by omega) (by omega) (by omega), rd_wb_ne (by omega) (by omega) (by omega), rd_wb_ne (by omega) (by omega) (by omega)]
    rfl
  have zH : ∀ x : Int, hd ≤ x → (x - hd = 6 ∨ x - hd = 7 ∨ (16 ≤ x - hd ∧ x - hd < 32) ∨ x - hd = 34 ∨ x - hd = 38 ∨ x - hd = 39 ∨ (48 ≤ x - hd ∧ x - hd < 52)) → rd (nset w g nm hd tl m2 sz att made chg rn fs ln) x = 0 := fun x x0 hx => by
    have := H (x - hd) (by omega) (by omega) (by omega)
    rw [show hd + (x - hd) = x by omega] at this
    rw [this]
    exact zr _ hx
  have H0 := H 0 (by omega) (by omega) (by omega)
  rw [show hd + 0 = hd by omega] at H0
  have H1 := H 1 (by omega) (by omega) (by omega)
  have H32 := H 32 (by omega) (by omega) (by omega)
  have H33 := H 33 (by omega) (by omega) (by omega)
  have H35 := H 35 (by omega) (by omega) (by omega)
  have U4 := u2S 4 (by omega) (by omega)
  have U36 := u2S 36 (by omega) (by omega)
  have U56 := u4S 56 (by omega) (by omega)
  have U52 := u4S 52 (by omega) (by omega)
  have U40 := u4S 40 (by omega) (by omega)
  have U44 := u4S 44 (by omega) (by omega)
  have U60 := u4S 60 (by omega) (by omega)
  rw [e0] at H0
  rw [e1] at H1
  rw [e32] at H32
  rw [e33] at H33
  rw [e35] at H35
  rw [e4] at U4
  rw [e36] at U36
  rw [e56] at U56
  rw [e52] at U52
  rw [e40] at U40
  rw [e44] at U44
  rw [e60] at U60
  clear H e0 e1 e32 e33 e35 e4 e36 e56 e52 e40 e44 e60 u2S u4S zr
  have sm : SmOK (nset w g nm hd tl m2 sz att made chg rn fs ln) hd tl := by
    unfold nset
    refine SmOK_sl h0 t0 ds ?_
    have x1 := H1
    unfold nset sl at x1
    rw [rd_wb_ne (by omega) (by omega) (by omega)] at x1
    rw [x1]
    omega
  have TT : ∀ x : Int, 0 ≤ x → x < 32 * (m2 : Int) → (x < 2 ∨ (32 ≤ x ∧ x < 34)) → rd (nset w g nm hd tl m2 sz att made chg rn fs ln) (tl + x) = if x = 0 ∨ x = 32 then 193 else 0 := fun x x0 x1 hx => by
    rw [nset_t h0 t0 ds mr.1 x0 x1, tlt_out x0 sz (fun j hj => by have := lof_rng (i := (j : Int)) (by omega) (by omega); omega)]
    unfold tt0
    by_cases y : m2 = 2
    · rw [if_pos y]
      rcases (show x = 0 ∨ x = 1 ∨ x = 32 ∨ x = 33 by omega) with q | q | q | q <;> rw [q] <;> rfl
    · rw [if_neg y]
      rcases (show x = 0 ∨ x = 1 by omega) with q | q <;> rw [q] <;> rfl
  generalize nset w g nm hd tl m2 sz att made chg rn fs ln = F at *
  refine ⟨⟨⟨H0, by rw [H1]; omega, by rw [U4]; exact at', fun x x0 x1 => zH x (by omega) (by omega), fun x x0 x1 => zH x (by omega) (by omega)⟩, ⟨H32, by rw [H33]; split; exact Or.inl rfl; exact Or.inr rfl, zH _ (by omega) (by omega), fun x x0 x1 => zH x (by omega) (by omega), fun x x0 x1 => zH x (by omega) (by omega)⟩, ?_, ⟨by rw [H35]; omega, by rw [H1, H35]; omega, ?_, ?_, fun i i0 i1 => ?_, fun i i0 i1 => ?_⟩, sm⟩, H1, U4, U56, U52, H33, H35⟩
  · unfold LnOK isD isR
    rw [U56, U52, U40, U44, U60, U4, H33]
    refine ⟨l0.2, rfl, rfl, rfl, dd, fun y => ⟨(z y).1, ?_⟩, nz⟩
    rw [if_pos (z y).2]
    decide
  · rw [H35]
    exact isNm_congr (fun i hi => by rw [LT i (by omega), if_pos (by omega)]) nmo
  · rw [H35, U36, show ((sz : Int)).toNat = sz by omega]
    refine hsh_congr (fun i hi => ?_) (fun _ _ => rfl)
    rw [LT i (by omega), if_pos hi]
    have := isLet_rng (nmo.2.2.1 i (by omega))
    exact ⟨rfl, by omega, by omega⟩
  · rw [H1] at i1
    have a1 := TT (32 * i) (by omega) (by omega) (by omega)
    have a2 := TT (32 * i + 1) (by omega) (by omega) (by omega)
    rw [if_pos (by omega)] at a1
    rw [if_neg (by omega), show tl + (32 * i + 1) = tl + 32 * i + 1 by omega] at a2
    exact ⟨a1, a2⟩
  · rw [H35] at i0
    rw [H1] at i1
    rw [LT i (by omega), if_neg (by omega)]
end NEW
