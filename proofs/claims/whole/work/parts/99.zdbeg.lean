/-! a new SET: the class lays it -/
section BEG
variable {g nm : Nat → Int} {G : GG} {h : AH}
theorem tt0_c {m2 : Nat} (mm : m2 = 1 ∨ m2 = 2) : (m2 = 1 → tt0 m2 = wb (fun _ => 0) 0 1 193) ∧ (m2 = 2 → tt0 m2 = wb (wb (fun _ => 0) 0 1 193) 32 1 193) := by
  refine ⟨fun z => ?_, fun z => ?_⟩
  · unfold tt0; rw [if_neg (by omega)]
  · unfold tt0; rw [if_pos z]
theorem E_begin {P : AH → Prop} {hd tl : Int} {m2 sz : Nat} (dk : Dk h) (h0 : 0 ≤ hd) (h1 : hd + 64 ≤ 13824) (t0 : 0 ≤ tl) (t1 : tl + 64 ≤ 13824) (ds : hd + 64 ≤ tl ∨ tl + 64 ≤ hd) (mm : (m2 = 1 ∧ sz ≤ 15) ∨ (m2 = 2 ∧ 15 < sz ∧ sz ≤ 30)) (esz : h 32 1 = (sz : Int)) (nmo : isNm (h 33) sz) (gg : Gr (h 9)) (H : ∀ h', Upd h h' (lay (h 3) hd tl m2 (bgn m2 sz (hsh (h 9) (h 33) sz)) (tlt (tt0 m2) (h 33) sz)) → P h') : RunsV G 100 [vR 10, vI hd, vI tl, vR 32] h P := by
  have sz1 := nmo.1
  have mr : (m2 = 1 ∨ m2 = 2) ∧ sz ≤ 30 ∧ ((sz : Int) + 14) / 15 = (m2 : Int) := by rcases mm with y | y <;> omega
  have nmr : ∀ i : Nat, i < sz → 32 ≤ h 33 i ∧ h 33 i ≤ 255 := fun i hi => isLet_rng (nmo.2.2.1 i (by omega))
  have m22 : m2 ≤ 2 := (by omega)
  apply q_E_begin
  apply q_N_entriesOf
  rw [esz, wI_id (z := (sz : Int) + 14) (by omega) (by omega), tdiv_pos (by omega), mr.2.2, show 2 + (m2 : Int) - 2 = (m2 : Int) by omega]
  refine ⟨by decide, D_blank dk h0 (by omega) (by omega) (fun b1 u1 => D_blank u1.1 t0 (by omega) (by omega) (fun b2 u2 => ?_))⟩
  rw [u1.2.1, show ((64 : Int)).toNat = 64 by rfl, show ((m2 : Int) * 32).toNat = 32 * m2 by omega, lay_0 h0 t0 ds m22] at u2
  have U2 := u1.trans u2
  refine D_wb1 U2.1 h0 (by omega) (fun b3 u3 => ?_)
  have e3' : wb (lay (h 3) hd tl m2 (fun _ => 0) (fun _ => 0)) hd 1 133 = lay (h 3) hd tl m2 (wb (fun _ => 0) 0 1 133) (fun _ => 0) := by
    have := lay_hd (w := h 3) (hd := hd) (tl := tl) (m2 := m2) (V := fun _ => 0) (T := fun _ => 0) (o := 0) (v := 133) (n := 1) h0 (by decide) (by decide)
    rw [show hd + 0 = hd by omega] at this
    exact this
  rw [U2.2.1, e3'] at u3
  refine D_wb1 u3.1 (by omega) (by omega) (fun b4 u4 => ?_)
  rw [u3.2.1, lay_hd h0 (by decide) (by decide)] at u4
  refine D_wb1 u4.1 (by omega) (by omega) (fun b5 u5 => ?_)
  rw [u4.2.1, lay_hd h0 (by decide) (by decide)] at u5
  refine D_wb1 u5.1 (by omega) (by omega) (fun b6 u6 => ?_)
  rw [u5.2.1, lay_hd h0 (by decide) (by decide)] at u6
  have U6 := ((((U2.trans u3).trans u4).trans u5).trans u6)
  rw [U6.2.2 32 (by decide) (by decide), esz]
  refine D_wb1 u6.1 (by omega) (by omega) (fun b7 u7 => ?_)
  rw [u6.2.1, lay_hd h0 (by decide) (by decide)] at u7
  have U7 := U6.trans u7
  refine K_hash_32 (by rw [U7.2.2 32 (by decide) (by decide), esz]; omega) (fun i hi => by rw [U7.2.2 32 (by decide) (by decide), esz] at hi; rw [U7.2.2 33 (by decide) (by decide)]; have := nmr i (by omega); omega) (by rw [U7.2.2 9 (by decide) (by decide)]; exact gg) ?_
  rw [U7.2.2 9 (by decide) (by decide), U7.2.2 33 (by decide) (by decide), U7.2.2 32 (by decide) (by decide), esz, show ((sz : Int)).toNat = sz by omega]
  refine D_wb2 u7.1 (by omega) (by omega) (fun b8 u8 => ?_)
  rw [u7.2.1, lay_hd h0 (by decide) (by decide)] at u8
  have U8 : Upd h b8 (lay (h 3) hd tl m2 (bgn m2 sz (hsh (h 9) (h 33) sz)) (fun _ => 0)) := U7.trans u8
  -- letters
  have c155 : ∀ (z i : Nat) (b : AH), i + z = sz → Upd h b (lay (h 3) hd tl m2 (bgn m2 sz (hsh (h 9) (h 33) sz)) (tlt (tt0 m2) (h 33) i)) → Go G (pV P) 100 155 [some (vR 10), none, some (vI tl), some (vR 32), none, some (vI (i : Int))] [] b := by
    intro z
    induction z with
    | zero =>
      intro i b hi u
      apply q_E_begin_c155
      rw [u.2.2 32 (by decide) (by decide), esz, wI_id (z := (sz : Int)) (by omega) (by omega), wI_id (z := (i : Int)) (by omega) (by omega)]
      rw [show i = sz by omega] at u
      exact ⟨fun _ => H b u, fun y => by omega⟩
    | succ z ih =>
      intro i b hi u
      have lr := lof_rng (i := (i : Int)) (by omega) (by omega)
      have rng : lof (i : Int) + 2 ≤ 32 * (m2 : Int) := by rcases mm with z | z <;> omega
      apply q_E_begin_c155
      rw [u.2.2 32 (by decide) (by decide), esz, wI_id (z := (sz : Int)) (by omega) (by omega), wI_id (z := (i : Int)) (by omega) (by omega), show (i : Int) + 1 = ((i + 1 : Nat) : Int) by omega]
      refine ⟨fun y => by omega, fun _ => ?_⟩
      apply q_E_letterAddress
      rw [wI_id (z := (i : Int)) (by omega) (by omega)]
      have go : ∀ A, A = tl + lof (i : Int) → RunsI G 74 [vR 32, vI (i : Int)] b (fun r2 h2 => RunsV G 58 [vR 1, vI A, vI r2] h2 (fun h3 => Go G (pV P) 100 155 [some (vR 10), none, some (vI tl), some (vR 32), none, some (vI ((i + 1 : Nat) : Int))] [] h3)) := by
        intro A eA
        refine N_at_32 (by omega) (by rw [u.2.2 32 (by decide) (by decide), esz]; omega) (by rw [u.2.2 32 (by decide) (by decide), esz]; omega) ?_
        rw [u.2.2 33 (by decide) (by decide), show (i : Int).toNat = i by omega, eA]
        refine D_wb2 u.1 (by omega) (by omega) (fun b2 ub => ih (i + 1) b2 (by omega) ?_)
        rw [u.2.1, lay_tl h0 t0 ds m22 (by omega) (by omega)] at ub
        exact u.trans ub
      exact ⟨fun y => go _ (by unfold lof; rw [if_neg (by omega)]; omega), fun y => go _ (by unfold lof; rw [if_pos (by omega)]; omega)⟩
  apply q_E_begin_c122
  rw [wI_id (z := (m2 : Int)) (by omega) (by omega)]
  refine ⟨fun y => by rw [wI_0] at y; omega, fun _ => ?_⟩
  rw [show tl + 32 * 0 = tl by omega]
  refine D_wb1 U8.1 (by omega) (by omega) (fun b9 u9 => ?_)
  rw [U8.2.1] at u9
  have e9 : wb (lay (h 3) hd tl m2 (bgn m2 sz (hsh (h 9) (h 33) sz)) (fun _ => 0)) tl 1 193 = lay (h 3) hd tl m2 (bgn m2 sz (hsh (h 9) (h 33) sz)) (wb (fun _ => 0) 0 1 193) := by
    have := lay_tl (w := h 3) (hd := hd) (tl := tl) (m2 := m2) (V := bgn m2 sz (hsh (h 9) (h 33) sz)) (T := fun _ => 0) (o := 0) (v := 193) (n := 1) h0 t0 ds m22 (by decide) (by omega)
    rw [show tl + 0 = tl by omega] at this
    exact this
  rw [e9] at u9
  have U9 := U8.trans u9
  apply q_E_begin_c122
  rw [wI_id (z := (m2 : Int)) (by omega) (by omega), wI_id (z := (0 : Int) + 1) (by omega) (by omega)]
  have tc' := tt0_c mr.1
  refine ⟨fun y => ?_, fun y => ?_⟩
  · have c := c155 sz 0 b9 (by omega)
    refine c ?_
    show Upd h b9 (lay (h 3) hd tl m2 (bgn m2 sz (hsh (h 9) (h 33) sz)) (tt0 m2))
    rw [tc'.1 (by omega)]
    exact U9
  · rw [show tl + 32 * (0 + 1) = tl + 32 by omega]
    refine D_wb1 U9.1 (by omega) (by omega) (fun b10 u10 => ?_)
    rw [U9.2.1, lay_tl h0 t0 ds m22 (by decide) (by omega)] at u10
    have U10 := U9.trans u10
    apply q_E_begin_c122
    rw [wI_id (z := (m2 : Int)) (by omega) (by omega), wI_id (z := (0 : Int) + 1 + 1) (by omega) (by omega)]
    refine ⟨fun y2 => ?_, fun y2 => by omega⟩
    refine c155 sz 0 b10 (by omega) ?_
    show Upd h b10 (lay (h 3) hd tl m2 (bgn m2 sz (hsh (h 9) (h 33) sz)) (tt0 m2))
    rw [tc'.2 (by omega)]
    exact U10
/-- all but the NAME -/
def cpb (w : Nat → Int) (hd att made chg rn fs ln : Int) : Nat → Int := wb (wb (wb (wb (wb (wb (wb w (hd + 4) 2 att) (hd + 8) 4 made) (hd + 12) 4 chg) (hd + 33) 1 (if rn = 0 then 1 else 3)) (hd + 40) 4 ln) (hd + 52) 4 fs) (hd + 56) 4 ln
theorem cpb_lay {w T : Nat → Int} {hd tl att made chg rn fs ln : Int} {m2 sz : Nat} {hs' : Int} (h0 : 0 ≤ hd) : cpb (lay w hd tl m2 (bgn m2 sz hs') T) hd att made chg rn fs ln = lay w hd tl m2 (nh m2 sz hs' att made chg rn fs ln) T := by
  unfold cpb nh
  rw [lay_hd h0 (by decide) (by decide), lay_hd h0 (by decide) (by decide), lay_hd h0 (by decide) (by decide), lay_hd h0 (by decide) (by decide), lay_hd h0 (by decide) (by decide), lay_hd h0 (by decide) (by decide), lay_hd h0 (by decide) (by decide)]
theorem E_copyBody {P : AH → Prop} {hd fm : Int} (dk : Dk h) (h0 : 0 ≤ hd) (h1 : hd + 64 ≤ 13824) (f0 : 0 ≤ fm) (f1 : fm + 64 ≤ 13824) (ds : hd + 64 ≤ fm ∨ fm + 64 ≤ hd) (H : ∀ h', Upd h h' (cpb (h 3) hd (u2 (h 3) (fm + 4)) (u4 (h 3) (fm + 8)) (u4 (h 3) (fm + 12)) (if rd (h 3) (fm + 33) = 3 then 1 else 0) (u4 (h 3) (fm + 52)) (u4 (h 3) (fm + 56))) → P h') : RunsV G 105 [vR 10, vI hd, vI fm] h P := by
  have keep : ∀ (w : Nat → Int) (o : Int) (nn : Nat) (vv : Int), 0 ≤ o → o + nn ≤ 64 → ∀ x, fm ≤ x → x < fm + 64 → rd (wb w (hd + o) nn vv) x = rd w x := fun w o nn vv o0 o1 x x0 x1 => rd_wb_ne (by omega) (by omega) (by omega)
  apply q_E_copyBody
  apply q_E_attributes
  refine D_u2 dk.2.1 (by omega) (by omega) ?_
  apply q_E_setAttributes
  refine D_wb2 dk (by omega) (by omega) (fun b1 u1 => ?_)
  have k1 : ∀ x, fm ≤ x → x < fm + 64 → rd (b1 3) x = rd (h 3) x := fun x x0 x1 => by rw [u1.2.1]; exact keep _ 4 2 _ (by decide) (by decide) x x0 x1
  refine D_get4 u1.1.2.1 (by omega) (by omega) ?_
  apply q_E_setMade
  refine D_wb4 u1.1 (by omega) (by omega) (fun b2 u2 => ?_)
  rw [u4_cg (fun j _ _ => k1 _ (by omega) (by omega)), wb4_mod (w := u4 (h 3) (fm + 8)) (by unfold wI; omega), u1.2.1] at u2
  have k2 : ∀ x, fm ≤ x → x < fm + 64 → rd (b2 3) x = rd (h 3) x := fun x x0 x1 => by rw [u2.2.1, keep _ 8 4 _ (by decide) (by decide) x x0 x1, ← u1.2.1]; exact k1 x x0 x1
  refine D_get4 u2.1.2.1 (by omega) (by omega) ?_
  apply q_E_setChanged
  refine D_wb4 u2.1 (by omega) (by omega) (fun b3 u3 => ?_)
  rw [u4_cg (fun j _ _ => k2 _ (by omega) (by omega)), wb4_mod (w := u4 (h 3) (fm + 12)) (by unfold wI; omega), u2.2.1] at u3
  have k3 : ∀ x, fm ≤ x → x < fm + 64 → rd (b3 3) x = rd (h 3) x := fun x x0 x1 => by rw [u3.2.1, keep _ 12 4 _ (by decide) (by decide) x x0 x1, ← u2.2.1]; exact k2 x x0 x1
  refine E_runB u3.1.2.1 f0 f1 ?_
  rw [k3 _ (by omega) (by omega)]
  apply q_E_first
  refine D_get4 u3.1.2.1 (by omega) (by omega) ?_
  apply q_E_length
  refine D_get4 u3.1.2.1 (by omega) (by omega) ?_
  rw [u4_cg (fun j _ _ => k3 _ (by omega) (by omega)), u4_cg (fun j _ _ => k3 _ (by omega) (by omega))]
  refine E_setStream u3.1 h0 h1 (by split; exact Or.inr rfl; exact Or.inl rfl) (fun b4 u4' => H b4 ?_)
  unfold sst at u4'
  rw [u3.2.1, wb4_mod (v := wI (u4 (h 3) (fm + 56))) (w := u4 (h 3) (fm + 56)) (by unfold wI; omega), wb4_mod (v := wI (u4 (h 3) (fm + 52))) (w := u4 (h 3) (fm + 52)) (by unfold wI; omega), wb4_mod (v := wI (u4 (h 3) (fm + 56))) (w := u4 (h 3) (fm + 56)) (by unfold wI; omega)] at u4'
  exact ((u1.trans u2).trans u3).trans u4'
end BEG
