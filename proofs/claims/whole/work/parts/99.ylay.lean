/-! a new SET is laid -/
def lay (w : Nat → Int) (hd tl : Int) (m2 : Nat) (V T : Nat → Int) : Nat → Int := fun k => if hd.toNat ≤ k ∧ k < hd.toNat + 64 then V (k - hd.toNat) else if tl.toNat ≤ k ∧ k < tl.toNat + 32 * m2 then T (k - tl.toNat) else w k
section LAY
variable {w : Nat → Int} {hd tl : Int} {m2 : Nat} {V T V' T' : Nat → Int}
theorem lay_hd {o v : Int} {n : Nat} (h0 : 0 ≤ hd) (o0 : 0 ≤ o) (o1 : o + n ≤ 64) : wb (lay w hd tl m2 V T) (hd + o) n v = lay w hd tl m2 (wb V o n v) T := by
  funext k
  unfold wb lay
  by_cases c : hd.toNat ≤ k ∧ k < hd.toNat + 64
  · rw [if_pos c, if_pos c]
    dsimp only
    by_cases c2 : o.toNat ≤ k - hd.toNat ∧ k - hd.toNat < o.toNat + n
    · rw [if_pos (by omega), if_pos c2, show k - (hd + o).toNat = k - hd.toNat - o.toNat by omega]
    · rw [if_neg (by omega), if_neg c2]
  · rw [if_neg c, if_neg c, if_neg (by omega)]
theorem lay_tl {o v : Int} {n : Nat} (h0 : 0 ≤ hd) (t0 : 0 ≤ tl) (ds : hd + 64 ≤ tl ∨ tl + 64 ≤ hd) (mm2 : m2 ≤ 2) (o0 : 0 ≤ o) (o1 : o + n ≤ 32 * (m2 : Int)) : wb (lay w hd tl m2 V T) (tl + o) n v = lay w hd tl m2 V (wb T o n v) := by
  funext k
  unfold wb lay
  by_cases c : hd.toNat ≤ k ∧ k < hd.toNat + 64
  · rw [if_pos c, if_pos c, if_neg (by omega)]
  · rw [if_neg c, if_neg c]
    by_cases c3 : tl.toNat ≤ k ∧ k < tl.toNat + 32 * m2
    · rw [if_pos c3, if_pos c3]
      dsimp only
      by_cases c2 : o.toNat ≤ k - tl.toNat ∧ k - tl.toNat < o.toNat + n
      · rw [if_pos (by omega), if_pos c2, show k - (tl + o).toNat = k - tl.toNat - o.toNat by omega]
      · rw [if_neg (by omega), if_neg c2]
    · rw [if_neg c3, if_neg c3, if_neg (by omega)]
theorem lay_0 (h0 : 0 ≤ hd) (t0 : 0 ≤ tl) (ds : hd + 64 ≤ tl ∨ tl + 64 ≤ hd) (mm2 : m2 ≤ 2) : fil (fil w hd 64 0) tl (32 * m2) 0 = lay w hd tl m2 (fun _ => 0) (fun _ => 0) := by
  funext k
  unfold fil lay
  by_cases c : hd.toNat ≤ k ∧ k < hd.toNat + 64
  · rw [if_neg (by omega), if_pos c, if_pos c]
  · rw [if_neg c, if_neg c]
theorem lay_cg (a : ∀ k, k < 64 → V k = V' k) (b : ∀ k, k < 32 * m2 → T k = T' k) : lay w hd tl m2 V T = lay w hd tl m2 V' T' := by
  funext k
  unfold lay
  by_cases c : hd.toNat ≤ k ∧ k < hd.toNat + 64
  · rw [if_pos c, if_pos c]; exact a _ (by omega)
  · rw [if_neg c, if_neg c]
    by_cases c3 : tl.toNat ≤ k ∧ k < tl.toNat + 32 * m2
    · rw [if_pos c3, if_pos c3]; exact b _ (by omega)
    · rw [if_neg c3, if_neg c3]
theorem E_lay {w' : Nat → Int} (a : E w w') : E (lay w hd tl m2 V T) (lay w' hd tl m2 V T) := fun k hk => by
  unfold lay
  split
  · rfl
  · split
    · rfl
    · exact a k hk
theorem rd_lay_h {x : Int} (h0 : 0 ≤ hd) (x0 : 0 ≤ x) (x1 : x < 64) : rd (lay w hd tl m2 V T) (hd + x) = rd V x := by
  unfold rd lay
  rw [if_pos (by omega), show (hd + x).toNat - hd.toNat = x.toNat by omega]
theorem rd_lay_t {x : Int} (h0 : 0 ≤ hd) (t0 : 0 ≤ tl) (ds : hd + 64 ≤ tl ∨ tl + 64 ≤ hd) (mm2 : m2 ≤ 2) (x0 : 0 ≤ x) (x1 : x < 32 * (m2 : Int)) : rd (lay w hd tl m2 V T) (tl + x) = rd T x := by
  unfold rd lay
  rw [if_neg (by omega), if_pos (by omega), show (tl + x).toNat - tl.toNat = x.toNat by omega]
theorem rd_lay_n {x : Int} (h0 : 0 ≤ hd) (t0 : 0 ≤ tl) (x0 : 0 ≤ x) (n1 : ¬ (hd ≤ x ∧ x < hd + 64)) (n2 : ¬ (tl ≤ x ∧ x < tl + 32 * (m2 : Int))) : rd (lay w hd tl m2 V T) x = rd w x := by
  unfold rd lay
  rw [if_neg (by omega), if_neg (by omega)]
theorem By_lay (h : By w) (a : ∀ k, k < 64 → 0 ≤ V k ∧ V k < 256) (b : ∀ k, k < 32 * m2 → 0 ≤ T k ∧ T k < 256) : By (lay w hd tl m2 V T) := fun k hk => by
  unfold lay
  split
  · exact a _ (by omega)
  · split
    · exact b _ (by omega)
    · exact h k hk
end LAY
/-- head and tail of a new SET -/
def bgn (m2 sz hs' : Int) : Nat → Int := wb (wb (wb (wb (wb (wb (fun _ => 0) 0 1 133) 1 1 (1 + m2)) 32 1 192) 33 1 1) 35 1 sz) 36 2 hs'
def nh (m2 sz hs' att made chg rn fs ln : Int) : Nat → Int := wb (wb (wb (wb (wb (wb (wb (bgn m2 sz hs') 4 2 att) 8 4 made) 12 4 chg) 33 1 (if rn = 0 then 1 else 3)) 40 4 ln) 52 4 fs) 56 4 ln
def lof (i : Int) : Int := 2 * i + (if i < 15 then 2 else 4)
def tlt (T nm : Nat → Int) : Nat → Nat → Int
  | 0 => T
  | i + 1 => wb (tlt T nm i) (lof (i : Int)) 2 (nm i)
def tt0 (m2 : Nat) : Nat → Int := if m2 = 2 then wb (wb (fun _ => 0) 0 1 193) 32 1 193 else wb (fun _ => 0) 0 1 193
section NEWSET
variable {m2 sz hs' att made chg rn fs ln : Int}
theorem By_z : By (fun _ => 0) := fun _ _ => ⟨by show (0 : Int) ≤ 0; decide, by show (0 : Int) < 256; decide⟩
theorem By_bgn : By (bgn m2 sz hs') := By_wb (By_wb (By_wb (By_wb (By_wb (By_wb By_z)))))
theorem By_nh : By (nh m2 sz hs' att made chg rn fs ln) := By_wb (By_wb (By_wb (By_wb (By_wb (By_wb (By_wb By_bgn))))))
theorem By_tlt {T nm : Nat → Int} (h : By T) : ∀ i, By (tlt T nm i)
  | 0 => h
  | i + 1 => By_wb (By_tlt h i)
theorem By_tt0 {m : Nat} : By (tt0 m) := by
  unfold tt0
  split
  · exact By_wb (By_wb By_z)
  · exact By_wb By_z
theorem lof_rng {i : Int} (h0 : 0 ≤ i) (h1 : i < 30) : 2 ≤ lof i ∧ lof i + 2 ≤ 64 ∧ (i < 15 → lof i + 2 ≤ 32) ∧ (15 ≤ i → 34 ≤ lof i) := by unfold lof; split <;> omega
theorem lof_ne {i j : Int} (h : i < j) : lof i + 2 ≤ lof j := by unfold lof; split <;> split <;> omega
theorem tlt_out {T nm : Nat → Int} {x : Int} (x0 : 0 ≤ x) : ∀ s : Nat, (∀ i : Nat, i < s → x < lof i ∨ lof i + 2 ≤ x) → rd (tlt T nm s) x = rd T x
  | 0, _ => rfl
  | s + 1, h => by
    have q := h s (by omega)
    have l : 0 ≤ lof (s : Int) := by unfold lof; split <;> omega
    rw [tlt, rd_wb_ne l x0 (by omega)]
    exact tlt_out x0 s (fun i hi => h i (by omega))
theorem tlt_in {T nm : Nat → Int} : ∀ s : Nat, ∀ i : Nat, i < s → u2 (tlt T nm s) (lof i) = nm i % 65536
  | 0, i, hi => absurd hi (Nat.not_lt_zero _)
  | s + 1, i, hi => by
    have l : 0 ≤ lof (s : Int) := by unfold lof; split <;> omega
    have li : 0 ≤ lof (i : Int) := by unfold lof; split <;> omega
    by_cases z : i = s
    · rw [z, tlt, u2_wb l]
    · have := lof_ne (show (i : Int) < (s : Int) by omega)
      rw [tlt, u2_wb_ne l li (by omega)]
      exact tlt_in s i (by omega)
theorem tlt_comm {T nm : Nat → Int} {a v : Int} (ha : a = 0 ∨ a = 32) : ∀ s : Nat, s ≤ 30 → tlt (wb T a 1 v) nm s = wb (tlt T nm s) a 1 v
  | 0, _ => rfl
  | s + 1, h => by
    have l := lof_rng (i := (s : Int)) (by omega) (by omega)
    rw [tlt, tlt_comm ha s (by omega), tlt, wb_comm (by omega) (by omega)]
    omega
/-- the order in which a plain file's head is laid -/
theorem nh_file {tm : Int} : ∀ k, k < 64 → wb (wb (bgn m2 sz hs') 8 4 tm) 12 4 tm k = nh m2 sz hs' 0 tm tm 0 0 0 k
  | 0, _ => rfl
  | 1, _ => rfl
  | 2, _ => rfl
  | 3, _ => rfl
  | 4, _ => rfl
  | 5, _ => rfl
  | 6, _ => rfl
  | 7, _ => rfl
  | 8, _ => rfl
  | 9, _ => rfl
  | 10, _ => rfl
  | 11, _ => rfl
  | 12, _ => rfl
  | 13, _ => rfl
  | 14, _ => rfl
  | 15, _ => rfl
  | 16, _ => rfl
  | 17, _ => rfl
  | 18, _ => rfl
  | 19, _ => rfl
  | 20, _ => rfl
  | 21, _ => rfl
  | 22, _ => rfl
  | 23, _ => rfl
  | 24, _ => rfl
  | 25, _ => rfl
  | 26, _ => rfl
  | 27, _ => rfl
  | 28, _ => rfl
  | 29, _ => rfl
  | 30, _ => rfl
  | 31, _ => rfl
  | 32, _ => rfl
  | 33, _ => rfl
  | 34, _ => rfl
  | 35, _ => rfl
  | 36, _ => rfl
  | 37, _ => rfl
  | 38, _ => rfl
  | 39, _ => rfl
  | 40, _ => rfl
  | 41, _ => rfl
  | 42, _ => rfl
  | 43, _ => rfl
  | 44, _ => rfl
  | 45, _ => rfl
  | 46, _ => rfl
  | 47, _ => rfl
  | 48, _ => rfl
  | 49, _ => rfl
  | 50, _ => rfl
  | 51, _ => rfl
  | 52, _ => rfl
  | 53, _ => rfl
  | 54, _ => rfl
  | 55, _ => rfl
  | 56, _ => rfl
  | 57, _ => rfl
  | 58, _ => rfl
  | 59, _ => rfl
  | 60, _ => rfl
  | 61, _ => rfl
  | 62, _ => rfl
  | 63, _ => rfl
  | n + 64, h => by omega
theorem nh_dir {tm fs' : Int} : ∀ k, k < 64 → wb (wb (wb (wb (wb (wb (wb (bgn m2 sz hs') 8 4 tm) 12 4 tm) 4 2 16) 33 1 3) 40 4 128) 52 4 fs') 56 4 128 k = nh m2 sz hs' 16 tm tm 1 fs' 128 k
  | 0, _ => rfl
  | 1, _ => rfl
  | 2, _ => rfl
  | 3, _ => rfl
  | 4, _ => rfl
  | 5, _ => rfl
  | 6, _ => rfl
  | 7, _ => rfl
  | 8, _ => rfl
  | 9, _ => rfl
  | 10, _ => rfl
  | 11, _ => rfl
  | 12, _ => rfl
  | 13, _ => rfl
  | 14, _ => rfl
  | 15, _ => rfl
  | 16, _ => rfl
  | 17, _ => rfl
  | 18, _ => rfl
  | 19, _ => rfl
  | 20, _ => rfl
  | 21, _ => rfl
  | 22, _ => rfl
  | 23, _ => rfl
  | 24, _ => rfl
  | 25, _ => rfl
  | 26, _ => rfl
  | 27, _ => rfl
  | 28, _ => rfl
  | 29, _ => rfl
  | 30, _ => rfl
  | 31, _ => rfl
  | 32, _ => rfl
  | 33, _ => rfl
  | 34, _ => rfl
  | 35, _ => rfl
  | 36, _ => rfl
  | 37, _ => rfl
  | 38, _ => rfl
  | 39, _ => rfl
  | 40, _ => rfl
  | 41, _ => rfl
  | 42, _ => rfl
  | 43, _ => rfl
  | 44, _ => rfl
  | 45, _ => rfl
  | 46, _ => rfl
  | 47, _ => rfl
  | 48, _ => rfl
  | 49, _ => rfl
  | 50, _ => rfl
  | 51, _ => rfl
  | 52, _ => rfl
  | 53, _ => rfl
  | 54, _ => rfl
  | 55, _ => rfl
  | 56, _ => rfl
  | 57, _ => rfl
  | 58, _ => rfl
  | 59, _ => rfl
  | 60, _ => rfl
  | 61, _ => rfl
  | 62, _ => rfl
  | 63, _ => rfl
  | n + 64, h => by omega
/-- the reference's order -/
theorem nh_ref : ∀ k, k < 64 → wb (wb (wb (wb (wb (wb (wb (wb (wb (wb (wb (wb (fun _ => 0) 0 1 133) 1 1 (1 + m2)) 4 2 att) 8 4 made) 12 4 chg) 32 1 192) 35 1 sz) 36 2 hs') 33 1 (if rn = 0 then 1 else 3)) 40 4 ln) 52 4 fs) 56 4 ln k = nh m2 sz hs' att made chg rn fs ln k
  | 0, _ => rfl
  | 1, _ => rfl
  | 2, _ => rfl
  | 3, _ => rfl
  | 4, _ => rfl
  | 5, _ => rfl
  | 6, _ => rfl
  | 7, _ => rfl
  | 8, _ => rfl
  | 9, _ => rfl
  | 10, _ => rfl
  | 11, _ => rfl
  | 12, _ => rfl
  | 13, _ => rfl
  | 14, _ => rfl
  | 15, _ => rfl
  | 16, _ => rfl
  | 17, _ => rfl
  | 18, _ => rfl
  | 19, _ => rfl
  | 20, _ => rfl
  | 21, _ => rfl
  | 22, _ => rfl
  | 23, _ => rfl
  | 24, _ => rfl
  | 25, _ => rfl
  | 26, _ => rfl
  | 27, _ => rfl
  | 28, _ => rfl
  | 29, _ => rfl
  | 30, _ => rfl
  | 31, _ => rfl
  | 32, _ => rfl
  | 33, _ => rfl
  | 34, _ => rfl
  | 35, _ => rfl
  | 36, _ => rfl
  | 37, _ => rfl
  | 38, _ => rfl
  | 39, _ => rfl
  | 40, _ => rfl
  | 41, _ => rfl
  | 42, _ => rfl
  | 43, _ => rfl
  | 44, _ => rfl
  | 45, _ => rfl
  | 46, _ => rfl
  | 47, _ => rfl
  | 48, _ => rfl
  | 49, _ => rfl
  | 50, _ => rfl
  | 51, _ => rfl
  | 52, _ => rfl
  | 53, _ => rfl
  | 54, _ => rfl
  | 55, _ => rfl
  | 56, _ => rfl
  | 57, _ => rfl
  | 58, _ => rfl
  | 59, _ => rfl
  | 60, _ => rfl
  | 61, _ => rfl
  | 62, _ => rfl
  | 63, _ => rfl
  | n + 64, h => by omega
end NEWSET
