/-! octets as numbers; the reference's leaves -/
def E (g f : Nat → Int) : Prop := ∀ k, k < 13824 → g k = f k
theorem E.rf (f : Nat → Int) : E f f := fun _ _ => rfl
theorem E.tr {f g e : Nat → Int} (a : E f g) (b : E g e) : E f e := fun k hk => (a k hk).trans (b k hk)
theorem E.sm {f g : Nat → Int} (a : E f g) : E g f := fun k hk => (a k hk).symm
theorem E.rd {f g : Nat → Int} (a : E f g) {x : Int} (h0 : 0 ≤ x) (h1 : x < 13824) : rd f x = rd g x := a x.toNat (by omega)
theorem E.by {f g : Nat → Int} (a : E f g) (b : By f) : By g := fun k hk => by rw [← a k hk]; exact b k hk
def u2 (f : Nat → Int) (x : Int) : Int := rd f x + 256 * rd f (x + 1)
theorem u2_rng {f : Nat → Int} (hd : By f) {x : Int} (h0 : 0 ≤ x) (h1 : x + 1 < 13824) : 0 ≤ u2 f x ∧ u2 f x < 65536 := by
  have b0 := hd.rd h0 (show x < 13824 by omega)
  have b1 := hd.rd (show 0 ≤ x + 1 by omega) h1
  unfold u2
  omega
/-- m octets as a number -/
def lu (f : Nat → Int) : Int → Nat → Int
  | _, 0 => 0
  | a, m + 1 => rd f a + 256 * lu f (a + 1) m
theorem lu_rng {f : Nat → Int} (hf : By f) : ∀ (m : Nat) (a : Int), 0 ≤ a → a + m ≤ 13824 → 0 ≤ lu f a m ∧ lu f a m < 256 ^ m
  | 0, _, _, _ => ⟨Int.le_refl _, by show (0 : Int) < 1; omega⟩
  | m + 1, a, h0, h1 => by
    have i := lu_rng hf m (a + 1) (by omega) (by omega)
    have b := hf.rd h0 (show a < 13824 by omega)
    rw [lu, Int.pow_succ]
    omega
theorem lu_1 (f : Nat → Int) (a : Int) : lu f a 1 = rd f a := by simp only [lu]; omega
theorem lu_2 (f : Nat → Int) (a : Int) : lu f a 2 = u2 f a := by simp only [lu, u2]; omega
theorem lu_4 (f : Nat → Int) (a : Int) : lu f a 4 = u4 f a := by
  simp only [lu, u4]
  rw [show a + 1 + 1 = a + 2 by omega, show a + 2 + 1 = a + 3 by omega]
  omega
theorem lu_8 (f : Nat → Int) (a : Int) : lu f a 8 = u4 f a + 4294967296 * u4 f (a + 4) := by
  simp only [lu, u4]
  rw [show a + 1 + 1 = a + 2 by omega, show a + 2 + 1 = a + 3 by omega, show a + 3 + 1 = a + 4 by omega, show a + 4 + 1 = a + 5 by omega, show a + 5 + 1 = a + 6 by omega, show a + 6 + 1 = a + 7 by omega, show a + 4 + 2 = a + 6 by omega, show a + 4 + 3 = a + 7 by omega]
  omega
/-- n octets from a on are written as a number -/
def wb (f : Nat → Int) (a : Int) (n : Nat) (v : Int) : Nat → Int := fun k => if a.toNat ≤ k ∧ k < a.toNat + n then v / 256 ^ (k - a.toNat) % 256 else f k
theorem wb_0 (f : Nat → Int) (a v : Int) : wb f a 0 v = f := by funext k; unfold wb; rw [if_neg (by omega)]
theorem wb_succ (f : Nat → Int) (a : Int) (n : Nat) (v : Int) (h0 : 0 ≤ a) : wr (wb f a n v) (a + n) (v / 256 ^ n % 256) = wb f a (n + 1) v := by
  funext k
  unfold wb wr
  dsimp only
  by_cases h : k = (a + n).toNat
  · rw [if_pos h, if_pos (by omega), show k - a.toNat = n by omega]
  · rw [if_neg h]
    by_cases h2 : a.toNat ≤ k ∧ k < a.toNat + n
    · rw [if_pos h2, if_pos (by omega)]
    · rw [if_neg h2, if_neg (by omega)]
theorem wb_1 {f : Nat → Int} {a v : Int} (h0 : 0 ≤ a) : wr f a (v % 256) = wb f a 1 v := by
  have := wb_succ f a 0 v h0
  rw [wb_0, show a + ((0 : Nat) : Int) = a by omega, show (256 : Int) ^ 0 = 1 from rfl, Int.ediv_one] at this
  exact this
theorem wb_2 {f : Nat → Int} {a v : Int} (h0 : 0 ≤ a) : wr (wr f a (v % 256)) (a + 1) (v / 256 % 256) = wb f a 2 v := by
  rw [wb_1 h0]
  exact wb_succ f a 1 v h0
theorem wb_4 {f : Nat → Int} {a v : Int} (h0 : 0 ≤ a) : wr4 f a v = wb f a 4 v := by
  unfold wr4
  rw [wb_2 h0]
  have e2 := wb_succ f a 2 v h0
  have e3 := wb_succ f a 3 v h0
  rw [show (256 : Int) ^ 2 = 65536 from rfl] at e2
  rw [show (256 : Int) ^ 3 = 16777216 from rfl] at e3
  rw [← e3, ← e2]
  rfl
theorem By_wb {f : Nat → Int} (h : By f) {a : Int} {n : Nat} {v : Int} : By (wb f a n v) := by
  intro k hk
  unfold wb
  split
  · omega
  · exact h k hk
theorem E_wb {f g : Nat → Int} (h : E f g) (a : Int) (n : Nat) (v : Int) : E (wb f a n v) (wb g a n v) := by
  intro k hk
  unfold wb
  split
  · rfl
  · exact h k hk
theorem rd_wb {f : Nat → Int} {a b : Int} {n : Nat} {v : Int} (ha : 0 ≤ a) (hb : 0 ≤ b) : rd (wb f a n v) b = if a ≤ b ∧ b < a + n then v / 256 ^ (b - a).toNat % 256 else rd f b := by
  unfold rd wb
  by_cases h : a ≤ b ∧ b < a + n
  · rw [if_pos h, if_pos (by omega), show b.toNat - a.toNat = (b - a).toNat by omega]
  · rw [if_neg h, if_neg (by omega)]
theorem rd_wb_ne {f : Nat → Int} {a b : Int} {n : Nat} {v : Int} (ha : 0 ≤ a) (hb : 0 ≤ b) (h : b < a ∨ a + n ≤ b) : rd (wb f a n v) b = rd f b := by rw [rd_wb ha hb, if_neg (by omega)]
theorem u4_wb {f : Nat → Int} {a v : Int} (ha : 0 ≤ a) : u4 (wb f a 4 v) a = v % 4294967296 := by
  unfold u4
  rw [rd_wb ha (by omega), rd_wb ha (by omega), rd_wb ha (by omega), rd_wb ha (by omega), if_pos (by omega), if_pos (by omega), if_pos (by omega), if_pos (by omega), show (a - a).toNat = 0 by omega, show (a + 1 - a).toNat = 1 by omega, show (a + 2 - a).toNat = 2 by omega, show (a + 3 - a).toNat = 3 by omega, show (256 : Int) ^ 0 = 1 from rfl, show (256 : Int) ^ 1 = 256 from rfl, show (256 : Int) ^ 2 = 65536 from rfl, show (256 : Int) ^ 3 = 16777216 from rfl]
  omega
theorem u2_wb {f : Nat → Int} {a v : Int} (ha : 0 ≤ a) : u2 (wb f a 2 v) a = v % 65536 := by
  unfold u2
  rw [rd_wb ha (by omega), rd_wb ha (by omega), if_pos (by omega), if_pos (by omega), show (a - a).toNat = 0 by omega, show (a + 1 - a).toNat = 1 by omega, show (256 : Int) ^ 0 = 1 from rfl, show (256 : Int) ^ 1 = 256 from rfl]
  omega
theorem u4_wb_ne {f : Nat → Int} {a b : Int} {n : Nat} {v : Int} (ha : 0 ≤ a) (hb : 0 ≤ b) (h : b + 4 ≤ a ∨ a + n ≤ b) : u4 (wb f a n v) b = u4 f b := by
  unfold u4
  rw [rd_wb_ne ha (by omega) (by omega), rd_wb_ne ha (by omega) (by omega), rd_wb_ne ha (by omega) (by omega), rd_wb_ne ha (by omega) (by omega)]
theorem u2_wb_ne {f : Nat → Int} {a b : Int} {n : Nat} {v : Int} (ha : 0 ≤ a) (hb : 0 ≤ b) (h : b + 2 ≤ a ∨ a + n ≤ b) : u2 (wb f a n v) b = u2 f b := by
  unfold u2
  rw [rd_wb_ne ha (by omega) (by omega), rd_wb_ne ha (by omega) (by omega)]
/-- sums that turn right -/
def rl2 (s o : Int) : Int := ((s % 2) * 32768 + s / 2 + o) % 65536
def rl4 (s o : Int) : Int := ((s % 2) * 2147483648 + s / 2 + o) % 4294967296
theorem rl2_rng (s o : Int) : 0 ≤ rl2 s o ∧ rl2 s o < 65536 := by unfold rl2; omega
theorem rl4_rng (s o : Int) : 0 ≤ rl4 s o ∧ rl4 s o < 4294967296 := by unfold rl4; omega
def sk (b : Int) (k : Nat) : Prop := b ≠ 0 ∧ (k = 44 ∨ k = 45 ∨ k = 49)
noncomputable def sm4 (b : Int) (f : Nat → Int) (a : Int) : Nat → Int
  | 0 => 0
  | k + 1 => @ite _ (sk b k) (Classical.propDecidable _) (sm4 b f a k) (rl4 (sm4 b f a k) (rd f (a + k)))
theorem sm4_y {b : Int} {f : Nat → Int} {a : Int} {k : Nat} (h : sk b k) : sm4 b f a (k + 1) = sm4 b f a k := by rw [sm4, if_pos h]
theorem sm4_n {b : Int} {f : Nat → Int} {a : Int} {k : Nat} (h : ¬ sk b k) : sm4 b f a (k + 1) = rl4 (sm4 b f a k) (rd f (a + k)) := by rw [sm4, if_neg h]
theorem sm4_rng (b : Int) (f : Nat → Int) (a : Int) : ∀ k : Nat, 0 ≤ sm4 b f a k ∧ sm4 b f a k < 4294967296
  | 0 => by simp only [sm4]; omega
  | k + 1 => by
    by_cases h : sk b k
    · rw [sm4_y h]; exact sm4_rng b f a k
    · rw [sm4_n h]; exact rl4_rng _ _
section ML
variable {G : GG} {h : AH} {f : Nat → Int}
theorem M_get {P : Int → AH → Prop} {a : Int} {n : Nat} (hE : E (ub (h 35)) f) (hn : n ≤ 8) (h0 : 0 ≤ a) (h1 : a + n ≤ 13824) (H : P (wL (lu f a n)) h) : RunsL G 167 [vR 35, vI a, vI (n : Int)] h P := by
  have hf : By f := hE.by (ub_By _)
  apply q_M_get
  have key : ∀ (j m : Nat), j + m = n → Go G (pL P) 167 7 [some (vR 35), some (vI a), none, some (vL (wL (lu f (a + j) m))), none, some (vI ((j : Int) - 1))] [] h := by
    intro j
    induction j with
    | zero =>
      intro m hm
      apply q_M_get_c7
      rw [wI_id (z := ((0 : Nat) : Int) - 1) (by omega) (by omega)]
      refine ⟨fun _ => ?_, fun c => by omega⟩
      rw [show a + ((0 : Nat) : Int) = a by omega, show m = n by omega]
      exact H
    | succ j ih =>
      intro m hm
      apply q_M_get_c7
      have e1 : wI (((j + 1 : Nat) : Int) - 1) = j := by rw [wI_id (by omega) (by omega)]; omega
      have e2 : wI (a + (((j + 1 : Nat) : Int) - 1)) = a + j := by rw [wI_id (by omega) (by omega)]; omega
      rw [e1, e2]
      refine ⟨fun c => by omega, fun _ => ⟨⟨by omega, by omega⟩, ?_⟩⟩
      have r := lu_rng hf m (a + j + 1) (by omega) (by omega)
      have p : (256 : Int) ^ m ≤ 72057594037927936 := by
        rcases (show m = 0 ∨ m = 1 ∨ m = 2 ∨ m = 3 ∨ m = 4 ∨ m = 5 ∨ m = 6 ∨ m = 7 by omega) with rfl | rfl | rfl | rfl | rfl | rfl | rfl | rfl <;> decide
      have b := hf.rd (show 0 ≤ a + j by omega) (show a + j < 13824 by omega)
      have e3 : bA (h 35 (a + j).toNat) 255 = rd f (a + j) := by
        rw [bA_255]
        exact hE (a + j).toNat (by omega)
      have e4 := ih (m + 1) (by omega)
      rw [e3, show a + ((j + 1 : Nat) : Int) = a + j + 1 by omega, wL_id (z := lu f (a + j + 1) m) (by omega) (by omega), wI_id (z := rd f (a + j)) (by omega) (by omega)]
      rw [lu] at e4
      have e5 : bOL (sLL (lu f (a + j + 1) m) 8) (rd f (a + j)) = wL (rd f (a + j) + 256 * lu f (a + j + 1) m) := by
        rw [bOL_comm, show sLL (lu f (a + j + 1) m) 8 = lu f (a + j + 1) m * 256 from rfl, bOL_add _ _ 8 (by decide) b.1 b.2 ⟨lu f (a + j + 1) m, by rw [Int.mul_comm]; rfl⟩, Int.mul_comm]
      rw [e5, show ((j + 1 : Nat) : Int) - 1 + -1 = (j : Int) - 1 by omega]
      exact e4
  have k0 := key n 0 (by omega)
  rw [show lu f (a + n) 0 = 0 from rfl, show wL 0 = 0 from rfl] at k0
  exact k0
theorem M_get1 {P : Int → AH → Prop} {a : Int} (hE : E (ub (h 35)) f) (h0 : 0 ≤ a) (h1 : a < 13824) (H : P (rd f a) h) : RunsL G 167 [vR 35, vI a, vI 1] h P := by
  have b := (hE.by (ub_By _)).rd h0 h1
  refine M_get (n := 1) hE (by decide) h0 (by omega) ?_
  rw [lu_1, wL_id (by omega) (by omega)]
  exact H
theorem M_get2 {P : Int → AH → Prop} {a : Int} (hE : E (ub (h 35)) f) (h0 : 0 ≤ a) (h1 : a + 1 < 13824) (H : P (u2 f a) h) : RunsL G 167 [vR 35, vI a, vI 2] h P := by
  have b := u2_rng (hE.by (ub_By _)) h0 h1
  refine M_get (n := 2) hE (by decide) h0 (by omega) ?_
  rw [lu_2, wL_id (by omega) (by omega)]
  exact H
theorem M_get4 {P : Int → AH → Prop} {a : Int} (hE : E (ub (h 35)) f) (h0 : 0 ≤ a) (h1 : a + 3 < 13824) (H : P (u4 f a) h) : RunsL G 167 [vR 35, vI a, vI 4] h P := by
  have b := u4_rng (hE.by (ub_By _)) h0 h1
  refine M_get (n := 4) hE (by decide) h0 (by omega) ?_
  rw [lu_4, wL_id (by omega) (by omega)]
  exact H
theorem M_get8 {P : Int → AH → Prop} {a : Int} (hE : E (ub (h 35)) f) (h0 : 0 ≤ a) (h1 : a + 7 < 13824) (H : P (wL (u4 f a + 4294967296 * u4 f (a + 4))) h) : RunsL G 167 [vR 35, vI a, vI 8] h P := by
  refine M_get (n := 8) hE (by decide) h0 (by omega) ?_
  rw [lu_8]
  exact H
theorem wL_8 {x y v : Int} (hx : 0 ≤ x ∧ x < 4294967296) (hy : 0 ≤ y ∧ y < 4294967296) (hv : 0 ≤ v ∧ v < 4294967296) : wL (x + 4294967296 * y) = v ↔ x = v ∧ y = 0 := by unfold wL; omega
theorem M_put_35 {P : AH → Prop} {a v : Int} {n : Nat} (h5 : Sb (h 35)) (hn : n ≤ 8) (h0 : 0 ≤ a) (h1 : a + n ≤ 13824) (hv : -9223372036854775808 ≤ v ∧ v < 9223372036854775808) (H : ∀ h', Sb (h' 35) → ub (h' 35) = wb (ub (h 35)) a n v → (∀ o, o ≠ 35 → h' o = h o) → P h') : RunsV G 168 [vR 35, vI a, vI (n : Int), vL v] h P := by
  apply q_M_put_35
  have key : ∀ (m j : Nat) (g : AH), j + m = n → Sb (g 35) → ub (g 35) = wb (ub (h 35)) a j v → (∀ o, o ≠ 35 → g o = h o) → Go G (pV P) 168 3 [some (vR 35), some (vI a), some (vI (n : Int)), some (vL v), none, some (vI (j : Int))] [] g := by
    intro m
    induction m with
    | zero =>
      intro j g hm s e fr
      apply q_M_put_35_c3
      rw [wI_id (z := (n : Int)) (by omega) (by omega), wI_id (z := (j : Int)) (by omega) (by omega)]
      refine ⟨fun _ => H g s ?_ fr, fun c => by omega⟩
      rw [show n = j by omega]
      exact e
    | succ m ih =>
      intro j g hm s e fr
      apply q_M_put_35_c3
      rw [wI_id (z := (n : Int)) (by omega) (by omega), wI_id (z := (j : Int)) (by omega) (by omega), wI_id (z := a + (j : Int)) (by omega) (by omega)]
      refine ⟨fun c => by omega, fun _ => ⟨⟨by omega, by omega⟩, ?_⟩⟩
      rw [show (j : Int) + 1 = ((j + 1 : Nat) : Int) by omega]
      refine ih (j + 1) _ (by omega) (Sb_set s _ (w8_rng _).1 (w8_rng _).2) ?_ (fun o ho => by rw [hs_o _ _ _ _ _ ho]; exact fr o ho)
      rw [ub_set, e, w8_mod, w8_mod]
      have e1 : sRL v (8 * (j : Int)) % 256 = v / 256 ^ j % 256 := by
        unfold sRL
        rw [wL_id hv.1 hv.2]
        rcases (show j = 0 ∨ j = 1 ∨ j = 2 ∨ j = 3 ∨ j = 4 ∨ j = 5 ∨ j = 6 ∨ j = 7 by omega) with rfl | rfl | rfl | rfl | rfl | rfl | rfl | rfl <;> rfl
      rw [e1]
      exact wb_succ _ _ _ _ h0
  exact key n 0 h (by omega) h5 (wb_0 _ _ _).symm (fun _ _ => rfl)
theorem M_put_36 {P : AH → Prop} {a v : Int} {n : Nat} (h5 : Sb (h 36)) (hn : n ≤ 8) (h0 : 0 ≤ a) (h1 : a + n ≤ 13824) (hv : -9223372036854775808 ≤ v ∧ v < 9223372036854775808) (H : ∀ h', Sb (h' 36) → ub (h' 36) = wb (ub (h 36)) a n v → (∀ o, o ≠ 36 → h' o = h o) → P h') : RunsV G 168 [vR 36, vI a, vI (n : Int), vL v] h P := by
  apply q_M_put_36
  have key : ∀ (m j : Nat) (g : AH), j + m = n → Sb (g 36) → ub (g 36) = wb (ub (h 36)) a j v → (∀ o, o ≠ 36 → g o = h o) → Go G (pV P) 168 3 [some (vR 36), some (vI a), some (vI (n : Int)), some (vL v), none, some (vI (j : Int))] [] g := by
    intro m
    induction m with
    | zero =>
      intro j g hm s e fr
      apply q_M_put_36_c3
      rw [wI_id (z := (n : Int)) (by omega) (by omega), wI_id (z := (j : Int)) (by omega) (by omega)]
      refine ⟨fun _ => H g s ?_ fr, fun c => by omega⟩
      rw [show n = j by omega]
      exact e
    | succ m ih =>
      intro j g hm s e fr
      apply q_M_put_36_c3
      rw [wI_id (z := (n : Int)) (by omega) (by omega), wI_id (z := (j : Int)) (by omega) (by omega), wI_id (z := a + (j : Int)) (by omega) (by omega)]
      refine ⟨fun c => by omega, fun _ => ⟨⟨by omega, by omega⟩, ?_⟩⟩
      rw [show (j : Int) + 1 = ((j + 1 : Nat) : Int) by omega]
      refine ih (j + 1) _ (by omega) (Sb_set s _ (w8_rng _).1 (w8_rng _).2) ?_ (fun o ho => by rw [hs_o _ _ _ _ _ ho]; exact fr o ho)
      rw [ub_set, e, w8_mod, w8_mod]
      have e1 : sRL v (8 * (j : Int)) % 256 = v / 256 ^ j % 256 := by
        unfold sRL
        rw [wL_id hv.1 hv.2]
        rcases (show j = 0 ∨ j = 1 ∨ j = 2 ∨ j = 3 ∨ j = 4 ∨ j = 5 ∨ j = 6 ∨ j = 7 by omega) with rfl | rfl | rfl | rfl | rfl | rfl | rfl | rfl <;> rfl
      rw [e1]
      exact wb_succ _ _ _ _ h0
  exact key n 0 h (by omega) h5 (wb_0 _ _ _).symm (fun _ _ => rfl)
theorem M_isCluster {P : Int → AH → Prop} {c : Int} (hn : 16 ≤ h 34 0 ∧ h 34 0 ≤ 100) (hc : -9223372036854775808 ≤ c ∧ c < 9223372036854775808) (H1 : 2 ≤ c ∧ c ≤ h 34 0 + 1 → P 1 h) (H0 : ¬ (2 ≤ c ∧ c ≤ h 34 0 + 1) → P 0 h) : RunsI G 170 [vR 34, vL c] h P := by
  apply q_M_isCluster
  rw [wI_id (z := h 34 0 + 1) (by omega) (by omega)]
  exact M_in hc (by omega) (by omega) (fun a b => ⟨Or.inr rfl, H1 ⟨a, b⟩⟩) (fun a => ⟨Or.inl rfl, H0 a⟩)
/-- the FAT of a CLUSTER -/
def ft (f : Nat → Int) (c : Int) : Int := u4 f (512 + 4 * c)
theorem ft_rng {f : Nat → Int} (hf : By f) {c : Int} (h0 : 0 ≤ c) (h1 : c ≤ 101) : 0 ≤ ft f c ∧ ft f c < 4294967296 := u4_rng hf (by omega) (by omega)
theorem M_fat {P : Int → AH → Prop} {c : Int} (hE : E (ub (h 35)) f) (h0 : 0 ≤ c) (h1 : c ≤ 101) (H : P (ft f c) h) : RunsL G 171 [vR 34, vR 35, vI c] h P := by
  apply q_M_fat
  exact M_get4 hE (by omega) (by omega) H
theorem M_wantFat {P : AH → Prop} {c v : Int} (h5 : Sb (h 36)) (h0 : 0 ≤ c) (h1 : c ≤ 101) (hv : -9223372036854775808 ≤ v ∧ v < 9223372036854775808) (H : ∀ h', Sb (h' 36) → ub (h' 36) = wb (ub (h 36)) (512 + 4 * c) 4 v → (∀ o, o ≠ 36 → h' o = h o) → P h') : RunsV G 172 [vR 34, vI c, vL v] h P := by
  apply q_M_wantFat
  exact M_put_36 (n := 4) h5 (by decide) (by omega) (by omega) hv H
theorem M_roll2 {P : Int → AH → Prop} {s o : Int} (hs9 : 0 ≤ s ∧ s < 65536) (ho : 0 ≤ o ∧ o < 65536) (H : P (rl2 s o) h) : RunsL G 175 [vL s, vI o, vL 32768, vL 65535] h P := by
  apply q_M_rolled
  rw [bAL_1, wL_id (z := s % 2) (by omega) (by omega), wL_id (z := s) (by omega) (by omega), wI_id (z := o) (by omega) (by omega), tdiv_pos hs9.1, bAL_65535, bAL_65535]
  unfold rl2 at H
  refine ⟨fun c => ⟨by decide, ?_⟩, fun c => ⟨by decide, ?_⟩⟩
  · rw [c, Int.one_mul] at H; exact H
  · rw [show s % 2 = 0 by omega, Int.zero_mul] at H; exact H
theorem M_roll4 {P : Int → AH → Prop} {s o : Int} (hs9 : 0 ≤ s ∧ s < 4294967296) (ho : 0 ≤ o ∧ o < 65536) (H : P (rl4 s o) h) : RunsL G 175 [vL s, vI o, vL 2147483648, vL 4294967295] h P := by
  apply q_M_rolled
  rw [bAL_1, wL_id (z := s % 2) (by omega) (by omega), wL_id (z := s) (by omega) (by omega), wI_id (z := o) (by omega) (by omega), tdiv_pos hs9.1, bAL_u32, bAL_u32]
  unfold rl4 at H
  refine ⟨fun c => ⟨by decide, ?_⟩, fun c => ⟨by decide, ?_⟩⟩
  · rw [c, Int.one_mul] at H; exact H
  · rw [show s % 2 = 0 by omega, Int.zero_mul] at H; exact H
theorem oct (hE : E (ub (h 35)) f) {x : Int} (h0 : 0 ≤ x) (h1 : x < 13824) : bA (h 35 x.toNat) 255 = rd f x := by
  rw [bA_255]; exact hE x.toNat (by omega)
theorem M_sum4 {P : Int → AH → Prop} {a b : Int} {n : Nat} (hE : E (ub (h 35)) f) (h0 : 0 ≤ a) (h1 : a + n ≤ 13824) (hb : b = 0 ∨ b = 1) (H : P (sm4 b f a n) h) : RunsL G 176 [vR 35, vI a, vI (n : Int), vI b] h P := by
  have hf : By f := hE.by (ub_By _)
  apply q_M_sum4
  have key : ∀ (m j : Nat), j + m = n → Go G (pL P) 176 6 [some (vR 35), some (vI a), some (vI (n : Int)), some (vI b), some (vL (sm4 b f a j)), none, some (vI (j : Int))] [] h := by
    intro m
    induction m with
    | zero =>
      intro j hm
      apply q_M_sum4_c6
      rw [wI_id (z := (n : Int)) (by omega) (by omega), wI_id (z := (j : Int)) (by omega) (by omega)]
      refine ⟨fun _ => ?_, fun c => by omega⟩
      rw [show n = j by omega] at H
      exact H
    | succ m ih =>
      intro j hm
      apply q_M_sum4_c6
      have bb := hf.rd (show 0 ≤ a + j by omega) (show a + j < 13824 by omega)
      have nx := ih (j + 1) (by omega)
      rw [show ((j + 1 : Nat) : Int) = (j : Int) + 1 by omega] at nx
      rw [wI_id (z := (n : Int)) (by omega) (by omega), wI_id (z := (j : Int)) (by omega) (by omega), wI_id (z := a + (j : Int)) (by omega) (by omega), wI_id (z := b) (by omega) (by omega), oct hE (by omega) (by omega)]
      refine ⟨fun c => by omega, fun _ => ?_⟩
      by_cases k : sk b j
      · rw [sm4_y k] at nx
        unfold sk at k
        refine ⟨fun c => by omega, fun _ => ⟨fun _ => nx, fun c1 => ⟨fun _ => nx, fun c2 => ⟨fun _ => nx, fun c3 => by omega⟩⟩⟩⟩
      · rw [sm4_n k] at nx
        unfold sk at k
        have st : RunsL G 175 [vL (sm4 b f a j), vI (rd f (a + j)), vL 2147483648, vL 4294967295] h (fun r1 h1 => Go G (pL P) 176 6 [some (vR 35), some (vI a), some (vI (n : Int)), some (vI b), some (vL r1), none, some (vI ((j : Int) + 1))] [] h1) := M_roll4 (sm4_rng _ _ _ _) (by omega) nx
        exact ⟨fun _ => ⟨⟨by omega, by omega⟩, st⟩, fun c0 => ⟨fun c => by omega, fun c1 => ⟨fun c => by omega, fun c2 => ⟨fun c => by omega, fun c3 => ⟨⟨by omega, by omega⟩, st⟩⟩⟩⟩⟩
  exact key n 0 (by omega)
theorem M_beginWrite {P : AH → Prop} (h5 : Sb (h 35)) (h6 : Sb (h 36)) (H : ∀ h', Sb (h' 36) → E (ub (h' 36)) (ub (h 35)) → (∀ o, o ≠ 36 → h' o = h o) → P h') : RunsV G 177 [vR 34] h P := by
  apply q_M_beginWrite
  have key : ∀ (m j : Nat) (g : AH), j + m = 13824 → Sb (g 36) → (∀ k, k < j → ub (g 36) k = ub (h 35) k) → (∀ o, o ≠ 36 → g o = h o) → Go G (pV P) 177 2 [some (vR 34), some (vI (j : Int))] [] g := by
    intro m
    induction m with
    | zero =>
      intro j g hm s e fr
      apply q_M_beginWrite_c2
      rw [wI_id (z := (j : Int)) (by omega) (by omega)]
      refine ⟨fun _ => H g s (fun k hk => e k (by omega)) fr, fun c => by omega⟩
    | succ m ih =>
      intro j g hm s e fr
      apply q_M_beginWrite_c2
      rw [wI_id (z := (j : Int)) (by omega) (by omega)]
      refine ⟨fun c => by omega, fun _ => ⟨⟨by omega, by omega⟩, ⟨by omega, by omega⟩, ?_⟩⟩
      rw [show (j : Int) + 1 = ((j + 1 : Nat) : Int) by omega]
      refine ih (j + 1) _ (by omega) (Sb_set s _ (w8_rng _).1 (w8_rng _).2) (fun k hk => ?_) (fun o ho => by rw [hs_o _ _ _ _ _ ho]; exact fr o ho)
      rw [ub_set, w8_mod]
      unfold wr
      by_cases q : k = (j : Int).toNat
      · rw [if_pos q, fr 35 (by decide), q]; rfl
      · rw [if_neg q]; exact e k (by omega)
  exact key 13824 0 h (by omega) h6 (fun k hk => by omega) (fun _ _ => rfl)
theorem M_isZero {P : Int → AH → Prop} {x y : Int} (h5 : Sb (h 35)) (hE : E (ub (h 35)) f) (h0 : 0 ≤ x) (hxy : x ≤ y) (h1 : y ≤ 13824) (H1 : zer f x y → P 1 h) (H0 : ¬ zer f x y → P 0 h) : RunsI G 190 [vR 34, vI x, vI y] h P := by
  apply q_M_isZero
  have key : ∀ (m : Nat) (j z : Int), j + m = y → x ≤ j → ((z = 1 ∧ ∀ a, x ≤ a → a < j → rd f a = 0) ∨ (z = 0 ∧ ¬ zer f x y)) → Go G (pI P) 190 5 [some (vR 34), none, some (vI y), some (vI z), some (vI j)] [] h := by
    intro m
    induction m with
    | zero =>
      intro j z hm hj hz
      apply q_M_isZero_c5
      rw [wI_id (z := y) (by omega) (by omega), wI_id (z := j) (by omega) (by omega)]
      refine ⟨fun _ => ⟨by omega, ?_⟩, fun c => by omega⟩
      rcases hz with ⟨e, q⟩ | ⟨e, q⟩ <;> rw [e]
      · exact H1 (fun a b c => q a b (by omega))
      · exact H0 q
    | succ m ih =>
      intro j z hm hj hz
      apply q_M_isZero_c5
      rw [wI_id (z := y) (by omega) (by omega), wI_id (z := j) (by omega) (by omega)]
      have s := h5 j.toNat (by omega)
      have e1 : h 35 j.toNat % 256 = rd f j := hE j.toNat (by omega)
      rw [wI_id (z := h 35 j.toNat) (by omega) (by omega)]
      refine ⟨fun c => by omega, fun _ => ⟨⟨by omega, by omega⟩, fun c => ?_, fun c => ?_⟩⟩
      · refine ih (j + 1) _ (by omega) (by omega) ?_
        rcases hz with ⟨e, q⟩ | ⟨e, q⟩ <;> rw [e]
        · refine Or.inl ⟨by decide, fun a b c2 => ?_⟩
          by_cases z : a = j
          · rw [z]; omega
          · exact q a b (by omega)
        · exact Or.inr ⟨by decide, q⟩
      · refine ih (j + 1) _ (by omega) (by omega) (Or.inr ⟨?_, fun q => ?_⟩)
        · rcases hz with ⟨e, q⟩ | ⟨e, q⟩ <;> rw [e] <;> decide
        · have := q j hj (by omega)
          omega
  exact key (y - x).toNat x 1 (by omega) (by omega) (Or.inl ⟨rfl, fun a b c => by omega⟩)
/-- where the ENTRY e of a row of CLUSTERS lies -/
def ea (r : Nat → Int) (e : Int) : Int := ca (r (e / 4).toNat) + 32 * (e % 4)
theorem M_entryAt {P : Int → AH → Prop} {e : Int} (h0 : 0 ≤ e) (h1 : e < 408) (H : P (ea (h 39) e) h) : RunsI G 197 [vR 34, vI e] h P := by
  apply q_M_entryAt
  rw [wI_id (z := e) (by omega) (by omega), tdiv_pos h0, tmod_pos h0, wI_id (z := e / 4) (by omega) (by omega)]
  refine ⟨by decide, ⟨by omega, by omega⟩, ?_⟩
  apply q_M_clusterAt
  exact ⟨by decide, H⟩
theorem M_typeOf {P : Int → AH → Prop} {e : Int} (hE : E (ub (h 35)) f) (h0 : 0 ≤ e) (h1 : e < 408) (ha : 2 ≤ h 39 (e / 4).toNat ∧ h 39 (e / 4).toNat ≤ 101) (H : P (rd f (ea (h 39) e)) h) : RunsI G 198 [vR 34, vI e] h P := by
  apply q_M_typeOf
  refine M_entryAt h0 h1 ?_
  have e1 : wI (ea (h 39) e) = ea (h 39) e := wI_id (by unfold ea ca; omega) (by unfold ea ca; omega)
  rw [e1, oct hE (by unfold ea ca; omega) (by unfold ea ca; omega)]
  exact ⟨by unfold ea ca; omega, H⟩
end ML
