/-! CLUSTERS that come: what FAT and bits say then -/
def app (r : Nat → Int) (K : Nat) (s : Nat → Int) : Nat → Int := fun i => if i < K then r i else s (i - K)
section OFT
variable {w r s : Nat → Int} {mp X : Int} {K k : Nat} {wr' run : Int}
theorem ft_wb {c c' v : Int} (c0 : 0 ≤ c) (d0 : 0 ≤ c') : ft (wb w (512 + 4 * c) 4 v) c' = if c' = c then v % 4294967296 else ft w c' := by
  unfold ft
  by_cases z : c' = c
  · rw [if_pos z, z, u4_wb (by omega)]
  · rw [if_neg z, u4_wb_ne (by omega) (by omega) (by omega)]
theorem fo_out {c : Int} (c0 : 0 ≤ c) : ∀ m : Nat, (∀ i, i < m → 0 ≤ r i ∧ c ≠ r i) → ft (fo w r m) c = ft w c
  | 0, _ => rfl
  | m + 1, h => by
    have q := h m (by omega)
    rw [fo, ft_wb q.1 c0, if_neg q.2]
    exact fo_out c0 m (fun i hi => h i (by omega))
theorem fo_in : ∀ m : Nat, (∀ i, i ≤ m → 0 ≤ r i ∧ r i ≤ 101) → (∀ i j, i < j → j ≤ m → r i ≠ r j) → ∀ i, i < m → ft (fo w r m) (r i) = r (i + 1)
  | 0, _, _, i, hi => absurd hi (Nat.not_lt_zero _)
  | m + 1, h, d, i, hi => by
    have q := h m (by omega)
    have qi := h i (by omega)
    have q1 := h (i + 1) (by omega)
    rw [fo, ft_wb q.1 qi.1]
    by_cases z : i = m
    · rw [z] at q1 ⊢
      rw [if_pos rfl]
      omega
    · rw [if_neg (d i m (by omega) (by omega))]
      exact fo_in m (fun j hj => h j (by omega)) (fun a b ab bm => d a b ab (by omega)) i (by omega)
theorem fo_rd {x : Int} (x0 : 1024 ≤ x) : ∀ m : Nat, (∀ i, i < m → 0 ≤ r i ∧ r i ≤ 101) → rd (fo w r m) x = rd w x
  | 0, _ => rfl
  | m + 1, h => by
    have q := h m (by omega)
    rw [fo, rd_wb_ne (by omega) (by omega) (by omega)]
    exact fo_rd x0 m (fun i hi => h i (by omega))
theorem fn_out {c : Int} (c0 : 0 ≤ c) : ∀ m : Nat, (∀ i, i < m → 0 ≤ s i ∧ c ≠ s i) → ft (fn w s k m) c = ft w c
  | 0, _ => rfl
  | m + 1, h => by
    have q := h m (by omega)
    rw [fn, ft_wb q.1 c0, if_neg q.2]
    exact fn_out c0 m (fun i hi => h i (by omega))
theorem fn_in (cs : ∀ i, i < k → 0 ≤ s i ∧ s i ≤ 101) (d : ∀ i j, i < j → j < k → s i ≠ s j) : ∀ m : Nat, m ≤ k → ∀ i, i < m → ft (fn w s k m) (s i) = if i + 1 < k then s (i + 1) else 4294967295
  | 0, _, i, hi => absurd hi (Nat.not_lt_zero _)
  | m + 1, hmk, i, hi => by
    have q := cs m (by omega)
    have qi := cs i (by omega)
    rw [fn, ft_wb q.1 qi.1]
    by_cases z : i = m
    · rw [z, if_pos rfl]
      by_cases y : m + 1 < k
      · rw [if_pos y]
        have := cs (m + 1) y
        omega
      · rw [if_neg y]; rfl
    · rw [if_neg (d i m (by omega) (by omega))]
      exact fn_in cs d m (by omega) i (by omega)
theorem fn_rd {x : Int} (x0 : 1024 ≤ x) : ∀ m : Nat, (∀ i, i < m → 0 ≤ s i ∧ s i ≤ 101) → rd (fn w s k m) x = rd w x
  | 0, _ => rfl
  | m + 1, h => by
    have q := h m (by omega)
    rw [fn, rd_wb_ne (by omega) (by omega) (by omega)]
    exact fn_rd x0 m (fun i hi => h i (by omega))
theorem tk_rd (cl : ∀ i, i < K → 2 ≤ r i ∧ r i ≤ 101) (cs : ∀ i, i < k → 2 ≤ s i ∧ s i ≤ 101) {x : Int} (x0 : 1024 ≤ x) : rd (tk2 (tk1 w r K wr' s k run) r K s k run) x = rd w x := by
  have e1 : rd (tk1 w r K wr' s k run) x = rd w x := by
    unfold tk1
    split
    · rfl
    · rw [fn_rd x0 _ (fun i hi => by have := cs i hi; omega)]
      split
      · exact fo_rd x0 _ (fun i hi => by have := cl i (by omega); omega)
      · rfl
  unfold tk2
  split
  · have := cl (K - 1) (by omega)
    rw [rd_wb_ne (by omega) (by omega) (by omega)]
    exact e1
  · exact e1
/-- the FAT of one that is not among them -/
theorem tk_out (cl : ∀ i, i < K → 2 ≤ r i ∧ r i ≤ 101) (cs : ∀ i, i < k → 2 ≤ s i ∧ s i ≤ 101) {c : Int} (c0 : 0 ≤ c) (no : ∀ i, i < K → c ≠ r i) (no' : ∀ i, i < k → c ≠ s i) : ft (tk2 (tk1 w r K wr' s k run) r K s k run) c = ft w c := by
  have e1 : ft (tk1 w r K wr' s k run) c = ft w c := by
    unfold tk1
    split
    · rfl
    · rw [fn_out c0 _ (fun i hi => ⟨by have := cs i hi; omega, no' i hi⟩)]
      split
      · exact fo_out c0 _ (fun i hi => ⟨by have := cl i (by omega); omega, no i (by omega)⟩)
      · rfl
  unfold tk2
  split
  · have := cl (K - 1) (by omega)
    rw [ft_wb (by omega) c0, if_neg (no _ (by omega))]
    exact e1
  · exact e1
/-- the chain that comes out -/
theorem tk_row (cl : ∀ i, i < K → 2 ≤ r i ∧ r i ≤ 101) (cs : ∀ i, i < k → 2 ≤ s i ∧ s i ≤ 101) (dr : ∀ i j, i < j → j < K → r i ≠ r j) (dse : ∀ i j, i < j → j < k → s i ≠ s j) (drs : ∀ i j, i < K → j < k → r i ≠ s j) (rz : run = 0) (k1 : 1 ≤ k) : (∀ i, i + 1 < K → ft (tk2 (tk1 w r K wr' s k run) r K s k run) (r i) = if wr' = 1 then r (i + 1) else ft w (r i)) ∧ (1 ≤ K → ft (tk2 (tk1 w r K wr' s k run) r K s k run) (r (K - 1)) = s 0) ∧ ∀ i, i < k → ft (tk2 (tk1 w r K wr' s k run) r K s k run) (s i) = if i + 1 < k then s (i + 1) else 4294967295 := by
  have et : tk1 w r K wr' s k run = fn (if wr' = 1 then fo w r (K - 1) else w) s k k := by unfold tk1; rw [if_neg (by omega)]
  have a1 : ∀ i, i + 1 < K → ft (tk1 w r K wr' s k run) (r i) = if wr' = 1 then r (i + 1) else ft w (r i) := fun i hi => by
    have ci := cl i (by omega)
    rw [et, fn_out (by omega) _ (fun j hj => ⟨by have := cs j hj; omega, drs i j (by omega) hj⟩)]
    split
    · exact fo_in (K - 1) (fun j hj => by have := cl j (by omega); omega) (fun a b ab bk => dr a b ab (by omega)) i (by omega)
    · rfl
  have a3 : ∀ i, i < k → ft (tk1 w r K wr' s k run) (s i) = if i + 1 < k then s (i + 1) else 4294967295 := fun i hi => by
    rw [et]
    exact fn_in (fun j hj => by have := cs j hj; omega) dse k (Nat.le_refl _) i hi
  by_cases K0 : K = 0
  · have e2 : tk2 (tk1 w r K wr' s k run) r K s k run = tk1 w r K wr' s k run := by unfold tk2; rw [if_neg (by omega)]
    rw [e2]
    exact ⟨a1, fun z => by omega, a3⟩
  · have e2 : tk2 (tk1 w r K wr' s k run) r K s k run = wb (tk1 w r K wr' s k run) (512 + 4 * r (K - 1)) 4 (s 0) := by unfold tk2; rw [if_pos ⟨rz, K0, by omega⟩]
    have cK := cl (K - 1) (by omega)
    rw [e2]
    refine ⟨fun i hi => ?_, fun _ => ?_, fun i hi => ?_⟩
    · have ci := cl i (by omega)
      rw [ft_wb (by omega) (by omega), if_neg (dr i (K - 1) (by omega) (by omega))]
      exact a1 i hi
    · have c0 := cs 0 (by omega)
      rw [ft_wb (by omega) (by omega), if_pos rfl]
      omega
    · have ci := cs i hi
      rw [ft_wb (by omega) (by omega), if_neg (fun z => drs (K - 1) i (by omega) hi z.symm)]
      exact a3 i hi
theorem tbm_ne {x : Int} (m2 : 2 ≤ mp) (x0 : 0 ≤ x) (hx : x < ca mp ∨ ca mp + 128 ≤ x) : ∀ m : Nat, (∀ i, i < m → 2 ≤ s i ∧ s i ≤ 101) → rd (tbm w mp s m) x = rd w x
  | 0, _ => rfl
  | m + 1, h => by
    have q := h m (by omega)
    rw [tbm, bs_ne m2 q.1 x0 (by omega)]
    exact tbm_ne m2 x0 hx m (fun i hi => h i (by omega))
theorem tb_tbm {c : Int} (hw : By w) (m2 : 2 ≤ mp ∧ mp ≤ 101) (hc : 2 ≤ c ∧ c ≤ 101) : ∀ m : Nat, (∀ i, i < m → 2 ≤ s i ∧ s i ≤ 101) → (tb w mp c = 1 ∨ ∃ i, i < m ∧ c = s i) → tb (tbm w mp s m) mp c = 1
  | 0, _, y => by
    rcases y with y | ⟨i, i1, _⟩
    · exact y
    · omega
  | m + 1, h, y => by
    have q := h m (by omega)
    rw [tbm, tb_bs (By_tbm hw m) m2 q hc (Or.inr rfl)]
    by_cases z : c = s m
    · rw [if_pos z]
    · rw [if_neg z]
      refine tb_tbm hw m2 hc m (fun i hi => h i (by omega)) ?_
      rcases y with y | ⟨i, i1, i2⟩
      · exact Or.inl y
      · by_cases x : i = m
        · rw [x] at i2; exact absurd i2 z
        · exact Or.inr ⟨i, by omega, i2⟩
theorem tkX_ne {x : Int} (m2 : 2 ≤ mp) (x0 : 0 ≤ x) (hx : x < ca mp ∨ ca mp + 128 ≤ x) (hX : X = 0 ∨ (2 ≤ X ∧ X ≤ 101)) : rd (tkX w mp X) x = rd w x := by
  unfold tkX
  split
  · rfl
  · exact bs_ne m2 (by omega) x0 (by omega)
theorem tb_tkX {c : Int} (hw : By w) (m2 : 2 ≤ mp ∧ mp ≤ 101) (hc : 2 ≤ c ∧ c ≤ 101) (hX : X = 0 ∨ (2 ≤ X ∧ X ≤ 101)) (y : tb w mp c = 1 ∨ c = X) : tb (tkX w mp X) mp c = 1 := by
  unfold tkX
  split
  · rename_i x0
    rcases y with y | y
    · exact y
    · omega
  · rw [tb_bs hw m2 (by omega) hc (Or.inr rfl)]
    split
    · rfl
    · rename_i x
      rcases y with y | y
      · exact y
      · exact absurd y x
end OFT
