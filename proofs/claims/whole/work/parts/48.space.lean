/-! the map of bits; octets under masks; what lies free -/
theorem iZ_nat8 (x : Int) : (Int32.ofInt x).toBitVec.toNat % 256 = (x % 256).toNat := by
  simp only [Int32.toBitVec_ofInt, BitVec.toNat_ofInt]
  omega
theorem toInt_mod (b : Int32) : b.toInt % 256 = ((b.toBitVec.toNat % 256 : Nat) : Int) := by
  have e : b = Int32.ofInt b.toInt := (Int32.ofInt_toInt b).symm
  have h := iZ_nat8 b.toInt
  rw [← e] at h
  omega
theorem bA_mod (x y : Int) : bA x y % 256 = (((x % 256).toNat &&& (y % 256).toNat : Nat) : Int) := by
  unfold bA
  rw [toInt_mod, Int32.toBitVec_and, BitVec.toNat_and]
  have e : ((Int32.ofInt x).toBitVec.toNat &&& (Int32.ofInt y).toBitVec.toNat) % 2 ^ 8 = ((Int32.ofInt x).toBitVec.toNat % 2 ^ 8) &&& ((Int32.ofInt y).toBitVec.toNat % 2 ^ 8) := Nat.and_mod_two_pow
  rw [show (256 : Nat) = 2 ^ 8 from rfl, e]
  have e1 := iZ_nat8 x
  have e2 := iZ_nat8 y
  rw [show (256 : Nat) = 2 ^ 8 from rfl] at e1 e2
  rw [e1, e2]
theorem bO_mod (x y : Int) : bO x y % 256 = (((x % 256).toNat ||| (y % 256).toNat : Nat) : Int) := by
  unfold bO
  rw [toInt_mod, Int32.toBitVec_or, BitVec.toNat_or]
  have e : ((Int32.ofInt x).toBitVec.toNat ||| (Int32.ofInt y).toBitVec.toNat) % 2 ^ 8 = ((Int32.ofInt x).toBitVec.toNat % 2 ^ 8) ||| ((Int32.ofInt y).toBitVec.toNat % 2 ^ 8) := Nat.or_mod_two_pow
  rw [show (256 : Nat) = 2 ^ 8 from rfl, e]
  have e1 := iZ_nat8 x
  have e2 := iZ_nat8 y
  rw [show (256 : Nat) = 2 ^ 8 from rfl] at e1 e2
  rw [e1, e2]
theorem bA_mod_congr {x x' : Int} (y : Int) (h : x % 256 = x' % 256) : bA x y % 256 = bA x' y % 256 := by rw [bA_mod, bA_mod, h]
theorem bO_mod_congr {x x' : Int} (y : Int) (h : x % 256 = x' % 256) : bO x y % 256 = bO x' y % 256 := by rw [bO_mod, bO_mod, h]
/-- where a CLUSTER lies -/
def ca (c : Int) : Int := 1024 + 128 * (c - 2)
def p2 (y : Int) : Int := 2 ^ (y % 32).toNat
theorem p2_v {y : Int} (h0 : 0 ≤ y) (h7 : y < 8) : (y = 0 ∧ p2 y = 1) ∨ (y = 1 ∧ p2 y = 2) ∨ (y = 2 ∧ p2 y = 4) ∨ (y = 3 ∧ p2 y = 8) ∨ (y = 4 ∧ p2 y = 16) ∨ (y = 5 ∧ p2 y = 32) ∨ (y = 6 ∧ p2 y = 64) ∨ (y = 7 ∧ p2 y = 128) := by
  rcases (show y = 0 ∨ y = 1 ∨ y = 2 ∨ y = 3 ∨ y = 4 ∨ y = 5 ∨ y = 6 ∨ y = 7 by omega) with rfl | rfl | rfl | rfl | rfl | rfl | rfl | rfl
  · exact Or.inl ⟨rfl, rfl⟩
  · exact Or.inr (Or.inl ⟨rfl, rfl⟩)
  · exact Or.inr (Or.inr (Or.inl ⟨rfl, rfl⟩))
  · exact Or.inr (Or.inr (Or.inr (Or.inl ⟨rfl, rfl⟩)))
  · exact Or.inr (Or.inr (Or.inr (Or.inr (Or.inl ⟨rfl, rfl⟩))))
  · exact Or.inr (Or.inr (Or.inr (Or.inr (Or.inr (Or.inl ⟨rfl, rfl⟩)))))
  · exact Or.inr (Or.inr (Or.inr (Or.inr (Or.inr (Or.inr (Or.inl ⟨rfl, rfl⟩))))))
  · exact Or.inr (Or.inr (Or.inr (Or.inr (Or.inr (Or.inr (Or.inr ⟨rfl, rfl⟩))))))
theorem bit_mod {v y : Int} (h0 : 0 ≤ y) (h7 : y < 8) : v / p2 y % 2 = v % 256 / p2 y % 2 := by
  rcases p2_v h0 h7 with ⟨_, e⟩ | ⟨_, e⟩ | ⟨_, e⟩ | ⟨_, e⟩ | ⟨_, e⟩ | ⟨_, e⟩ | ⟨_, e⟩ | ⟨_, e⟩ <;> rw [e] <;> omega
/-- the bit of a CLUSTER in the map -/
def tb (f : Nat → Int) (mp c : Int) : Int := rd f (ca mp + (c - 2) / 8) / p2 ((c - 2) % 8) % 2
theorem tb_01 (f : Nat → Int) (mp c : Int) : tb f mp c = 0 ∨ tb f mp c = 1 := by unfold tb; omega
section SPACE
variable {G : GG} {h : AH}
theorem S_isTaken {P : Int → AH → Prop} {c : Int} (hb : By (h 3)) (hm : 2 ≤ h 7 3 ∧ h 7 3 ≤ 101) (hc : 2 ≤ c ∧ c ≤ 101) (H : P (tb (h 3) (h 7 3) c) h) : RunsI G 113 [vR 7, vI c] h P := by
  apply q_S_isTaken
  apply q_S_address
  rw [wI_id (z := c - 2) (by omega) (by omega), tdiv_pos (by omega), tmod_pos (by omega)]
  refine ⟨by decide, D_get (by omega) (by omega) ⟨by decide, ?_⟩⟩
  have hv := hb.rd (a := 1024 + 128 * (h 7 3 - 2) + (c - 2) / 8) (by omega) (by omega)
  have e : bA (sRI (rd (h 3) (1024 + 128 * (h 7 3 - 2) + (c - 2) / 8)) ((c - 2) % 8)) 1 = tb (h 3) (h 7 3) c := by
    rw [bA_1]
    unfold sRI tb ca p2
    rw [wI_id (by omega) (by omega)]
  rw [e, wI_id (by rcases tb_01 (h 3) (h 7 3) c with q | q <;> omega) (by rcases tb_01 (h 3) (h 7 3) c with q | q <;> omega)]
  rcases tb_01 (h 3) (h 7 3) c with q | q <;> rw [q] at H ⊢
  · exact ⟨fun _ => ⟨Or.inl rfl, H⟩, fun c => absurd rfl c⟩
  · exact ⟨fun c => absurd c (by decide), fun _ => ⟨Or.inr rfl, H⟩⟩
theorem M_isTaken {P : Int → AH → Prop} {c : Int} (hb : Sb (h 35)) (hm : 2 ≤ h 34 2 ∧ h 34 2 ≤ 101) (hc : 2 ≤ c ∧ c ≤ 101) (H : P (tb (ub (h 35)) (h 34 2) c) h) : RunsI G 173 [vR 34, vR 35, vI c] h P := by
  apply q_M_isTaken
  apply q_M_clusterAt
  rw [wI_id (z := c - 2) (by omega) (by omega), tdiv_pos (by omega), tmod_pos (by omega), wI_id (z := 1024 + 128 * (h 34 2 - 2) + (c - 2) / 8) (by omega) (by omega)]
  refine ⟨by decide, ⟨by omega, by omega⟩, by decide, ?_⟩
  have hv := hb (1024 + 128 * (h 34 2 - 2) + (c - 2) / 8).toNat (by omega)
  have e : bA (sRI (h 35 (1024 + 128 * (h 34 2 - 2) + (c - 2) / 8).toNat) ((c - 2) % 8)) 1 = tb (ub (h 35)) (h 34 2) c := by
    rw [bA_1]
    unfold sRI tb ca
    rw [wI_id (by omega) (by omega)]
    show h 35 _ / p2 ((c - 2) % 8) % 2 = _
    rw [bit_mod (by omega) (by omega)]
    rfl
  rw [e, wI_id (by rcases tb_01 (ub (h 35)) (h 34 2) c with q | q <;> omega) (by rcases tb_01 (ub (h 35)) (h 34 2) c with q | q <;> omega)]
  rcases tb_01 (ub (h 35)) (h 34 2) c with q | q <;> rw [q] at H ⊢
  · exact ⟨fun c => absurd c (by decide), fun _ => ⟨Or.inl rfl, H⟩⟩
  · exact ⟨fun _ => ⟨Or.inr rfl, H⟩, fun c => absurd rfl c⟩
/-- how many of the first i CLUSTERS are free; the row that ends there; the longest row -/
def fr (f : Nat → Int) (mp : Int) : Nat → Int
  | 0 => 0
  | i + 1 => fr f mp i + (1 - tb f mp (2 + i))
def cu (f : Nat → Int) (mp : Int) : Nat → Int
  | 0 => 0
  | i + 1 => if tb f mp (2 + i) = 1 then 0 else cu f mp i + 1
def lo (f : Nat → Int) (mp : Int) : Nat → Int
  | 0 => 0
  | i + 1 => if lo f mp i < cu f mp (i + 1) then cu f mp (i + 1) else lo f mp i
theorem fr_rng (f : Nat → Int) (mp : Int) : ∀ i : Nat, 0 ≤ fr f mp i ∧ fr f mp i ≤ i
  | 0 => ⟨Int.le_refl _, Int.le_refl _⟩
  | i + 1 => by
    have := fr_rng f mp i
    have t := tb_01 f mp (2 + i)
    unfold fr
    omega
theorem cu_rng (f : Nat → Int) (mp : Int) : ∀ i : Nat, 0 ≤ cu f mp i ∧ cu f mp i ≤ i
  | 0 => ⟨Int.le_refl _, Int.le_refl _⟩
  | i + 1 => by
    have := cu_rng f mp i
    unfold cu
    split <;> omega
theorem lo_rng (f : Nat → Int) (mp : Int) : ∀ i : Nat, 0 ≤ lo f mp i ∧ lo f mp i ≤ i
  | 0 => ⟨Int.le_refl _, Int.le_refl _⟩
  | i + 1 => by
    have := lo_rng f mp i
    have c := cu_rng f mp (i + 1)
    unfold lo
    split <;> omega
theorem S_freeOnes {P : Int → AH → Prop} (hb : By (h 3)) (hn : 16 ≤ h 7 1 ∧ h 7 1 ≤ 100) (hm : 2 ≤ h 7 3 ∧ h 7 3 ≤ 101) (H : P (fr (h 3) (h 7 3) (h 7 1).toNat) h) : RunsI G 119 [vR 7] h P := by
  apply q_S_freeOnes
  have key : ∀ (m i : Nat), (i : Int) + m = h 7 1 → Go G (pI P) 119 4 [some (vR 7), some (vI (fr (h 3) (h 7 3) i)), some (vI (2 + (i : Int)))] [] h := by
    intro m
    induction m with
    | zero =>
      intro i hi
      apply q_S_freeOnes_c4
      rw [wI_id (z := h 7 1 + 1) (by omega) (by omega), wI_id (z := 2 + (i : Int)) (by omega) (by omega)]
      rw [show (h 7 1).toNat = i by omega] at H
      exact ⟨fun _ => H, fun c => by omega⟩
    | succ m ih =>
      intro i hi
      apply q_S_freeOnes_c4
      rw [wI_id (z := h 7 1 + 1) (by omega) (by omega), wI_id (z := 2 + (i : Int)) (by omega) (by omega)]
      refine ⟨fun c => by omega, fun _ => S_isTaken hb hm (by omega) ?_⟩
      have nx := ih (i + 1) (by omega)
      have es : fr (h 3) (h 7 3) (i + 1) = fr (h 3) (h 7 3) i + (1 - tb (h 3) (h 7 3) (2 + i)) := rfl
      rw [es, show (2 + ((i + 1 : Nat) : Int)) = 2 + (i : Int) + 1 by omega] at nx
      rcases tb_01 (h 3) (h 7 3) (2 + (i : Int)) with q | q <;> rw [q] at nx ⊢
      · exact ⟨fun _ => nx, fun c => absurd (by decide) c⟩
      · rw [show (1 : Int) - 1 = 0 from rfl, Int.add_zero] at nx
        exact ⟨fun c => absurd c (by decide), fun _ => nx⟩
  exact key (h 7 1).toNat 0 (by omega)
theorem M_freeMany {P : Int → AH → Prop} (hb : Sb (h 35)) (hn : 16 ≤ h 34 0 ∧ h 34 0 ≤ 100) (hm : 2 ≤ h 34 2 ∧ h 34 2 ≤ 101) (H : P (fr (ub (h 35)) (h 34 2) (h 34 0).toNat) h) : RunsI G 238 [vR 34] h P := by
  apply q_M_freeMany
  have key : ∀ (m i : Nat), (i : Int) + m = h 34 0 → Go G (pI P) 238 4 [some (vR 34), some (vI (fr (ub (h 35)) (h 34 2) i)), some (vI (2 + (i : Int)))] [] h := by
    intro m
    induction m with
    | zero =>
      intro i hi
      apply q_M_freeMany_c4
      rw [wI_id (z := h 34 0 + 1) (by omega) (by omega), wI_id (z := 2 + (i : Int)) (by omega) (by omega)]
      rw [show (h 34 0).toNat = i by omega] at H
      exact ⟨fun _ => H, fun c => by omega⟩
    | succ m ih =>
      intro i hi
      apply q_M_freeMany_c4
      rw [wI_id (z := h 34 0 + 1) (by omega) (by omega), wI_id (z := 2 + (i : Int)) (by omega) (by omega)]
      refine ⟨fun c => by omega, fun _ => M_isTaken hb hm (by omega) ?_⟩
      have nx := ih (i + 1) (by omega)
      have es : fr (ub (h 35)) (h 34 2) (i + 1) = fr (ub (h 35)) (h 34 2) i + (1 - tb (ub (h 35)) (h 34 2) (2 + i)) := rfl
      rw [es, show (2 + ((i + 1 : Nat) : Int)) = 2 + (i : Int) + 1 by omega] at nx
      rcases tb_01 (ub (h 35)) (h 34 2) (2 + (i : Int)) with q | q <;> rw [q] at nx ⊢
      · exact ⟨fun _ => nx, fun c => absurd (by decide) c⟩
      · exact ⟨fun c => absurd c (by decide), fun _ => nx⟩
  exact key (h 34 0).toNat 0 (by omega)
end SPACE
