/-! numbers and places: what the walks above need of arithmetic -/
theorem hs_app (h : AH) (o k : Nat) (z : Int) (o' k' : Nat) : hs h o k z o' k' = if o' = o then (if k' = k then z else h o k') else h o' k' := by
  unfold hs; split <;> rfl
theorem hs_same (h : AH) (o k : Nat) (z : Int) : hs h o k z o k = z := by rw [hs_app, if_pos rfl, if_pos rfl]
theorem hs_k (h : AH) (o k k' : Nat) (z : Int) (hk : k' ≠ k) : hs h o k z o k' = h o k' := by rw [hs_app, if_pos rfl, if_neg hk]
theorem hs_o (h : AH) (o k o' : Nat) (z : Int) (ho : o' ≠ o) : hs h o k z o' = h o' := hs_ne h o k z o' ho
theorem RunsI.mono {G : GG} {i : Nat} {as : List AV} {h : AH} {P Q : Int → AH → Prop} (hr : RunsI G i as h P) (hq : ∀ r h', P r h' → Q r h') : RunsI G i as h Q := Runs.mono hr (fun r h' q => by unfold pI at q ⊢; split at q; exact hq _ _ q; exact q.elim)
theorem RunsL.mono {G : GG} {i : Nat} {as : List AV} {h : AH} {P Q : Int → AH → Prop} (hr : RunsL G i as h P) (hq : ∀ r h', P r h' → Q r h') : RunsL G i as h Q := Runs.mono hr (fun r h' q => by unfold pL at q ⊢; split at q; exact hq _ _ q; exact q.elim)
theorem RunsV.mono {G : GG} {i : Nat} {as : List AV} {h : AH} {P Q : AH → Prop} (hr : RunsV G i as h P) (hq : ∀ h', P h' → Q h') : RunsV G i as h Q := Runs.mono hr (fun r h' q => by unfold pV at q ⊢; split at q; exact hq _ q; exact q.elim)
/-- masks -/
theorem bA_mask (x : Int) (m : Int) (k : Nat) (hk : k ≤ 30) (hm : (Int32.ofInt m).toBitVec.toNat = 2 ^ k - 1) : bA x m = x % (2 ^ k : Nat) := by
  unfold bA
  rw [pk_and _ k hm]
  have hp : 2 ^ k ≤ 2 ^ 30 := Nat.pow_le_pow_right (by decide) hk
  have h1 : ((Int32.ofInt x).toBitVec.toNat % 2 ^ k : Nat) < 2 ^ k := Nat.mod_lt _ (Nat.two_pow_pos k)
  rw [nI_toInt (by omega)]
  simp only [Int32.toBitVec_ofInt, BitVec.toNat_ofInt]
  rw [Int.natCast_emod, Int.toNat_of_nonneg (Int.emod_nonneg _ (by decide))]
  have hd : ((2 ^ k : Nat) : Int) ∣ ((2 ^ 32 : Nat) : Int) := Int.natCast_dvd_natCast.mpr (Nat.pow_dvd_pow 2 (by omega))
  exact Int.emod_emod_of_dvd x hd
theorem bA_1 (x : Int) : bA x 1 = x % 2 := bA_mask x 1 1 (by decide) rfl
theorem bA_3 (x : Int) : bA x 3 = x % 4 := bA_mask x 3 2 (by decide) rfl
theorem bA_127 (x : Int) : bA x 127 = x % 128 := bA_mask x 127 7 (by decide) rfl
theorem bA_255 (x : Int) : bA x 255 = x % 256 := bA_mask x 255 8 (by decide) rfl
theorem bA_65535 (x : Int) : bA x 65535 = x % 65536 := bA_mask x 65535 16 (by decide) rfl
/-- 'or' of what lies apart is the sum -/
theorem bO_add (x y : Int) (k : Nat) (hk : k ≤ 31) (h0 : 0 ≤ x) (h1 : x < (2 ^ k : Nat)) (hy : ((2 ^ k : Nat) : Int) ∣ y) : bO x y = wI (x + y) := by
  have e : Int32.ofInt x ||| Int32.ofInt y = Int32.ofInt (x + y) := by
    apply Int32.toBitVec_inj.mp
    rw [Int32.toBitVec_or]
    simp only [Int32.toBitVec_ofInt]
    apply BitVec.eq_of_toNat_eq
    rw [BitVec.toNat_or]
    simp only [BitVec.toNat_ofInt]
    have hp : 2 ^ k ≤ 2 ^ 31 := Nat.pow_le_pow_right (by decide) hk
    have ex : (x % ((2 ^ 32 : Nat) : Int)).toNat = x.toNat := by
      rw [Int.emod_eq_of_lt h0 (by omega)]
    obtain ⟨q, rfl⟩ := hy
    have hd : (2 ^ 32 : Nat) = 2 ^ k * 2 ^ (32 - k) := by rw [← Nat.pow_add]; congr 1; omega
    have e2 : (((2 ^ k : Nat) : Int) * q) % ((2 ^ 32 : Nat) : Int) = ((2 ^ k : Nat) : Int) * (q % ((2 ^ (32 - k) : Nat) : Int)) := by
      rw [hd, Int.natCast_mul, Int.mul_emod_mul_of_pos]
      exact_mod_cast Nat.two_pow_pos k
    have hq0 : 0 ≤ q % ((2 ^ (32 - k) : Nat) : Int) := Int.emod_nonneg _ (by have := Nat.two_pow_pos (32 - k); omega)
    have hq1 : q % ((2 ^ (32 - k) : Nat) : Int) < ((2 ^ (32 - k) : Nat) : Int) := Int.emod_lt_of_pos _ (by have := Nat.two_pow_pos (32 - k); omega)
    have e3 : (((2 ^ k : Nat) : Int) * (q % ((2 ^ (32 - k) : Nat) : Int))).toNat = 2 ^ k * (q % ((2 ^ (32 - k) : Nat) : Int)).toNat := by
      rw [Int.toNat_mul (by omega) hq0]; rfl
    rw [ex, e2, e3, Nat.or_comm, ← Nat.two_pow_add_eq_or_of_lt (by omega)]
    apply Int.ofNat.inj
    show ((2 ^ k * (q % ((2 ^ (32 - k) : Nat) : Int)).toNat + x.toNat : Nat) : Int) = (((x + ((2 ^ k : Nat) : Int) * q) % ((2 ^ 32 : Nat) : Int)).toNat : Int)
    rw [Int.toNat_of_nonneg (Int.emod_nonneg _ (by decide)), Int.natCast_add, Int.natCast_mul, Int.toNat_of_nonneg hq0, Int.toNat_of_nonneg h0, ← e2, Int.add_emod, Int.emod_eq_of_lt h0 (by omega)]
    rw [e2]
    have hb : ((2 ^ k : Nat) : Int) * (q % ((2 ^ (32 - k) : Nat) : Int)) + ((2 ^ k : Nat) : Int) ≤ ((2 ^ 32 : Nat) : Int) := by
      have h9 : ((2 ^ k : Nat) : Int) * (q % ((2 ^ (32 - k) : Nat) : Int)) + ((2 ^ k : Nat) : Int) = ((2 ^ k : Nat) : Int) * (q % ((2 ^ (32 - k) : Nat) : Int) + 1) := by rw [Int.mul_add, Int.mul_one]
      rw [h9, hd, Int.natCast_mul]
      exact Int.mul_le_mul_of_nonneg_left (by omega) (by omega)
    have hn : 0 ≤ ((2 ^ k : Nat) : Int) * (q % ((2 ^ (32 - k) : Nat) : Int)) := Int.mul_nonneg (by omega) hq0
    generalize ((2 ^ k : Nat) : Int) * (q % ((2 ^ (32 - k) : Nat) : Int)) = M at hb hn
    have h32 : ((2 ^ 32 : Nat) : Int) = 4294967296 := rfl
    rw [h32] at hb ⊢
    omega
  unfold bO
  rw [e, wI_eq]
theorem bOL_add (x y : Int) (k : Nat) (hk : k ≤ 62) (h0 : 0 ≤ x) (h1 : x < (2 ^ k : Nat)) (hy : ((2 ^ k : Nat) : Int) ∣ y) : bOL x y = wL (x + y) := by
  have e : Int64.ofInt x ||| Int64.ofInt y = Int64.ofInt (x + y) := by
    apply Int64.toBitVec_inj.mp
    rw [Int64.toBitVec_or]
    simp only [Int64.toBitVec_ofInt]
    apply BitVec.eq_of_toNat_eq
    rw [BitVec.toNat_or]
    simp only [BitVec.toNat_ofInt]
    have hp : 2 ^ k ≤ 2 ^ 62 := Nat.pow_le_pow_right (by decide) hk
    have ex : (x % ((2 ^ 64 : Nat) : Int)).toNat = x.toNat := by
      rw [Int.emod_eq_of_lt h0 (by omega)]
    obtain ⟨q, rfl⟩ := hy
    have hd : (2 ^ 64 : Nat) = 2 ^ k * 2 ^ (64 - k) := by rw [← Nat.pow_add]; congr 1; omega
    have e2 : (((2 ^ k : Nat) : Int) * q) % ((2 ^ 64 : Nat) : Int) = ((2 ^ k : Nat) : Int) * (q % ((2 ^ (64 - k) : Nat) : Int)) := by
      rw [hd, Int.natCast_mul, Int.mul_emod_mul_of_pos]
      exact_mod_cast Nat.two_pow_pos k
    have hq0 : 0 ≤ q % ((2 ^ (64 - k) : Nat) : Int) := Int.emod_nonneg _ (by have := Nat.two_pow_pos (64 - k); omega)
    have hq1 : q % ((2 ^ (64 - k) : Nat) : Int) < ((2 ^ (64 - k) : Nat) : Int) := Int.emod_lt_of_pos _ (by have := Nat.two_pow_pos (64 - k); omega)
    have e3 : (((2 ^ k : Nat) : Int) * (q % ((2 ^ (64 - k) : Nat) : Int))).toNat = 2 ^ k * (q % ((2 ^ (64 - k) : Nat) : Int)).toNat := by
      rw [Int.toNat_mul (by omega) hq0]; rfl
    rw [ex, e2, e3, Nat.or_comm, ← Nat.two_pow_add_eq_or_of_lt (by omega)]
    apply Int.ofNat.inj
    show ((2 ^ k * (q % ((2 ^ (64 - k) : Nat) : Int)).toNat + x.toNat : Nat) : Int) = (((x + ((2 ^ k : Nat) : Int) * q) % ((2 ^ 64 : Nat) : Int)).toNat : Int)
    rw [Int.toNat_of_nonneg (Int.emod_nonneg _ (by decide)), Int.natCast_add, Int.natCast_mul, Int.toNat_of_nonneg hq0, Int.toNat_of_nonneg h0, ← e2, Int.add_emod, Int.emod_eq_of_lt h0 (by omega)]
    rw [e2]
    have hb : ((2 ^ k : Nat) : Int) * (q % ((2 ^ (64 - k) : Nat) : Int)) + ((2 ^ k : Nat) : Int) ≤ ((2 ^ 64 : Nat) : Int) := by
      have h9 : ((2 ^ k : Nat) : Int) * (q % ((2 ^ (64 - k) : Nat) : Int)) + ((2 ^ k : Nat) : Int) = ((2 ^ k : Nat) : Int) * (q % ((2 ^ (64 - k) : Nat) : Int) + 1) := by rw [Int.mul_add, Int.mul_one]
      rw [h9, hd, Int.natCast_mul]
      exact Int.mul_le_mul_of_nonneg_left (by omega) (by omega)
    have hn : 0 ≤ ((2 ^ k : Nat) : Int) * (q % ((2 ^ (64 - k) : Nat) : Int)) := Int.mul_nonneg (by omega) hq0
    generalize ((2 ^ k : Nat) : Int) * (q % ((2 ^ (64 - k) : Nat) : Int)) = M at hb hn
    have h64 : ((2 ^ 64 : Nat) : Int) = 18446744073709551616 := rfl
    rw [h64] at hb ⊢
    omega
  unfold bOL
  rw [e, wL_eq]
theorem bOL_comm (x y : Int) : bOL x y = bOL y x := by unfold bOL; rw [Int64.or_comm]
theorem bO_comm (x y : Int) : bO x y = bO y x := by unfold bO; rw [Int32.or_comm]
theorem bAL_mask (x : Int) (m : Int) (k : Nat) (hk : k ≤ 62) (hm : (Int64.ofInt m).toBitVec = BitVec.ofNat 64 (2 ^ k - 1)) : bAL x m = x % (2 ^ k : Nat) := by
  unfold bAL
  have e : Int64.ofInt x &&& Int64.ofInt m = Int64.ofInt (x % (2 ^ k : Nat)) := by
    apply Int64.toBitVec_inj.mp
    rw [Int64.toBitVec_and, hm]
    simp only [Int64.toBitVec_ofInt]
    apply BitVec.eq_of_toNat_eq
    have hp : 2 ^ k ≤ 2 ^ 62 := Nat.pow_le_pow_right (by decide) hk
    have hp0 := Nat.two_pow_pos k
    rw [BitVec.toNat_and, BitVec.toNat_ofNat, Nat.mod_eq_of_lt (by omega), Nat.and_two_pow_sub_one_eq_mod]
    simp only [BitVec.toNat_ofInt]
    apply Int.ofNat.inj
    show (((x % ((2 ^ 64 : Nat) : Int)).toNat % 2 ^ k : Nat) : Int) = ((x % ((2 ^ k : Nat) : Int) % ((2 ^ 64 : Nat) : Int)).toNat : Int)
    have h0 : 0 ≤ x % ((2 ^ k : Nat) : Int) := Int.emod_nonneg _ (by omega)
    have h1 : x % ((2 ^ k : Nat) : Int) < ((2 ^ k : Nat) : Int) := Int.emod_lt_of_pos _ (by omega)
    rw [Int.natCast_emod, Int.toNat_of_nonneg (Int.emod_nonneg _ (by decide)), Int.emod_eq_of_lt h0 (by omega), Int.toNat_of_nonneg h0]
    exact Int.emod_emod_of_dvd x (Int.natCast_dvd_natCast.mpr (Nat.pow_dvd_pow 2 (by omega)))
  rw [e, wL_eq]
  have hp : 2 ^ k ≤ 2 ^ 62 := Nat.pow_le_pow_right (by decide) hk
  have hp0 := Nat.two_pow_pos k
  have h0 : 0 ≤ x % ((2 ^ k : Nat) : Int) := Int.emod_nonneg _ (by omega)
  have h1 : x % ((2 ^ k : Nat) : Int) < ((2 ^ k : Nat) : Int) := Int.emod_lt_of_pos _ (by omega)
  exact wL_id (by omega) (by omega)
theorem bAL_1 (x : Int) : bAL x 1 = x % 2 := bAL_mask x 1 1 (by decide) rfl
theorem bAL_65535 (x : Int) : bAL x 65535 = x % 65536 := bAL_mask x 65535 16 (by decide) rfl
theorem bAL_u32 (x : Int) : bAL x 4294967295 = x % 4294967296 := bAL_mask x 4294967295 32 (by decide) rfl
theorem sLI_8 (x : Int) : sLI x 8 = x * 256 := rfl
theorem sLI_16 (x : Int) : sLI x 16 = x * 65536 := rfl
theorem sLI_24 (x : Int) : sLI x 24 = x * 16777216 := rfl
theorem tdiv_pos {x y : Int} (h : 0 ≤ x) : Int.tdiv x y = x / y := Int.tdiv_eq_ediv_of_nonneg h
theorem tmod_pos {x y : Int} (h : 0 ≤ x) : Int.tmod x y = x % y := Int.tmod_eq_emod_of_nonneg h
/-- a call of the class, then the reference's, each with its exact end -/
theorem okI_of {G : GG} {Inv : AH → Prop} {i j : Nat} {as : List AV} {h : AH} {P : Int → AH → Prop} (h1 : RunsI G i (vR 0 :: as) h P) (h2 : ∀ r h', P r h' → RunsI G j (vR 34 :: as) h' (fun r2 h2 => wI r = wI r2 ∧ Inv h2)) : okI G Inv i j as h := RunsI.mono h1 h2
