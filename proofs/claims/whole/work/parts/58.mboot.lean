/-! BOOT REGIONS: the reference asks -/
theorem bAL_3 {v : Int} (h0 : 0 ≤ v) (h1 : v < 65536) : wL (bAL v (-3)) = 0 ↔ (v = 0 ∨ v = 2) := by
  have e : ∀ b : BitVec 64, b &&& 18446744073709551613#64 = 0#64 → b.toNat = 0 ∨ b.toNat = 2 := by
    intro b hb
    have e1 : b.toNat &&& 18446744073709551613 = 0 := by
      have := congrArg BitVec.toNat hb
      rw [BitVec.toNat_and] at this
      exact this
    have e2 : b.toNat / 4 = 0 := by
      have e3 : (b.toNat &&& 18446744073709551613) / 2 ^ 2 = 0 := by rw [e1]
      rw [Nat.and_div_two_pow] at e3
      have e4 : b.toNat / 4 &&& (2 ^ 62 - 1) = 0 := e3
      rw [Nat.and_two_pow_sub_one_eq_mod] at e4
      have := b.isLt
      omega
    have k : ∀ n : Nat, n < 4 → (n &&& 18446744073709551613) = 0 → n = 0 ∨ n = 2 := by decide
    exact k _ (by omega) e1
  have r : -9223372036854775808 ≤ bAL v (-3) ∧ bAL v (-3) < 9223372036854775808 := by
    unfold bAL
    have := Int64.toInt_lt (Int64.ofInt v &&& Int64.ofInt (-3))
    have := Int64.le_toInt (Int64.ofInt v &&& Int64.ofInt (-3))
    omega
  rw [wL_id r.1 r.2]
  constructor
  · intro h
    unfold bAL at h
    have e1 : (Int64.ofInt v &&& Int64.ofInt (-3)) = Int64.ofInt 0 := by
      rw [← Int64.ofInt_toInt (Int64.ofInt v &&& Int64.ofInt (-3)), h]
    have e2 := congrArg Int64.toBitVec e1
    rw [Int64.toBitVec_and] at e2
    have e3 := e (Int64.ofInt v).toBitVec (by simpa using e2)
    have e4 : (Int64.ofInt v).toBitVec.toNat = v.toNat := by
      simp only [Int64.toBitVec_ofInt, BitVec.toNat_ofInt]
      omega
    rw [e4] at e3
    omega
  · intro h
    rcases h with rfl | rfl <;> decide
/-- what the reference asks of a region -/
def RB (f : Nat → Int) (a : Int) : Prop := (16 ≤ u4 f (a + 32) ∧ u4 f (a + 32) ≤ 100) ∧ (2 ≤ u4 f (a + 36) ∧ u4 f (a + 36) ≤ u4 f (a + 32) + 1) ∧ (u2 f (a + 44) = 0 ∨ u2 f (a + 44) = 2) ∧ (rd f (a + 49) ≤ 100 ∨ rd f (a + 49) = 255) ∧ Flds f a (u4 f (a + 32)) (u4 f (a + 36)) (u4 f (a + 40)) (u2 f (a + 44)) (rd f (a + 49)) ∧ ∀ j : Nat, j < 16 → u4 f (a + 192 + 4 * j) = sm4 1 f a 192
theorem RB_iff {f : Nat → Int} (hf : By f) {a : Int} (a0 : 0 ≤ a) (a1 : a + 256 ≤ 13824) : RB f a ↔ BtOK f a := by
  have uP := hf.rd (show 0 ≤ a + 49 by omega) (show a + 49 < 13824 by omega)
  have uS := u4_rng hf (show 0 ≤ a + 40 by omega) (show a + 40 + 3 < 13824 by omega)
  constructor
  · rintro ⟨r1, r2, r3, r4, r5, r6⟩
    have A := im_back hf a0 a1 r1 (by omega) r3 (by omega) r5
    have es : ims (u4 f (a + 32)) (u4 f (a + 36)) (u4 f (a + 40)) (u2 f (a + 44)) (rd f (a + 49)) = sm4 1 f a 192 := (sm4_congr (fun k hk => by
      rw [A k (by omega) (by omega), show (0 : Int) + (k : Int) = k by omega])).symm
    refine ⟨r1, r2, r3, r4, fun k hk => ?_⟩
    unfold im
    by_cases c : k < 192
    · rw [if_pos c]
      exact A k (by omega) (by omega)
    · rw [if_neg c, es]
      have q := r6 ((k - 192) / 4) (by omega)
      have sr := sm4_rng 1 f a 192
      have d := u4_dig hf (v := sm4 1 f a 192) (a := a + 192 + 4 * (((k - 192) / 4 : Nat) : Int)) (by omega) (by omega) (by rw [q]; omega)
      rcases (show k % 4 = 0 ∨ k % 4 = 1 ∨ k % 4 = 2 ∨ k % 4 = 3 by omega) with e | e | e | e <;> rw [e]
      · rw [show a + (k : Int) = a + 192 + 4 * (((k - 192) / 4 : Nat) : Int) by omega, d.1]
        show _ = _ / 1 % 256
        rw [Int.ediv_one]
      · rw [show a + (k : Int) = a + 192 + 4 * (((k - 192) / 4 : Nat) : Int) + 1 by omega, d.2.1]; rfl
      · rw [show a + (k : Int) = a + 192 + 4 * (((k - 192) / 4 : Nat) : Int) + 2 by omega, d.2.2.1]; rfl
      · rw [show a + (k : Int) = a + 192 + 4 * (((k - 192) / 4 : Nat) : Int) + 3 by omega, d.2.2.2]; rfl
  · rintro ⟨r1, r2, r3, r4, r5⟩
    have A : ∀ k : Int, 0 ≤ k → k < 192 → rd f (a + k) = rd (im3 (u4 f (a + 32)) (u4 f (a + 36)) (u4 f (a + 40)) (u2 f (a + 44)) (rd f (a + 49))) k := by
      intro k k0 k1
      have := r5 k.toNat (by omega)
      rw [show ((k.toNat : Nat) : Int) = k by omega] at this
      rw [this]
      unfold im
      rw [if_pos (by omega)]
      rfl
    have es : ims (u4 f (a + 32)) (u4 f (a + 36)) (u4 f (a + 40)) (u2 f (a + 44)) (rd f (a + 49)) = sm4 1 f a 192 := (sm4_congr (fun k hk => by
      rw [A k (by omega) (by omega), show (0 : Int) + (k : Int) = k by omega])).symm
    have F := im_fields hf a0 a1 r1 (by omega) r3 (by omega) A
    refine ⟨r1, r2, r3, r4, F, fun j hj => ?_⟩
    have sr := sm4_rng 1 f a 192
    have t : ∀ i : Nat, i < 4 → rd f (a + 192 + 4 * (j : Int) + i) = sm4 1 f a 192 / 256 ^ i % 256 := by
      intro i hi
      have := r5 (192 + 4 * j + i) (by omega)
      rw [show a + ((192 + 4 * j + i : Nat) : Int) = a + 192 + 4 * (j : Int) + i by omega] at this
      rw [this]
      unfold im
      rw [if_neg (by omega), es, show (192 + 4 * j + i) % 4 = i by omega]
    unfold u4
    have t0 := t 0 (by decide)
    have t1 := t 1 (by decide)
    have t2 := t 2 (by decide)
    have t3 := t 3 (by decide)
    rw [show a + 192 + 4 * (j : Int) + ((0 : Nat) : Int) = a + 192 + 4 * (j : Int) by omega, show (256 : Int) ^ 0 = 1 from rfl] at t0
    rw [show a + 192 + 4 * (j : Int) + ((1 : Nat) : Int) = a + 192 + 4 * (j : Int) + 1 by omega, show (256 : Int) ^ 1 = 256 from rfl] at t1
    rw [show a + 192 + 4 * (j : Int) + ((2 : Nat) : Int) = a + 192 + 4 * (j : Int) + 2 by omega, show (256 : Int) ^ 2 = 65536 from rfl] at t2
    rw [show a + 192 + 4 * (j : Int) + ((3 : Nat) : Int) = a + 192 + 4 * (j : Int) + 3 by omega, show (256 : Int) ^ 3 = 16777216 from rfl] at t3
    omega
section MBOOT
variable {G : GG} {h : AH} {f : Nat → Int}
theorem M_isBoot {P : Int → AH → Prop} {a : Int} (h5 : Sb (h 35)) (hE : E (ub (h 35)) f) (a0 : 0 ≤ a) (a1 : a + 256 ≤ 13824) (H1 : BtOK f a → P 1 h) (H0 : ¬ BtOK f a → P 0 h) : RunsI G 191 [vR 34, vI a] h P := by
  have hf : By f := hE.by (ub_By _)
  rw [← RB_iff hf a0 a1] at H1 H0
  have uN := u4_rng hf (show 0 ≤ a + 32 by omega) (show a + 32 + 3 < 13824 by omega)
  have uR := u4_rng hf (show 0 ≤ a + 36 by omega) (show a + 36 + 3 < 13824 by omega)
  have uT := u4_rng hf (show 0 ≤ a + 16 by omega) (show a + 16 + 3 < 13824 by omega)
  have uF := u2_rng hf (show 0 ≤ a + 44 by omega) (show a + 44 + 1 < 13824 by omega)
  have uP := hf.rd (show 0 ≤ a + 49 by omega) (show a + 49 < 13824 by omega)
  have u20 := u4_rng hf (show 0 ≤ a + 20 by omega) (show a + 20 + 3 < 13824 by omega)
  have u24 := u4_rng hf (show 0 ≤ a + 24 by omega) (show a + 24 + 3 < 13824 by omega)
  have u28 := u4_rng hf (show 0 ≤ a + 28 by omega) (show a + 28 + 3 < 13824 by omega)
  have uS := u4_rng hf (show 0 ≤ a + 40 by omega) (show a + 40 + 3 < 13824 by omega)
  have sg : ∀ j : Int, 0 ≤ j → j < 256 → (-128 ≤ h 35 (a + j).toNat ∧ h 35 (a + j).toNat < 128) ∧ h 35 (a + j).toNat % 256 = rd f (a + j) := fun j p q => ⟨h5 _ (by omega), hE _ (by omega)⟩
  -- the last loop
  have k443 : ∀ (F : Prop), (RB f a ↔ F ∧ ∀ j : Nat, j < 16 → u4 f (a + 192 + 4 * j) = sm4 1 f a 192) → ∀ (m j : Nat) (x : Int), j + m = 16 → ((x = 1 ∧ F ∧ ∀ i : Nat, i < j → u4 f (a + 192 + 4 * i) = sm4 1 f a 192) ∨ (x = 0 ∧ ¬ RB f a)) → Go G (pI P) 191 443 [some (vR 34), some (vI a), none, none, some (vI x), none, none, some (vL (sm4 1 f a 192)), none, some (vI (j : Int))] [] h := by
    intro F hF m
    have sr := sm4_rng 1 f a 192
    induction m with
    | zero =>
      intro j x hm e
      apply q_M_isBoot_c443
      rw [wI_id (z := (j : Int)) (by omega) (by omega)]
      refine ⟨fun _ => ?_, fun c => by omega⟩
      rcases e with ⟨rfl, e1, e2⟩ | ⟨rfl, e1⟩
      · exact ⟨Or.inr rfl, H1 (hF.mpr ⟨e1, fun i hi => e2 i (by omega)⟩)⟩
      · exact ⟨Or.inl rfl, H0 e1⟩
    | succ m ih =>
      intro j x hm e
      apply q_M_isBoot_c443
      rw [wI_id (z := (j : Int)) (by omega) (by omega)]
      refine ⟨fun c => by omega, fun _ => M_get4 hE (by omega) (by omega) ?_⟩
      have uj := u4_rng hf (show 0 ≤ a + 192 + 4 * (j : Int) by omega) (show a + 192 + 4 * (j : Int) + 3 < 13824 by omega)
      rw [wL_id (z := u4 f (a + 192 + 4 * (j : Int))) (by omega) (by omega), wL_id (z := sm4 1 f a 192) (by omega) (by omega), show (j : Int) + 1 = ((j + 1 : Nat) : Int) by omega]
      refine ⟨fun c => ih (j + 1) _ (by omega) ?_, fun c => ih (j + 1) _ (by omega) (Or.inr ⟨?_, fun q => c ((hF.mp q).2 j (by omega))⟩)⟩
      · rcases e with ⟨rfl, e1, e2⟩ | ⟨rfl, e1⟩
        · refine Or.inl ⟨by decide, e1, fun i hi => ?_⟩
          by_cases q : i = j
          · rw [q]; exact c
          · exact e2 i (by omega)
        · exact Or.inr ⟨by decide, e1⟩
      · rcases e with ⟨rfl, e1, e2⟩ | ⟨rfl, e1⟩ <;> decide
  have k364 : ∀ (F : Prop), (RB f a ↔ (F ∧ ∀ s : Nat, s < 3 → rd f (a + 64 * s + 62) = 85 ∧ rd f (a + 64 * s + 63) = 170) ∧ ∀ j : Nat, j < 16 → u4 f (a + 192 + 4 * j) = sm4 1 f a 192) → ∀ (m j : Nat) (x : Int), j + m = 3 → ((x = 1 ∧ F ∧ ∀ s : Nat, s < j → rd f (a + 64 * s + 62) = 85 ∧ rd f (a + 64 * s + 63) = 170) ∨ (x = 0 ∧ ¬ RB f a)) → Go G (pI P) 191 364 [some (vR 34), some (vI a), none, none, some (vI x), none, none, some (vI (j : Int)), none, none] [] h := by
    intro F hF m
    induction m with
    | zero =>
      intro j x hm e
      apply q_M_isBoot_c364
      rw [wI_id (z := (j : Int)) (by omega) (by omega)]
      refine ⟨fun _ => ?_, fun c => by omega⟩
      refine M_sum4 (n := 192) hE a0 (by omega) (Or.inr rfl) ?_
      refine k443 _ hF 16 0 x rfl ?_
      rcases e with ⟨e0, e1, e2⟩ | ⟨e0, e1⟩
      · exact Or.inl ⟨e0, ⟨e1, fun s hs9 => e2 s (by omega)⟩, fun i hi => by omega⟩
      · exact Or.inr ⟨e0, e1⟩
    | succ m ih =>
      intro j x hm e
      have s62 := sg (64 * (j : Int) + 62) (by omega) (by omega)
      have s63 := sg (64 * (j : Int) + 63) (by omega) (by omega)
      rw [show a + (64 * (j : Int) + 62) = a + 64 * (j : Int) + 62 by omega] at s62
      rw [show a + (64 * (j : Int) + 63) = a + 64 * (j : Int) + 63 by omega] at s63
      apply q_M_isBoot_c364
      rw [wI_id (z := (j : Int)) (by omega) (by omega), wI_id (z := a + 64 * (j : Int) + 62) (by omega) (by omega), wI_id (z := a + 64 * (j : Int) + 63) (by omega) (by omega), wI_id (z := h 35 (a + 64 * (j : Int) + 62).toNat) (by omega) (by omega), wI_id (z := h 35 (a + 64 * (j : Int) + 63).toNat) (by omega) (by omega), show (j : Int) + 1 = ((j + 1 : Nat) : Int) by omega]
      have z0 : bA x 0 = 0 := by rcases e with ⟨rfl, _⟩ | ⟨rfl, _⟩ <;> decide
      refine ⟨fun c => by omega, fun _ => ⟨⟨by omega, by omega⟩, fun c1 => ⟨⟨by omega, by omega⟩, fun c2 => ?_, fun c2 => ih (j + 1) _ (by omega) (Or.inr ⟨z0, fun q => ?_⟩)⟩, fun c1 => ih (j + 1) _ (by omega) (Or.inr ⟨z0, fun q => ?_⟩)⟩⟩
      · refine ih (j + 1) _ (by omega) ?_
        rcases e with ⟨rfl, e1, e2⟩ | ⟨rfl, e1⟩
        · refine Or.inl ⟨by decide, e1, fun s hs9 => ?_⟩
          by_cases q : s = j
          · rw [q]; omega
          · exact e2 s (by omega)
        · exact Or.inr ⟨by decide, e1⟩
      · have := ((hF.mp q).1.2 j (by omega)).2
        omega
      · have := ((hF.mp q).1.2 j (by omega)).1
        omega
  have end3 : (∀ s : Nat, s < 3 → rd f (a + 64 * s + 62) = 85 ∧ rd f (a + 64 * s + 63) = 170) ↔ (rd f (a + 62) = 85 ∧ rd f (a + 63) = 170 ∧ rd f (a + 126) = 85 ∧ rd f (a + 127) = 170 ∧ rd f (a + 190) = 85 ∧ rd f (a + 191) = 170) := by
    constructor
    · intro q
      have q0 := q 0 (by decide)
      have q1 := q 1 (by decide)
      have q2 := q 2 (by decide)
      rw [show a + 64 * ((0 : Nat) : Int) + 62 = a + 62 by omega, show a + 64 * ((0 : Nat) : Int) + 63 = a + 63 by omega] at q0
      rw [show a + 64 * ((1 : Nat) : Int) + 62 = a + 126 by omega, show a + 64 * ((1 : Nat) : Int) + 63 = a + 127 by omega] at q1
      rw [show a + 64 * ((2 : Nat) : Int) + 62 = a + 190 by omega, show a + 64 * ((2 : Nat) : Int) + 63 = a + 191 by omega] at q2
      exact ⟨q0.1, q0.2, q1.1, q1.2, q2.1, q2.2⟩
    · intro q s hs9
      rcases (show s = 0 ∨ s = 1 ∨ s = 2 by omega) with rfl | rfl | rfl
      · rw [show a + 64 * ((0 : Nat) : Int) + 62 = a + 62 by omega, show a + 64 * ((0 : Nat) : Int) + 63 = a + 63 by omega]; exact ⟨q.1, q.2.1⟩
      · rw [show a + 64 * ((1 : Nat) : Int) + 62 = a + 126 by omega, show a + 64 * ((1 : Nat) : Int) + 63 = a + 127 by omega]; exact ⟨q.2.2.1, q.2.2.2.1⟩
      · rw [show a + 64 * ((2 : Nat) : Int) + 62 = a + 190 by omega, show a + 64 * ((2 : Nat) : Int) + 63 = a + 191 by omega]; exact ⟨q.2.2.2.2.1, q.2.2.2.2.2⟩
  apply q_M_isBoot
  refine M_get4 hE (by omega) (by omega) ?_
  refine M_in (by omega) (by omega) (by omega) (fun c1 c2 => ⟨fun c => absurd c (by decide), fun _ => ?_⟩) (fun c1 => ⟨fun _ => ⟨Or.inl rfl, H0 (fun q => c1 q.1)⟩, fun c => absurd wI_0 c⟩)
  refine M_get4 hE (by omega) (by omega) ?_
  refine M_in (by omega) (by omega) (by omega) (fun c3 c4 => ⟨fun c => absurd c (by decide), fun _ => ?_⟩) (fun c3 => ⟨fun _ => ⟨Or.inl rfl, H0 (fun q => c3 q.2.1)⟩, fun c => absurd wI_0 c⟩)
  refine M_get4 hE (by omega) (by omega) ?_
  rw [wL_id (z := u4 f (a + 16)) (by omega) (by omega), wL_id (z := 16 + 2 * u4 f (a + 32)) (by omega) (by omega)]
  refine ⟨fun c5 => ?_, fun c5 => ⟨Or.inl rfl, H0 (fun q => c5 q.2.2.2.2.1.2.2.2.1)⟩⟩
  -- after the first question
  have k269 : ∀ (s0 s1 : Int), ((bA s0 s1 = 1 ∧ lu f a 3 = 9467627 ∧ lu f (a + 3) 8 = 2314885754712905797 ∧ zer f (a + 11) (a + 16) ∧ u4 f (a + 20) = 8 ∧ u4 f (a + 24) = 7 ∧ u4 f (a + 28) = 16 ∧ (u2 f (a + 44) = 0 ∨ u2 f (a + 44) = 2) ∧ rd f (a + 46) = 6 ∧ rd f (a + 47) = 1 ∧ rd f (a + 48) = 1) ∨ (bA s0 s1 = 0 ∧ ¬ RB f a)) → Go G (pI P) 191 269 [some (vR 34), some (vI a), none, none, none, none, none, none, none, none] [vI s1, vI s0] h := by
    intro s0 s1 e
    apply q_M_isBoot_c269
    generalize bA s0 s1 = t at e
    have e01 : bA t 0 = 0 := by rcases e with ⟨rfl, _⟩ | ⟨rfl, _⟩ <;> decide
    have e02 : bA t 1 = t := by rcases e with ⟨rfl, _⟩ | ⟨rfl, _⟩ <;> decide
    have hF : RB f a ↔ (((lu f a 3 = 9467627 ∧ lu f (a + 3) 8 = 2314885754712905797 ∧ zer f (a + 11) (a + 16) ∧ u4 f (a + 20) = 8 ∧ u4 f (a + 24) = 7 ∧ u4 f (a + 28) = 16 ∧ (u2 f (a + 44) = 0 ∨ u2 f (a + 44) = 2) ∧ rd f (a + 46) = 6 ∧ rd f (a + 47) = 1 ∧ rd f (a + 48) = 1) ∧ (rd f (a + 49) ≤ 100 ∨ rd f (a + 49) = 255) ∧ zer f (a + 50) (a + 62) ∧ zer f (a + 64) (a + 126) ∧ zer f (a + 128) (a + 190)) ∧ ∀ s : Nat, s < 3 → rd f (a + 64 * s + 62) = 85 ∧ rd f (a + 64 * s + 63) = 170) ∧ ∀ j : Nat, j < 16 → u4 f (a + 192 + 4 * j) = sm4 1 f a 192 := by
      rw [end3]
      constructor
      · rintro ⟨r1, r2, r3, r4, ⟨f1, f2, f3, f4, f5, f6, f7, f8, f9, f10, f11, f12, f13, f14, f15, f16, f17, f18, f19, f20, f21, f22, f23, f24⟩, r6⟩
        exact ⟨⟨⟨⟨f1, f2, f3, f5, f6, f7, r3, f12, f13, f14⟩, r4, f16, f17, f18⟩, f19, f20, f21, f22, f23, f24⟩, r6⟩
      · rintro ⟨⟨⟨⟨f1, f2, f3, f5, f6, f7, r3, f12, f13, f14⟩, r4, f16, f17, f18⟩, f19, f20, f21, f22, f23, f24⟩, r6⟩
        exact ⟨⟨c1, c2⟩, ⟨c3, c4⟩, r3, r4, ⟨f1, f2, f3, c5, f5, f6, f7, rfl, rfl, by omega, rfl, f12, f13, f14, rfl, f16, f17, f18, f19, f20, f21, f22, f23, f24⟩, r6⟩
    have bad : ¬ RB f a → Go G (pI P) 191 364 [some (vR 34), some (vI a), none, none, some (vI 0), none, none, some (vI 0), none, none] [] h := fun q => k364 _ hF 3 0 0 rfl (Or.inr ⟨rfl, q⟩)
    have ok : (rd f (a + 49) ≤ 100 ∨ rd f (a + 49) = 255) → Go G (pI P) 191 306 [some (vR 34), some (vI a), none, none, none, none, none, none, none, none] [vI t] h := by
      intro cp
      apply q_M_isBoot_c306
      rw [e01, e02]
      refine M_isZero h5 hE (by omega) (by omega) (by omega) (fun z1 => ⟨fun c => absurd c (by decide), fun _ => ?_⟩) (fun z1 => ⟨fun _ => bad (fun q => z1 ((hF.mp q).1.1.2.2.1)), fun c => absurd wI_0 c⟩)
      refine M_isZero h5 hE (by omega) (by omega) (by omega) (fun z2 => ⟨fun c => absurd c (by decide), fun _ => ?_⟩) (fun z2 => ⟨fun _ => bad (fun q => z2 ((hF.mp q).1.1.2.2.2.1)), fun c => absurd wI_0 c⟩)
      refine M_isZero h5 hE (by omega) (by omega) (by omega) (fun z3 => ⟨fun c => absurd c (by decide), fun _ => ?_⟩) (fun z3 => ⟨fun _ => bad (fun q => z3 ((hF.mp q).1.1.2.2.2.2)), fun c => absurd wI_0 c⟩)
      refine k364 _ hF 3 0 t rfl ?_
      rcases e with ⟨e0, e1⟩ | ⟨e0, e1⟩
      · exact Or.inl ⟨e0, ⟨e1, cp, z1, z2, z3⟩, fun s hs9 => by omega⟩
      · exact Or.inr ⟨e0, e1⟩
    rw [e01]
    refine M_get1 hE (by omega) (by omega) ?_
    rw [wL_id (z := rd f (a + 49)) (by omega) (by omega)]
    exact ⟨fun c => ok (Or.inl c), fun c => ⟨fun c' => ok (Or.inr c'), fun c' => bad (fun q => by have := (hF.mp q).1.1.2.1; omega)⟩⟩
  have k198 : ∀ (s0 s1 : Int), ((bA s0 s1 = 1 ∧ lu f a 3 = 9467627 ∧ lu f (a + 3) 8 = 2314885754712905797 ∧ zer f (a + 11) (a + 16) ∧ u4 f (a + 20) = 8 ∧ u4 f (a + 24) = 7 ∧ u4 f (a + 28) = 16) ∨ (bA s0 s1 = 0 ∧ ¬ RB f a)) → Go G (pI P) 191 198 [some (vR 34), some (vI a), none, none, none, none, none, none, none, none] [vI s1, vI s0] h := by
    intro s0 s1 e
    apply q_M_isBoot_c198
    generalize bA s0 s1 = t at e
    have s46 := sg 46 (by decide) (by decide)
    have s47 := sg 47 (by decide) (by decide)
    have s48 := sg 48 (by decide) (by decide)
    have bad : ¬ RB f a → Go G (pI P) 191 269 [some (vR 34), some (vI a), none, none, none, none, none, none, none, none] [vI 0, vI t] h := fun q => k269 t 0 (Or.inr ⟨by rcases e with ⟨rfl, _⟩ | ⟨rfl, _⟩ <;> decide, q⟩)
    refine M_get2 hE (by omega) (by omega) ?_
    rw [bAL_3 uF.1 uF.2, wI_id (z := a + 46) (by omega) (by omega), wI_id (z := a + 47) (by omega) (by omega), wI_id (z := a + 48) (by omega) (by omega), wI_id (z := h 35 (a + 46).toNat) (by omega) (by omega), wI_id (z := h 35 (a + 47).toNat) (by omega) (by omega), wI_id (z := h 35 (a + 48).toNat) (by omega) (by omega)]
    refine ⟨fun d1 => ⟨⟨by omega, by omega⟩, fun d2 => ⟨⟨by omega, by omega⟩, fun d3 => ⟨⟨by omega, by omega⟩, fun d4 => k269 t 1 ?_, fun d4 => bad (fun q => d4 ?_)⟩, fun d3 => bad (fun q => d3 ?_)⟩, fun d2 => bad (fun q => d2 ?_)⟩, fun d1 => bad (fun q => d1 q.2.2.1)⟩
    · rcases e with ⟨rfl, e1, e2, e3, e4, e5, e6⟩ | ⟨rfl, e1⟩
      · exact Or.inl ⟨by decide, e1, e2, e3, e4, e5, e6, d1, by omega, by omega, by omega⟩
      · exact Or.inr ⟨by decide, e1⟩
    · have := q.2.2.2.2.1.2.2.2.2.2.2.2.2.2.2.2.2.2.1; omega
    · have := q.2.2.2.2.1.2.2.2.2.2.2.2.2.2.2.2.2.1; omega
    · have := q.2.2.2.2.1.2.2.2.2.2.2.2.2.2.2.2.1; omega
  have k132 : ∀ (s0 : Int), ((s0 = 1 ∧ lu f a 3 = 9467627 ∧ lu f (a + 3) 8 = 2314885754712905797 ∧ zer f (a + 11) (a + 16)) ∨ (s0 = 0 ∧ ¬ RB f a)) → Go G (pI P) 191 132 [some (vR 34), some (vI a), none, none, none, none, none, none, none, none] [vI s0] h := by
    intro s0 e
    apply q_M_isBoot_c132
    have bad : ¬ RB f a → Go G (pI P) 191 198 [some (vR 34), some (vI a), none, none, none, none, none, none, none, none] [vI 0, vI s0] h := fun q => k198 s0 0 (Or.inr ⟨by rcases e with ⟨rfl, _⟩ | ⟨rfl, _⟩ <;> decide, q⟩)
    refine M_get4 hE (by omega) (by omega) ?_
    rw [wL_id (z := u4 f (a + 20)) (by omega) (by omega)]
    refine ⟨fun d1 => ?_, fun d1 => bad (fun q => d1 q.2.2.2.2.1.2.2.2.2.1)⟩
    refine M_get4 hE (by omega) (by omega) ?_
    rw [wL_id (z := u4 f (a + 24)) (by omega) (by omega)]
    refine ⟨fun d2 => ?_, fun d2 => bad (fun q => d2 q.2.2.2.2.1.2.2.2.2.2.1)⟩
    refine M_get4 hE (by omega) (by omega) ?_
    rw [wL_id (z := u4 f (a + 28)) (by omega) (by omega)]
    refine ⟨fun d3 => k198 s0 1 ?_, fun d3 => bad (fun q => d3 q.2.2.2.2.1.2.2.2.2.2.2.1)⟩
    rcases e with ⟨rfl, e1, e2, e3⟩ | ⟨rfl, e1⟩
    · exact Or.inl ⟨by decide, e1, e2, e3, d1, d2, d3⟩
    · exact Or.inr ⟨by decide, e1⟩
  have l3 := lu_rng hf 3 a a0 (by omega)
  rw [show (256 : Int) ^ 3 = 16777216 from rfl] at l3
  have l8 := lu_rng hf 8 (a + 3) (by omega) (by omega)
  rw [show (256 : Int) ^ 8 = 18446744073709551616 from rfl] at l8
  refine M_get (n := 3) hE (by decide) a0 (by omega) ?_
  rw [wL_id (z := lu f a 3) (by omega) (by omega), wL_id (z := lu f a 3) (by omega) (by omega)]
  refine ⟨fun d1 => ?_, fun d1 => k132 0 (Or.inr ⟨rfl, fun q => d1 q.2.2.2.2.1.1⟩)⟩
  refine M_get (n := 8) hE (by decide) (by omega) (by omega) ?_
  apply q_M_bootName
  have e8 : wL (wL (lu f (a + 3) 8)) = wL 2314885754712905797 ↔ lu f (a + 3) 8 = 2314885754712905797 := by
    unfold wL
    omega
  rw [e8]
  refine ⟨fun d2 => ?_, fun d2 => k132 0 (Or.inr ⟨rfl, fun q => d2 q.2.2.2.2.1.2.1⟩)⟩
  refine M_isZero h5 hE (by omega) (by omega) (by omega) (fun z1 => ⟨fun c => absurd c (by decide), fun _ => k132 1 (Or.inl ⟨rfl, d1, d2, z1⟩)⟩) (fun z1 => ⟨fun _ => k132 0 (Or.inr ⟨rfl, fun q => z1 q.2.2.2.2.1.2.2.1⟩), fun c => absurd wI_0 c⟩)
end MBOOT
