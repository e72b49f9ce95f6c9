/-! longest rows; count, spoil, unmount; the calls that are refused on a volume that is not mounted -/
theorem bA_2 {x : Int} (h0 : 0 ≤ x) (h1 : x < 256) : bA x 2 = 2 * (x / 2 % 2) := by
  have e : Int32.ofInt x &&& Int32.ofInt 2 = Int32.ofInt (2 * (x / 2 % 2)) := by
    apply Int32.toBitVec_inj.mp
    rw [Int32.toBitVec_and]
    simp only [Int32.toBitVec_ofInt]
    apply BitVec.eq_of_toNat_eq
    rw [BitVec.toNat_and]
    simp only [BitVec.toNat_ofInt]
    rw [show ((2 ^ 32 : Nat) : Int) = 4294967296 from rfl, show (x % 4294967296).toNat = x.toNat by omega, show ((2 : Int) % 4294967296).toNat = 2 from rfl]
    have hx : x = (x.toNat : Int) := by omega
    generalize x.toNat = n at hx
    subst hx
    apply Nat.eq_of_testBit_eq
    intro i
    rw [Nat.testBit_and]
    have hv : ((2 * ((n : Int) / 2 % 2)) % 4294967296).toNat = 2 * (n / 2 % 2) := by omega
    rw [hv]
    match i with
    | 0 => rw [show Nat.testBit 2 0 = false from rfl, Bool.and_false, Nat.testBit_eq_decide_div_mod_eq]; symm; rw [decide_eq_false_iff_not]; omega
    | 1 =>
      rw [show Nat.testBit 2 1 = true from rfl, Bool.and_true, Nat.testBit_eq_decide_div_mod_eq, Nat.testBit_eq_decide_div_mod_eq]
      congr 1
      apply propext
      omega
    | i + 2 =>
      have h2 : Nat.testBit 2 (i + 2) = false := by
        rw [Nat.testBit_eq_decide_div_mod_eq, decide_eq_false_iff_not]
        have : (2 : Nat) / 2 ^ (i + 2) = 0 := Nat.div_eq_of_lt (by have := Nat.pow_le_pow_right (show 0 < 2 by decide) (show 2 ≤ i + 2 by omega); omega)
        omega
      rw [h2, Bool.and_false, Nat.testBit_eq_decide_div_mod_eq]
      symm
      rw [decide_eq_false_iff_not]
      have : 2 * (n / 2 % 2) / 2 ^ (i + 2) = 0 := Nat.div_eq_of_lt (by have := Nat.pow_le_pow_right (show 0 < 2 by decide) (show 2 ≤ i + 2 by omega); omega)
      omega
  unfold bA
  rw [e, wI_eq, wI_id (by omega) (by omega)]
section COUNT
variable {G : GG} {h : AH} {Mn : AH → Prop}
theorem S_longestRow {P : Int → AH → Prop} (hb : By (h 3)) (hn : 16 ≤ h 7 1 ∧ h 7 1 ≤ 100) (hm : 2 ≤ h 7 3 ∧ h 7 3 ≤ 101) (H : P (lo (h 3) (h 7 3) (h 7 1).toNat) h) : RunsI G 120 [vR 7] h P := by
  apply q_S_longestRow
  have key : ∀ (m i : Nat), (i : Int) + m = h 7 1 → Go G (pI P) 120 6 [some (vR 7), some (vI (lo (h 3) (h 7 3) i)), some (vI (cu (h 3) (h 7 3) i)), some (vI (2 + (i : Int)))] [] h := by
    intro m
    induction m with
    | zero =>
      intro i hi
      apply q_S_longestRow_c6
      rw [wI_id (z := h 7 1 + 1) (by omega) (by omega), wI_id (z := 2 + (i : Int)) (by omega) (by omega)]
      rw [show (h 7 1).toNat = i by omega] at H
      exact ⟨fun _ => H, fun c => by omega⟩
    | succ m ih =>
      intro i hi
      apply q_S_longestRow_c6
      rw [wI_id (z := h 7 1 + 1) (by omega) (by omega), wI_id (z := 2 + (i : Int)) (by omega) (by omega)]
      refine ⟨fun c => by omega, fun _ => S_isTaken hb hm (by omega) ?_⟩
      have nx := ih (i + 1) (by omega)
      have lr := lo_rng (h 3) (h 7 3) i
      have cr := cu_rng (h 3) (h 7 3) i
      have e1 : cu (h 3) (h 7 3) (i + 1) = if tb (h 3) (h 7 3) (2 + i) = 1 then 0 else cu (h 3) (h 7 3) i + 1 := rfl
      have e2 : lo (h 3) (h 7 3) (i + 1) = if lo (h 3) (h 7 3) i < cu (h 3) (h 7 3) (i + 1) then cu (h 3) (h 7 3) (i + 1) else lo (h 3) (h 7 3) i := rfl
      rw [show (2 + ((i + 1 : Nat) : Int)) = 2 + (i : Int) + 1 by omega] at nx
      rcases tb_01 (h 3) (h 7 3) (2 + (i : Int)) with q | q
      · rw [if_neg (by rw [q]; decide)] at e1
        rw [q]
        rw [e2, e1] at nx
        refine ⟨fun _ => ?_, fun c => absurd (by decide) c⟩
        rw [mm_0, wI_id (z := lo (h 3) (h 7 3) i) (by omega) (by omega), wI_id (z := cu (h 3) (h 7 3) i + 1) (by omega) (by omega)]
        exact nx
      · rw [if_pos q] at e1
        rw [q]
        rw [e2, e1] at nx
        refine ⟨fun c => absurd c (by decide), fun _ => ?_⟩
        rw [mm_0, wI_id (z := lo (h 3) (h 7 3) i) (by omega) (by omega), wI_0]
        exact nx
  exact key (h 7 1).toNat 0 (by omega)
theorem M_longestFree {P : Int → AH → Prop} (hb : Sb (h 35)) (hn : 16 ≤ h 34 0 ∧ h 34 0 ≤ 100) (hm : 2 ≤ h 34 2 ∧ h 34 2 ≤ 101) (H : P (lo (ub (h 35)) (h 34 2) (h 34 0).toNat) h) : RunsI G 275 [vR 34] h P := by
  apply q_M_longestFree
  have key : ∀ (m i : Nat), (i : Int) + m = h 34 0 → Go G (pI P) 275 6 [some (vR 34), some (vI (lo (ub (h 35)) (h 34 2) i)), some (vI (cu (ub (h 35)) (h 34 2) i)), some (vI (2 + (i : Int)))] [] h := by
    intro m
    induction m with
    | zero =>
      intro i hi
      apply q_M_longestFree_c6
      rw [wI_id (z := h 34 0 + 1) (by omega) (by omega), wI_id (z := 2 + (i : Int)) (by omega) (by omega)]
      rw [show (h 34 0).toNat = i by omega] at H
      exact ⟨fun _ => H, fun c => by omega⟩
    | succ m ih =>
      intro i hi
      apply q_M_longestFree_c6
      have lr := lo_rng (ub (h 35)) (h 34 2) i
      have cr := cu_rng (ub (h 35)) (h 34 2) i
      rw [wI_id (z := h 34 0 + 1) (by omega) (by omega), wI_id (z := 2 + (i : Int)) (by omega) (by omega), wI_id (z := lo (ub (h 35)) (h 34 2) i) (by omega) (by omega), wI_id (z := cu (ub (h 35)) (h 34 2) i + 1) (by omega) (by omega)]
      refine ⟨fun c => by omega, fun _ => M_isTaken hb hm (by omega) ?_⟩
      have nx := ih (i + 1) (by omega)
      have e1 : cu (ub (h 35)) (h 34 2) (i + 1) = if tb (ub (h 35)) (h 34 2) (2 + i) = 1 then 0 else cu (ub (h 35)) (h 34 2) i + 1 := rfl
      have e2 : lo (ub (h 35)) (h 34 2) (i + 1) = if lo (ub (h 35)) (h 34 2) i < cu (ub (h 35)) (h 34 2) (i + 1) then cu (ub (h 35)) (h 34 2) (i + 1) else lo (ub (h 35)) (h 34 2) i := rfl
      rw [show (2 + ((i + 1 : Nat) : Int)) = 2 + (i : Int) + 1 by omega] at nx
      rcases tb_01 (ub (h 35)) (h 34 2) (2 + (i : Int)) with q | q
      · rw [if_neg (by rw [q]; decide)] at e1
        rw [q]
        rw [e2, e1] at nx
        refine ⟨fun _ => ⟨fun c => ?_, fun c => ?_⟩, fun c => absurd (by decide) c⟩
        · rw [if_neg (by omega)] at nx; exact nx
        · rw [if_pos (by omega)] at nx; exact nx
      · rw [if_pos q] at e1
        rw [q]
        rw [e2, e1] at nx
        refine ⟨fun c => absurd c (by decide), fun _ => ⟨fun c => ?_, fun c => by omega⟩⟩
        rw [if_neg (by omega)] at nx
        exact nx
  exact key (h 34 0).toNat 0 (by omega)
theorem tb_congr {f g : Nat → Int} {mp c : Int} (hm : 2 ≤ mp ∧ mp ≤ 101) (hc : 2 ≤ c ∧ c ≤ 101) (hfg : ∀ k, k < 13824 → f k = g k) : tb f mp c = tb g mp c := by
  unfold tb rd ca
  rw [hfg _ (by omega)]
theorem fr_congr {f g : Nat → Int} {mp : Int} (hm : 2 ≤ mp ∧ mp ≤ 101) (hfg : ∀ k, k < 13824 → f k = g k) : ∀ {i : Nat}, i ≤ 100 → fr f mp i = fr g mp i
  | 0, _ => rfl
  | i + 1, hi => by
    show fr f mp i + (1 - tb f mp (2 + i)) = fr g mp i + (1 - tb g mp (2 + i))
    rw [fr_congr hm hfg (by omega), tb_congr hm (by omega) hfg]
theorem cu_congr {f g : Nat → Int} {mp : Int} (hm : 2 ≤ mp ∧ mp ≤ 101) (hfg : ∀ k, k < 13824 → f k = g k) : ∀ {i : Nat}, i ≤ 100 → cu f mp i = cu g mp i
  | 0, _ => rfl
  | i + 1, hi => by
    show (if tb f mp (2 + i) = 1 then 0 else cu f mp i + 1) = (if tb g mp (2 + i) = 1 then 0 else cu g mp i + 1)
    rw [cu_congr hm hfg (by omega), tb_congr hm (by omega) hfg]
theorem lo_congr {f g : Nat → Int} {mp : Int} (hm : 2 ≤ mp ∧ mp ≤ 101) (hfg : ∀ k, k < 13824 → f k = g k) : ∀ {i : Nat}, i ≤ 100 → lo f mp i = lo g mp i
  | 0, _ => rfl
  | i + 1, hi => by
    show (if lo f mp i < cu f mp (i + 1) then cu f mp (i + 1) else lo f mp i) = (if lo g mp i < cu g mp (i + 1) then cu g mp (i + 1) else lo g mp i)
    rw [lo_congr hm hfg (by omega), cu_congr hm hfg hi]
/-- the plain numbers of a mounted volume -/
def Mb (h : AH) : Prop := h 7 1 = h 34 0 ∧ (16 ≤ h 7 1 ∧ h 7 1 ≤ 100) ∧ h 7 2 = h 34 1 ∧ (2 ≤ h 7 2 ∧ h 7 2 ≤ h 7 1 + 1) ∧ h 7 3 = h 34 2 ∧ (2 ≤ h 7 3 ∧ h 7 3 ≤ h 7 1 + 1)
theorem eq3 (hI : Inv Mn h) : ∀ k, k < 13824 → h 3 k = ub (h 35) k := fun k hk => (hI.1.1.1.2.1 k hk).trans (hI.1.1.2.2.2 k hk)
theorem T_count (hMb : ∀ h, Mn h → Mb h) (hI : Inv Mn h) {x : Int} (hx : in32 x) : okI G (Inv Mn) 162 276 [vI x] h := by
  unfold in32 at hx
  obtain ⟨s1, s2⟩ := wI_st hI
  have c01 := hI.1.2.1.2.2.2.2.1
  have e3 := eq3 hI
  have b3 : By (h 3) := hI.1.1.1.1.2.1
  have sb := hI.1.1.2.1
  apply q_V_count
  rw [wI_id (z := x) (by omega) (by omega), s1]
  have mod : ∀ (r : Int), (¬ (0 ≤ x ∧ x ≤ 5) → r = -1) → (0 ≤ x ∧ x ≤ 3 → h 0 8 = 0 → r = -2) → (x = 4 → r = h 1 4) → (x = 5 → r = h 0 8) → (x = 0 → h 0 8 = 1 → r = h 7 1) → (x = 1 → h 0 8 = 1 → r = fr (h 3) (h 7 3) (h 7 1).toNat) → (x = 2 → h 0 8 = 1 → r = lo (h 3) (h 7 3) (h 7 1).toNat) → (x = 3 → h 0 8 = 1 → r = rd (h 3) 44 / 2 % 2) → RunsI G 276 [vR 34, vI x] h (fun r2 h2 => wI r = wI r2 ∧ Inv Mn h2) := by
    intro r n1 n2 n4 n5 m0 m1 m2 m3
    apply q_M_count
    rw [wI_id (z := x) (by clear n1 n2 n4 n5 m0 m1 m2 m3; omega) (by clear n1 n2 n4 n5 m0 m1 m2 m3; omega)]
    refine M_in (by clear n1 n2 n4 n5 m0 m1 m2 m3; omega) (by clear n1 n2 n4 n5 m0 m1 m2 m3; omega) (by clear n1 n2 n4 n5 m0 m1 m2 m3; omega) (fun a1 a2 => ?_) (fun a => ⟨fun _ => ⟨by rw [n1 a], hI⟩, fun c => absurd (by decide) c⟩)
    rw [s2]
    refine ⟨fun c => absurd c (by decide), fun _ => ⟨fun c => ⟨fun c0 => ⟨by rw [n2 (by clear n1 n2 n4 n5 m0 m1 m2 m3; omega) c0], hI⟩, fun c0 => ?_⟩, fun c => ⟨fun c4 => ⟨by rw [n4 c4, hI.1.2.1.2.2.1], hI⟩, fun c4 => ⟨fun c0 => ⟨by rw [n5 (by clear n1 n2 n4 n5 m0 m1 m2 m3; omega), c0], hI⟩, fun c0 => ⟨by rw [n5 (by clear n1 n2 n4 n5 m0 m1 m2 m3; omega), show h 0 8 = 1 by clear n1 n2 n4 n5 m0 m1 m2 m3; omega], hI⟩⟩⟩⟩⟩
    have hm1 : h 0 8 = 1 := by clear n1 n2 n4 n5 m0 m1 m2 m3; omega
    obtain ⟨b1, b2, -, -, b5, b6⟩ := hMb h (hI.2 hm1)
    refine ⟨fun c1 => ⟨by rw [m0 c1 hm1, b1], hI⟩, fun c1 => ⟨fun c2 => M_freeMany sb (by clear n1 n2 n4 n5 m0 m1 m2 m3; omega) (by clear n1 n2 n4 n5 m0 m1 m2 m3; omega) ⟨?_, hI⟩, fun c2 => ⟨fun c3 => M_longestFree sb (by clear n1 n2 n4 n5 m0 m1 m2 m3; omega) (by clear n1 n2 n4 n5 m0 m1 m2 m3; omega) ⟨?_, hI⟩, fun c3 => ⟨⟨by decide, by decide⟩, ?_, hI⟩⟩⟩⟩
    · rw [m1 c2 hm1, ← b5, ← b1, fr_congr (by clear n1 n2 n4 n5 m0 m1 m2 m3; omega) e3 (by clear n1 n2 n4 n5 m0 m1 m2 m3; omega)]
    · rw [m2 c3 hm1, ← b5, ← b1, lo_congr (by clear n1 n2 n4 n5 m0 m1 m2 m3; omega) e3 (by clear n1 n2 n4 n5 m0 m1 m2 m3; omega)]
    · rw [m3 (by clear n1 n2 n4 n5 m0 m1 m2 m3; omega) hm1]
      have v := e3 44 (by clear n1 n2 n4 n5 m0 m1 m2 m3; omega)
      have r5 := sb 44 (by clear n1 n2 n4 n5 m0 m1 m2 m3; omega)
      congr 1
      show h 3 44 / 2 % 2 = bA (wI (h 35 44) / 2) 1
      rw [bA_1, wI_id (z := h 35 44) (by clear n1 n2 n4 n5 m0 m1 m2 m3; omega) (by clear n1 n2 n4 n5 m0 m1 m2 m3; omega), v]
      unfold ub
      clear n1 n2 n4 n5 m0 m1 m2 m3
      omega
  refine ⟨fun c => mod _ (fun _ => rfl) (by omega) (by omega) (by omega) (by omega) (by omega) (by omega) (by omega), fun c => ⟨fun c5 => ⟨fun c4 => mod _ (by omega) (by omega) (fun _ => rfl) (by omega) (by omega) (by omega) (by omega) (by omega), fun c4 => ⟨fun q5 => ⟨fun c0 => mod _ (by omega) (by omega) (by omega) (fun _ => c0.symm) (by omega) (by omega) (by omega) (by omega), fun c0 => mod _ (by omega) (by omega) (by omega) (by omega) (by omega) (by omega) (by omega) (by omega)⟩, fun q5 => ⟨fun c0 => mod _ (by omega) (fun _ _ => rfl) (by omega) (by omega) (by omega) (by omega) (by omega) (by omega), fun c0 => ?_⟩⟩⟩, fun c5 => mod _ (fun _ => rfl) (by omega) (by omega) (by omega) (by omega) (by omega) (by omega) (by omega)⟩⟩
  have hm1 : h 0 8 = 1 := by omega
  obtain ⟨b1, b2, -, -, b5, b6⟩ := hMb h (hI.2 hm1)
  refine ⟨fun c1 => mod _ (by omega) (by omega) (by omega) (by omega) (fun _ _ => rfl) (by omega) (by omega) (by omega), fun c1 => ⟨fun c2 => S_freeOnes b3 b2 (by omega) (mod _ (by omega) (by omega) (by omega) (by omega) (by omega) (fun _ _ => rfl) (by omega) (by omega)), fun c2 => ⟨fun c3 => S_longestRow b3 b2 (by omega) (mod _ (by omega) (by omega) (by omega) (by omega) (by omega) (by omega) (fun _ _ => rfl) (by omega)), fun c3 => D_get (by omega) (by omega) ?_⟩⟩⟩
  have r3 := b3 44 (by omega)
  have e2 : bA (rd (h 3) 44) 2 = 2 * (rd (h 3) 44 / 2 % 2) := by
    exact bA_2 r3.1 r3.2
  rw [e2, wI_id (by omega) (by omega)]
  exact ⟨fun q => mod _ (by omega) (by omega) (by omega) (by omega) (by omega) (by omega) (by omega) (fun _ _ => by omega), fun q => mod _ (by omega) (by omega) (by omega) (by omega) (by omega) (by omega) (by omega) (fun _ _ => by omega)⟩
end COUNT
