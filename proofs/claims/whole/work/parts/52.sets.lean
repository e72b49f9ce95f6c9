/-! a SET that is right by itself -/
theorem wI_wI (x : Int) : wI (wI x) = wI x := by unfold wI; omega
theorem at16 (b : BitVec 32) (h : b &&& 4294967278#32 = 0#32) : b.toNat = 0 ∨ b.toNat = 1 ∨ b.toNat = 16 ∨ b.toNat = 17 := by
  have hb : b.toNat < 32 := by
    have e : b.toNat &&& 4294967278 = 0 := by
      have := congrArg BitVec.toNat h
      rw [BitVec.toNat_and] at this
      exact this
    have e2 : b.toNat / 32 &&& 134217727 = 0 := by
      have e3 : (b.toNat &&& 4294967278) / 2 ^ 5 = 0 := by rw [e]
      rw [Nat.and_div_two_pow] at e3
      exact e3
    have e4 : b.toNat / 32 &&& (2 ^ 27 - 1) = 0 := e2
    rw [Nat.and_two_pow_sub_one_eq_mod] at e4
    have := b.isLt
    omega
  have k : ∀ n : Nat, n < 32 → (n &&& 4294967278) = 0 → n = 0 ∨ n = 1 ∨ n = 16 ∨ n = 17 := by decide
  refine k _ hb ?_
  have := congrArg BitVec.toNat h
  rw [BitVec.toNat_and] at this
  exact this
def At (v : Int) : Prop := v = 0 ∨ v = 1 ∨ v = 16 ∨ v = 17
theorem bA_18 {v : Int} (h0 : 0 ≤ v) (h1 : v < 65536) : bA v (-18) = 0 ↔ At v := by
  constructor
  · intro h
    unfold bA at h
    have e : (Int32.ofInt v &&& Int32.ofInt (-18)) = Int32.ofInt 0 := by
      rw [← Int32.ofInt_toInt (Int32.ofInt v &&& Int32.ofInt (-18)), h]
    have e2 := congrArg Int32.toBitVec e
    rw [Int32.toBitVec_and] at e2
    have e3 := at16 (Int32.ofInt v).toBitVec (by simpa using e2)
    have e4 : (Int32.ofInt v).toBitVec.toNat = v.toNat := by
      simp only [Int32.toBitVec_ofInt, BitVec.toNat_ofInt]
      omega
    rw [e4] at e3
    unfold At
    omega
  · intro h
    rcases h with rfl | rfl | rfl | rfl <;> decide
/-- letters of a NAME: where they lie, what they are -/
def la (tl i : Int) : Int := tl + 2 * i + (if i < 15 then 2 else 4)
def lt (f : Nat → Int) (tl : Int) : Nat → Int := fun i => u2 f (la tl (i : Int))
def hsh (g nm : Nat → Int) : Nat → Int
  | 0 => 0
  | i + 1 => rl2 (rl2 (hsh g nm i) (g (nm i).toNat % 256)) (g (nm i).toNat / 256)
theorem hsh_rng (g nm : Nat → Int) : ∀ i : Nat, 0 ≤ hsh g nm i ∧ hsh g nm i < 65536
  | 0 => by simp only [hsh]; omega
  | i + 1 => by rw [hsh]; exact rl2_rng _ _
theorem hsh_congr {g g' nm nm' : Nat → Int} : ∀ {s : Nat}, (∀ i, i < s → nm i = nm' i ∧ 0 ≤ nm i ∧ nm i < 256) → (∀ i, i < 256 → g i = g' i) → hsh g nm s = hsh g' nm' s
  | 0, _, _ => rfl
  | s + 1, h, hg => by
    rw [hsh, hsh, hsh_congr (s := s) (fun i hi => h i (by omega)) hg]
    have q := h s (by omega)
    rw [← q.1, hg _ (by omega)]
def so (f : Nat → Int) (hd tl : Int) (j : Nat) : Int := if j < 64 then rd f (hd + j) else rd f (tl + (j - 64))
def ssum (f : Nat → Int) (hd tl : Int) : Nat → Int
  | 0 => 0
  | j + 1 => if j = 2 ∨ j = 3 then ssum f hd tl j else rl2 (ssum f hd tl j) (so f hd tl j)
theorem ssum_rng (f : Nat → Int) (hd tl : Int) : ∀ i : Nat, 0 ≤ ssum f hd tl i ∧ ssum f hd tl i < 65536
  | 0 => by simp only [ssum]; omega
  | i + 1 => by
    rw [ssum]
    split
    · exact ssum_rng f hd tl i
    · exact rl2_rng _ _
theorem ssum_congr {f f' : Nat → Int} {hd tl hd' tl' : Int} : ∀ {s : Nat}, (∀ j : Nat, j < s → j ≠ 2 → j ≠ 3 → so f hd tl j = so f' hd' tl' j) → ssum f hd tl s = ssum f' hd' tl' s
  | 0, _ => rfl
  | s + 1, h => by
    rw [ssum, ssum, ssum_congr (s := s) (fun j hj => h j (by omega))]
    by_cases q : s = 2 ∨ s = 3
    · rw [if_pos q, if_pos q]
    · rw [if_neg q, if_neg q, h s (by omega) (by omega) (by omega)]
def isD (f : Nat → Int) (hd : Int) : Prop := 16 ≤ u2 f (hd + 4)
def isR (f : Nat → Int) (hd : Int) : Prop := rd f (hd + 33) = 3
def HdOK (f : Nat → Int) (hd room : Int) : Prop := rd f hd = 133 ∧ 1 + rd f (hd + 1) ≤ room ∧ At (u2 f (hd + 4)) ∧ zer f (hd + 6) (hd + 8) ∧ zer f (hd + 16) (hd + 32)
def StOK (f : Nat → Int) (hd : Int) : Prop := rd f (hd + 32) = 192 ∧ (rd f (hd + 33) = 1 ∨ rd f (hd + 33) = 3) ∧ rd f (hd + 34) = 0 ∧ zer f (hd + 38) (hd + 40) ∧ zer f (hd + 48) (hd + 52)
def LnOK (f : Nat → Int) (n hd : Int) : Prop := u4 f (hd + 56) ≤ 128 * n ∧ u4 f (hd + 40) = u4 f (hd + 56) ∧ u4 f (hd + 60) = 0 ∧ u4 f (hd + 44) = 0 ∧ (isD f hd → u4 f (hd + 56) ≠ 0 ∧ u4 f (hd + 56) % 128 = 0) ∧ (u4 f (hd + 56) = 0 → u4 f (hd + 52) = 0 ∧ ¬ isR f hd) ∧ (u4 f (hd + 56) ≠ 0 → 2 ≤ u4 f (hd + 52) ∧ u4 f (hd + 52) ≤ n + 1)
def NmOK (f g : Nat → Int) (hd tl : Int) : Prop := rd f (hd + 35) ≤ 30 ∧ 1 + rd f (hd + 1) = 2 + (rd f (hd + 35) + 14) / 15 ∧ isNm (lt f tl) (rd f (hd + 35)) ∧ hsh g (lt f tl) (rd f (hd + 35)).toNat = u2 f (hd + 36) ∧ (∀ i : Int, 0 ≤ i → i < rd f (hd + 1) - 1 → rd f (tl + 32 * i) = 193 ∧ rd f (tl + 32 * i + 1) = 0) ∧ (∀ i : Nat, rd f (hd + 35) ≤ i → (i : Int) < 15 * (rd f (hd + 1) - 1) → lt f tl i = 0)
def SmOK (f : Nat → Int) (hd tl : Int) : Prop := ssum f hd tl (32 * (1 + rd f (hd + 1))).toNat = u2 f (hd + 2)
def SetOK (f g : Nat → Int) (n hd tl room : Int) : Prop := HdOK f hd room ∧ StOK f hd ∧ LnOK f n hd ∧ NmOK f g hd tl ∧ SmOK f hd tl
section SETS
variable {G : GG} {h : AH}
theorem D_u2 {P : Int → AH → Prop} {x : Int} (hd : By (h 3)) (h0 : 0 ≤ x) (h1 : x + 1 < 13824) (H : P (u2 (h 3) x) h) : RunsI G 55 [vR 1, vI x] h P := D_get2 hd h0 h1 H
theorem E_isDirectory {P : Int → AH → Prop} {x : Int} (hb : By (h 3)) (h0 : 0 ≤ x) (h1 : x + 64 ≤ 13824) (ha : At (u2 (h 3) (x + 4))) (H1 : isD (h 3) x → P 1 h) (H0 : ¬ isD (h 3) x → P 0 h) : RunsI G 83 [vR 10, vI x] h P := by
  apply q_E_isDirectory
  refine D_u2 hb (by omega) (by omega) ?_
  unfold isD at H1 H0
  rcases ha with e | e | e | e <;> rw [e] at H1 H0 ⊢
  · exact ⟨fun _ => ⟨Or.inl rfl, H0 (by decide)⟩, fun c => absurd (by decide) c⟩
  · exact ⟨fun _ => ⟨Or.inl rfl, H0 (by decide)⟩, fun c => absurd (by decide) c⟩
  · exact ⟨fun c => absurd c (by decide), fun _ => ⟨Or.inr rfl, H1 (by decide)⟩⟩
  · exact ⟨fun c => absurd c (by decide), fun _ => ⟨Or.inr rfl, H1 (by decide)⟩⟩
theorem E_isRun {P : Int → AH → Prop} {x : Int} (hb : By (h 3)) (h0 : 0 ≤ x) (h1 : x + 64 ≤ 13824) (H1 : isR (h 3) x → P 1 h) (H0 : ¬ isR (h 3) x → P 0 h) : RunsI G 85 [vR 10, vI x] h P := by
  apply q_E_isRun
  have b := hb.rd (show 0 ≤ x + 33 by omega) (show x + 33 < 13824 by omega)
  refine D_get (by omega) (by omega) ?_
  rw [wI_id (by omega) (by omega)]
  exact ⟨fun c => ⟨Or.inr rfl, H1 c⟩, fun c => ⟨Or.inl rfl, H0 c⟩⟩
theorem E_isRightStream {P : Int → AH → Prop} {x : Int} (hb : By (h 3)) (h0 : 0 ≤ x) (h1 : x + 64 ≤ 13824) (H1 : StOK (h 3) x → P 1 h) (H0 : ¬ StOK (h 3) x → P 0 h) : RunsI G 97 [vR 10, vI x] h P := by
  unfold StOK at H1 H0
  have fin : rd (h 3) (x + 32) = 192 → (rd (h 3) (x + 33) = 1 ∨ rd (h 3) (x + 33) = 3) → Go G (pI P) 97 51 [some (vR 10), none, some (vI (x + 32))] [] h := by
    intro c1 c2
    apply q_E_isRightStream_c51
    have b2 := hb.rd (show 0 ≤ x + 32 + 2 by omega) (show x + 32 + 2 < 13824 by omega)
    refine D_get (by omega) (by omega) ?_
    rw [wI_id (by omega) (by omega)]
    rw [show x + 32 + 2 = x + 34 by omega]
    refine ⟨fun c3 => ?_, fun c3 => ⟨Or.inl rfl, H0 (fun q => c3 q.2.2.1)⟩⟩
    refine D_isBlank hb (by omega) (by omega) (by omega) (fun z => ?_) (fun z => ⟨fun _ => ⟨Or.inl rfl, H0 (fun q => z ?_)⟩, fun c => absurd wI_0 c⟩)
    · refine ⟨fun c => absurd c (by decide), fun _ => ?_⟩
      refine D_isBlank hb (by omega) (by omega) (by omega) (fun z2 => ?_) (fun z2 => ⟨fun _ => ⟨Or.inl rfl, H0 (fun q => z2 ?_)⟩, fun c => absurd wI_0 c⟩)
      · refine ⟨fun c => absurd c (by decide), fun _ => ⟨Or.inr rfl, H1 ⟨c1, c2, c3, ?_, ?_⟩⟩⟩
        · rw [show x + 32 + 6 = x + 38 by omega, show x + 32 + 8 = x + 40 by omega] at z; exact z
        · rw [show x + 32 + 16 = x + 48 by omega, show x + 32 + 20 = x + 52 by omega] at z2; exact z2
      · rw [show x + 32 + 16 = x + 48 by omega, show x + 32 + 20 = x + 52 by omega]; exact q.2.2.2.2
    · rw [show x + 32 + 6 = x + 38 by omega, show x + 32 + 8 = x + 40 by omega]; exact q.2.2.2.1
  apply q_E_isRightStream
  have b0 := hb.rd (show 0 ≤ x + 32 by omega) (show x + 32 < 13824 by omega)
  have b1 := hb.rd (show 0 ≤ x + 33 by omega) (show x + 33 < 13824 by omega)
  rw [show x + 32 + 1 = x + 33 by omega]
  refine D_get (by omega) (by omega) ?_
  rw [wI_id (by omega) (by omega)]
  refine ⟨fun c1 => ?_, fun c1 => ⟨Or.inl rfl, H0 (fun q => c1 q.1)⟩⟩
  refine D_get (by omega) (by omega) ?_
  rw [wI_id (by omega) (by omega)]
  refine ⟨fun c2 => fin c1 (Or.inl c2), fun c2 => ?_⟩
  refine D_get (by omega) (by omega) ?_
  rw [wI_id (by omega) (by omega)]
  exact ⟨fun c3 => fin c1 (Or.inr c3), fun c3 => ⟨Or.inl rfl, H0 (fun q => by omega)⟩⟩
theorem E_isRightLength {P : Int → AH → Prop} {x n : Int} (hb : By (h 3)) (h0 : 0 ≤ x) (h1 : x + 64 ≤ 13824) (hn : 16 ≤ n ∧ n ≤ 100) (ha : At (u2 (h 3) (x + 4))) (H1 : LnOK (h 3) n x → P 1 h) (H0 : ¬ LnOK (h 3) n x → P 0 h) : RunsI G 98 [vR 10, vI x, vI n] h P := by
  unfold LnOK at H1 H0
  have uL := u4_rng hb (show 0 ≤ x + 56 by omega) (show x + 56 + 3 < 13824 by omega)
  have uA := u4_rng hb (show 0 ≤ x + 40 by omega) (show x + 40 + 3 < 13824 by omega)
  have uF := u4_rng hb (show 0 ≤ x + 52 by omega) (show x + 52 + 3 < 13824 by omega)
  have uM := u4_rng hb (show 0 ≤ x + 60 by omega) (show x + 60 + 3 < 13824 by omega)
  have uB := u4_rng hb (show 0 ≤ x + 44 by omega) (show x + 44 + 3 < 13824 by omega)
  apply q_E_isRightLength
  apply q_E_length
  refine D_get4 hb (by omega) (by omega) ?_
  rw [wI_wI]
  generalize eL : u4 (h 3) (x + 56) = L at uL H1 H0
  generalize eA : u4 (h 3) (x + 40) = A at uA H1 H0
  generalize eF : u4 (h 3) (x + 52) = F at uF H1 H0
  generalize eM : u4 (h 3) (x + 60) = M at uM H1 H0
  generalize eB : u4 (h 3) (x + 44) = B at uB H1 H0
  by_cases c0 : L ≤ 128 * n
  · have eW : wI L = L := wI_id (by omega) (by omega)
    rw [eW, wI_id (z := 128 * n) (by omega) (by omega)]
    refine ⟨fun c => by omega, fun _ => ⟨fun c => by omega, fun _ => ?_⟩⟩
    refine D_get4 hb (by omega) (by omega) ?_
    rw [wI_wI, eA]
    refine ⟨fun c1 => ?_, fun c1 => ⟨Or.inl rfl, H0 (fun q => c1 (by rw [q.2.1]; exact eW))⟩⟩
    have c1' : A = L := by unfold wI at c1; omega
    refine D_get4 hb (by omega) (by omega) ?_
    rw [wI_wI, show x + 56 + 4 = x + 60 by omega, eM]
    refine ⟨fun c2 => ?_, fun c2 => ⟨Or.inl rfl, H0 (fun q => c2 (by rw [q.2.2.1]; rfl))⟩⟩
    have c2' : M = 0 := by unfold wI at c2; omega
    refine D_get4 hb (by omega) (by omega) ?_
    rw [wI_wI, show x + 40 + 4 = x + 44 by omega, eB]
    refine ⟨fun c3 => ?_, fun c3 => ⟨Or.inl rfl, H0 (fun q => c3 (by rw [q.2.2.2.1]; rfl))⟩⟩
    have c3' : B = 0 := by unfold wI at c3; omega
    have fin : (isD (h 3) x → L ≠ 0 ∧ L % 128 = 0) → Go G (pI P) 98 92 [some (vR 10), some (vI x), some (vI n), some (vI L)] [] h := by
      intro hd
      apply q_E_isRightLength_c92
      rw [eW]
      refine ⟨fun c4 => ?_, fun c4 => ?_⟩
      · apply q_E_first
        refine D_get4 hb (by omega) (by omega) ?_
        rw [wI_wI, eF]
        refine ⟨fun c5 => ?_, fun c5 => ⟨Or.inl rfl, H0 (fun q => c5 (by rw [(q.2.2.2.2.2.1 c4).1]; rfl))⟩⟩
        have c5' : F = 0 := by unfold wI at c5; omega
        refine E_isRun hb h0 h1 (fun c6 => ?_) (fun c6 => ?_)
        · exact ⟨fun c => absurd c (by decide), fun _ => ⟨Or.inl rfl, H0 (fun q => (q.2.2.2.2.2.1 c4).2 c6)⟩⟩
        · exact ⟨fun _ => ⟨Or.inr rfl, H1 ⟨c0, c1', c2', c3', hd, fun _ => ⟨c5', c6⟩, fun c => absurd c4 c⟩⟩, fun c => absurd wI_0 c⟩
      · apply q_E_first
        refine D_get4 hb (by omega) (by omega) ?_
        rw [wI_wI, eF]
        refine ⟨fun c5 => ⟨Or.inl rfl, H0 (fun q => ?_)⟩, fun c5 => ?_⟩
        · have := q.2.2.2.2.2.2 c4
          rw [wI_id (by omega) (by omega)] at c5
          omega
        · apply q_E_first
          refine D_get4 hb (by omega) (by omega) ?_
          rw [wI_wI, eF, wI_id (z := n + 1) (by omega) (by omega)]
          refine ⟨fun c6 => ⟨Or.inl rfl, H0 (fun q => ?_)⟩, fun c6 => ⟨Or.inr rfl, H1 ⟨c0, c1', c2', c3', hd, fun c => absurd c c4, fun _ => ?_⟩⟩⟩
          · have := q.2.2.2.2.2.2 c4
            rw [wI_id (by omega) (by omega)] at c6
            omega
          · unfold wI at c5 c6
            omega
    refine E_isDirectory hb h0 h1 ha (fun d => ?_) (fun d => ?_)
    · refine ⟨fun c => absurd c (by decide), fun _ => ⟨fun c4 => ⟨Or.inl rfl, H0 (fun q => (q.2.2.2.2.1 d).1 c4)⟩, fun c4 => ⟨by decide, ?_⟩⟩⟩
      rw [tmod_pos (by omega), wI_id (z := L % 128) (by omega) (by omega)]
      exact ⟨fun c5 => fin (fun _ => ⟨c4, c5⟩), fun c5 => ⟨Or.inl rfl, H0 (fun q => c5 (q.2.2.2.2.1 d).2)⟩⟩
    · exact ⟨fun _ => fin (fun q => absurd q d), fun c => absurd wI_0 c⟩
  · have no : P 0 h := H0 (fun q => c0 q.1)
    refine ⟨fun _ => ⟨Or.inl rfl, no⟩, fun c1 => ⟨fun _ => ⟨Or.inl rfl, no⟩, fun c2 => ?_⟩⟩
    rw [wI_id (z := 128 * n) (by omega) (by omega)] at c2
    exfalso
    unfold wI at c1 c2
    omega
end SETS
