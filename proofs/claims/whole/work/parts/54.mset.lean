/-! a SET that is right by itself: the reference -/
theorem bA01 : bA 0 0 = 0 ∧ bA 0 1 = 0 ∧ bA 1 0 = 0 ∧ bA 1 1 = 1 := by decide
theorem bA_r (x y : Int) : -2147483648 ≤ bA x y ∧ bA x y < 2147483648 := by
  unfold bA
  have := Int32.toInt_lt (Int32.ofInt x &&& Int32.ofInt y)
  have := Int32.le_toInt (Int32.ofInt x &&& Int32.ofInt y)
  omega
theorem wI_bA (x y : Int) : wI (bA x y) = bA x y := wI_id (bA_r x y).1 (bA_r x y).2
theorem ea_rng {r : Nat → Int} {e : Int} (h0 : 0 ≤ e) (hr : 2 ≤ r (e / 4).toNat ∧ r (e / 4).toNat ≤ 101) : 1024 ≤ ea r e ∧ ea r e + 32 ≤ 13824 := by unfold ea ca; omega
theorem ea_1 {r : Nat → Int} {e : Int} (h0 : 0 ≤ e) (h2 : e % 2 = 0) : ea r (e + 1) = ea r e + 32 := by
  unfold ea
  rw [show (e + 1) / 4 = e / 4 by omega, show (e + 1) % 4 = e % 4 + 1 by omega]
  omega
theorem ea_64 {r : Nat → Int} {e : Int} (h0 : 0 ≤ e) (h2 : e % 2 = 0) (hr : 2 ≤ r (e / 4).toNat ∧ r (e / 4).toNat ≤ 101) : 1024 ≤ ea r e ∧ ea r e + 64 ≤ 13824 ∧ ea r e % 64 = 0 := by unfold ea ca; omega
/-- what the reference knows of a SET -/
def Rs (h : AH) (f : Nat → Int) (hd tl : Int) : Prop := h 34 18 = 1 + rd f (hd + 1) ∧ h 34 19 = rd f (hd + 35) ∧ h 34 21 = u4 f (hd + 56) ∧ h 34 22 = u4 f (hd + 52) ∧ ((h 34 23 = 1 ∧ isR f hd) ∨ (h 34 23 = 0 ∧ ¬ isR f hd)) ∧ h 34 24 = u2 f (hd + 4) ∧ ∀ i : Nat, (i : Int) < rd f (hd + 35) → h 40 i = lt f tl i
def FZ (h h' : AH) : Prop := (∀ k, k ≠ 18 → k ≠ 19 → k ≠ 21 → k ≠ 22 → k ≠ 23 → k ≠ 24 → h' 34 k = h 34 k) ∧ ∀ o, o ≠ 34 → o ≠ 40 → h' o = h o
theorem FZ.rf (h : AH) : FZ h h := ⟨fun _ _ _ _ _ _ _ => rfl, fun _ _ _ => rfl⟩
theorem FZ.tr {h h1 h2 : AH} (a : FZ h h1) (b : FZ h1 h2) : FZ h h2 := ⟨fun k p q r s t u => (b.1 k p q r s t u).trans (a.1 k p q r s t u), fun o p q => (b.2 o p q).trans (a.2 o p q)⟩
theorem FZ.set {h g : AH} (a : FZ h g) (k : Nat) (v : Int) (hk : k = 18 ∨ k = 19 ∨ k = 21 ∨ k = 22 ∨ k = 23 ∨ k = 24) : FZ h (hs g 34 k v) := ⟨fun j p q r s t u => by rw [hs_k _ _ _ _ _ (by omega)]; exact a.1 j p q r s t u, fun o p q => by rw [hs_o _ _ _ _ _ p]; exact a.2 o p q⟩
def NS (f : Nat → Int) (hd : Int) : Prop := 1 ≤ rd f (hd + 35) ∧ rd f (hd + 35) ≤ 30 ∧ 1 + rd f (hd + 1) = 2 + (rd f (hd + 35) + 14) / 15
def StO' (f : Nat → Int) (hd : Int) : Prop := (rd f (hd + 33) = 1 ∨ rd f (hd + 33) = 3) ∧ rd f (hd + 34) = 0 ∧ zer f (hd + 38) (hd + 40) ∧ zer f (hd + 48) (hd + 52)
section MSET
variable {G : GG} {h : AH} {f : Nat → Int}
theorem M_isStream {P : Int → AH → Prop} {hd : Int} (h5 : Sb (h 35)) (hE : E (ub (h 35)) f) (h0 : 0 ≤ hd) (h1 : hd + 64 ≤ 13824) (hn : 16 ≤ h 34 0 ∧ h 34 0 ≤ 100) (h18 : h 34 18 = 1 + rd f (hd + 1)) (h24 : h 34 24 = u2 f (hd + 4)) (ha : At (u2 f (hd + 4))) (H : ∀ r h', ((r = 1 ∧ StO' f hd ∧ LnOK f (h 34 0) hd ∧ NS f hd ∧ h' 34 19 = rd f (hd + 35) ∧ h' 34 21 = u4 f (hd + 56) ∧ h' 34 22 = u4 f (hd + 52) ∧ ((h' 34 23 = 1 ∧ isR f hd) ∨ (h' 34 23 = 0 ∧ ¬ isR f hd))) ∨ (r = 0 ∧ ¬ (StO' f hd ∧ LnOK f (h 34 0) hd ∧ NS f hd))) → (∀ k, k ≠ 19 → k ≠ 21 → k ≠ 22 → k ≠ 23 → h' 34 k = h 34 k) → (∀ o, o ≠ 34 → h' o = h o) → P r h') : RunsI G 206 [vR 34, vI (hd + 32)] h P := by
  have hf : By f := hE.by (ub_By _)
  have r33 := hf.rd (show 0 ≤ hd + 33 by omega) (show hd + 33 < 13824 by omega)
  have r34 := hf.rd (show 0 ≤ hd + 34 by omega) (show hd + 34 < 13824 by omega)
  have r35 := hf.rd (show 0 ≤ hd + 35 by omega) (show hd + 35 < 13824 by omega)
  have r1 := hf.rd (show 0 ≤ hd + 1 by omega) (show hd + 1 < 13824 by omega)
  have uL := u4_rng hf (show 0 ≤ hd + 56 by omega) (show hd + 56 + 3 < 13824 by omega)
  have uM := u4_rng hf (show 0 ≤ hd + 60 by omega) (show hd + 60 + 3 < 13824 by omega)
  have uA := u4_rng hf (show 0 ≤ hd + 40 by omega) (show hd + 40 + 3 < 13824 by omega)
  have uB := u4_rng hf (show 0 ≤ hd + 44 by omega) (show hd + 44 + 3 < 13824 by omega)
  have uF := u4_rng hf (show 0 ≤ hd + 52 by omega) (show hd + 52 + 3 < 13824 by omega)
  have s33 := h5 (hd + 33).toNat (by omega)
  have s34 := h5 (hd + 34).toNat (by omega)
  have e33 : h 35 (hd + 33).toNat % 256 = rd f (hd + 33) := hE (hd + 33).toNat (by omega)
  have e34 : h 35 (hd + 34).toNat % 256 = rd f (hd + 34) := hE (hd + 34).toNat (by omega)
  apply q_M_isStream
  rw [show hd + 32 + 1 = hd + 33 by omega, show hd + 32 + 3 = hd + 35 by omega, show hd + 32 + 24 = hd + 56 by omega, show hd + 32 + 20 = hd + 52 by omega, wI_id (z := hd + 33) (by omega) (by omega), wI_id (z := hd + 35) (by omega) (by omega)]
  refine ⟨⟨by omega, by omega⟩, ⟨by omega, by omega⟩, ?_⟩
  rw [oct hE (by omega) (by omega)]
  refine M_get8 (f := f) (by rw [hs_o _ _ _ _ _ (by decide)]; exact hE) (by omega) (by omega) ?_
  refine M_get4 (f := f) (by rw [hs_o _ _ _ _ _ (by decide), hs_o _ _ _ _ _ (by decide)]; exact hE) (by omega) (by omega) ?_
  rw [show hd + 56 + 4 = hd + 60 by omega]
  generalize eg : hs (hs (hs h 34 19 (rd f (hd + 35))) 34 21 (wL (u4 f (hd + 56) + 4294967296 * u4 f (hd + 60)))) 34 22 (u4 f (hd + 52)) = g
  have go : ∀ o, o ≠ 34 → g o = h o := fun o a => by rw [← eg, hs_o _ _ _ _ _ a, hs_o _ _ _ _ _ a, hs_o _ _ _ _ _ a]
  have gk : ∀ k, k ≠ 19 → k ≠ 21 → k ≠ 22 → g 34 k = h 34 k := fun k a b c => by rw [← eg, hs_k _ _ _ _ _ c, hs_k _ _ _ _ _ b, hs_k _ _ _ _ _ a]
  have g22 : g 34 22 = u4 f (hd + 52) := by rw [← eg, hs_same]
  have g21 : g 34 21 = wL (u4 f (hd + 56) + 4294967296 * u4 f (hd + 60)) := by rw [← eg, hs_k _ _ _ _ _ (by decide), hs_same]
  have g19 : g 34 19 = rd f (hd + 35) := by rw [← eg, hs_k _ _ _ _ _ (by decide), hs_k _ _ _ _ _ (by decide), hs_same]
  clear eg
  have eh : wI (h 35 (hd + 33).toNat) = h 35 (hd + 33).toNat := wI_id (by omega) (by omega)
  generalize h 35 (hd + 33).toNat = x2 at e33 s33 eh
  have all : ∀ s1 : Int, ((s1 = 1 ∧ isR f hd) ∨ (s1 = 0 ∧ ¬ isR f hd)) → Go G (pI P) 206 69 [some (vR 34), some (vI (hd + 32)), some (vI x2), none] [vI s1, vR 34] g := by
    intro s1 hs1
    apply q_M_isStream_c69
    refine ⟨by omega, ?_⟩
    rw [eh]
    generalize eg : hs g 34 23 s1 = g2
    have go2 : ∀ o, o ≠ 34 → g2 o = h o := fun o a => by rw [← eg, hs_o _ _ _ _ _ a]; exact go o a
    have gk2 : ∀ k, k ≠ 19 → k ≠ 21 → k ≠ 22 → k ≠ 23 → g2 34 k = h 34 k := fun k a b c d => by rw [← eg, hs_k _ _ _ _ _ d]; exact gk k a b c
    have g222 : g2 34 22 = u4 f (hd + 52) := by rw [← eg, hs_k _ _ _ _ _ (by decide)]; exact g22
    have g221 : g2 34 21 = wL (u4 f (hd + 56) + 4294967296 * u4 f (hd + 60)) := by rw [← eg, hs_k _ _ _ _ _ (by decide)]; exact g21
    have g219 : g2 34 19 = rd f (hd + 35) := by rw [← eg, hs_k _ _ _ _ _ (by decide)]; exact g19
    have g223 : g2 34 23 = s1 := by rw [← eg, hs_same]
    clear eg
    have fin : ∀ s0 s1' : Int, ((s0 = 1 ∧ StO' f hd ∧ LnOK f (h 34 0) hd ∧ NS f hd) ∨ (s0 = 0 ∧ ¬ (StO' f hd ∧ LnOK f (h 34 0) hd ∧ NS f hd))) → ∀ r, r = s0 → P r g2 := by
      intro s0 s1' hs0 r hr
      subst hr
      refine H r g2 ?_ gk2 go2
      rcases hs0 with ⟨a, b, c, d⟩ | ⟨a, b⟩
      · refine Or.inl ⟨a, b, c, d, g219, ?_, g222, ?_⟩
        · rw [g221, c.2.2.1, Int.mul_zero, Int.add_zero]
          exact wL_id (by omega) (by omega)
        · rw [g223]; exact hs1
      · exact Or.inr ⟨a, b⟩
    -- the three questions
    have k256 : ∀ s0 s1' : Int, ((s0 = 1 ∧ StO' f hd ∧ u4 f (hd + 40) = u4 f (hd + 56) ∧ u4 f (hd + 44) = u4 f (hd + 60) ∧ NS f hd ∧ u4 f (hd + 60) = 0 ∧ u4 f (hd + 56) ≤ 128 * h 34 0) ∨ (s0 = 0 ∧ ¬ (StO' f hd ∧ LnOK f (h 34 0) hd ∧ NS f hd))) → ((s1' = 1 ∧ (u4 f (hd + 60) = 0 → u4 f (hd + 56) ≤ 128 * h 34 0 → ((u4 f (hd + 56) = 0 → u4 f (hd + 52) = 0 ∧ rd f (hd + 33) = 1) ∧ (u4 f (hd + 56) ≠ 0 → 2 ≤ u4 f (hd + 52) ∧ u4 f (hd + 52) ≤ h 34 0 + 1)))) ∨ (s1' = 0 ∧ ¬ (StO' f hd ∧ LnOK f (h 34 0) hd ∧ NS f hd))) → Go G (pI P) 206 256 [some (vR 34), none, none, none] [vI s1', vI s0] g2 := by
      intro s0 s1' a b
      apply q_M_isStream_c256
      rw [wI_bA, wI_bA, gk2 24 (by decide) (by decide) (by decide) (by decide), h24]
      rcases a with ⟨a0, a1, a2, a3, a4, a5, a6⟩ | ⟨a0, a1⟩
      · rcases b with ⟨b0, b1⟩ | ⟨b0, b1⟩
        · rw [a0, b0, bA01.2.2.2]
          refine ⟨fun c => absurd c (by decide), fun _ => ?_⟩
          have b2 := b1 a5 a6
          have ln : (isD f hd → u4 f (hd + 56) ≠ 0 ∧ u4 f (hd + 56) % 128 = 0) → StO' f hd ∧ LnOK f (h 34 0) hd ∧ NS f hd := fun dd => ⟨a1, ⟨a6, a2, a5, by omega, dd, fun z => ⟨(b2.1 z).1, fun q => by unfold isR at q; have := (b2.1 z).2; omega⟩, b2.2⟩, a4⟩
          rw [g221, a5, Int.mul_zero, Int.add_zero, wL_id (z := u4 f (hd + 56)) (by omega) (by omega), wL_id (z := u4 f (hd + 56)) (by omega) (by omega), tmod_pos uL.1, wL_id (z := u4 f (hd + 56) % 128) (by omega) (by omega)]
          unfold isD at ln
          have y1 : ¬ 16 ≤ u2 f (hd + 4) → P 1 g2 := fun d => fin 1 0 (Or.inl ⟨rfl, ln (fun q => absurd q d)⟩) 1 rfl
          have y2 : 16 ≤ u2 f (hd + 4) → (((u4 f (hd + 56)) ≤ (0 : Int) → (((0 : Int) = 0 ∨ (0 : Int) = 1) ∧ P 0 g2)) ∧ (¬ (u4 f (hd + 56)) ≤ (0 : Int) → ((128 : Int) ≠ 0 ∧ (((u4 f (hd + 56)) % 128 = (0 : Int) → (((1 : Int) = 0 ∨ (1 : Int) = 1) ∧ P 1 g2)) ∧ (¬ (u4 f (hd + 56)) % 128 = (0 : Int) → (((0 : Int) = 0 ∨ (0 : Int) = 1) ∧ P 0 g2)))))) := by
            intro d
            refine ⟨fun c => ⟨Or.inl rfl, fin 0 0 (Or.inr ⟨rfl, fun q => ?_⟩) 0 rfl⟩, fun c => ⟨by decide, fun c2 => ⟨Or.inr rfl, fin 1 0 (Or.inl ⟨rfl, ln (fun _ => ⟨by omega, c2⟩)⟩) 1 rfl⟩, fun c2 => ⟨Or.inl rfl, fin 0 0 (Or.inr ⟨rfl, fun q => ?_⟩) 0 rfl⟩⟩⟩
            · have := (q.2.1.2.2.2.2.1 d).1
              omega
            · exact c2 (q.2.1.2.2.2.2.1 d).2
          rcases ha with e | e | e | e <;> rw [e] at y1 y2 ⊢
          · exact ⟨fun _ => ⟨Or.inr rfl, y1 (by decide)⟩, fun c => absurd (by decide) c⟩
          · exact ⟨fun _ => ⟨Or.inr rfl, y1 (by decide)⟩, fun c => absurd (by decide) c⟩
          · exact ⟨fun c => absurd c (by decide), fun _ => y2 (by decide)⟩
          · exact ⟨fun c => absurd c (by decide), fun _ => y2 (by decide)⟩
        · rw [a0, b0, bA01.2.2.1]
          exact ⟨fun _ => ⟨Or.inl rfl, fin 0 0 (Or.inr ⟨rfl, b1⟩) 0 rfl⟩, fun c => absurd rfl c⟩
      · have e0 : bA s0 s1' = 0 := by rcases b with ⟨b0, _⟩ | ⟨b0, _⟩ <;> rw [a0, b0] <;> decide
        rw [e0]
        exact ⟨fun _ => ⟨Or.inl rfl, fin 0 0 (Or.inr ⟨rfl, a1⟩) 0 rfl⟩, fun c => absurd rfl c⟩
    have k214 : ∀ s0 : Int, ∀ s1' : Int, ((s0 = 1 ∧ StO' f hd ∧ u4 f (hd + 40) = u4 f (hd + 56) ∧ u4 f (hd + 44) = u4 f (hd + 60)) ∨ (s0 = 0 ∧ ¬ (StO' f hd ∧ LnOK f (h 34 0) hd ∧ NS f hd))) → ((s1' = 1 ∧ NS f hd ∧ u4 f (hd + 60) = 0 ∧ u4 f (hd + 56) ≤ 128 * h 34 0) ∨ (s1' = 0 ∧ ¬ (StO' f hd ∧ LnOK f (h 34 0) hd ∧ NS f hd))) → Go G (pI P) 206 214 [some (vR 34), none, some (vI x2), none] [vI s1', vI s0] g2 := by
      intro s0 s1' a b
      have ab : (bA s0 s1' = 1 ∧ StO' f hd ∧ u4 f (hd + 40) = u4 f (hd + 56) ∧ u4 f (hd + 44) = u4 f (hd + 60) ∧ NS f hd ∧ u4 f (hd + 60) = 0 ∧ u4 f (hd + 56) ≤ 128 * h 34 0) ∨ (bA s0 s1' = 0 ∧ ¬ (StO' f hd ∧ LnOK f (h 34 0) hd ∧ NS f hd)) := by
        rcases a with ⟨a0, a1, a2, a3⟩ | ⟨a0, a1⟩
        · rcases b with ⟨b0, b1, b2, b3⟩ | ⟨b0, b1⟩
          · rw [a0, b0]; exact Or.inl ⟨by decide, a1, a2, a3, b1, b2, b3⟩
          · rw [a0, b0]; exact Or.inr ⟨by decide, b1⟩
        · rcases b with ⟨b0, b1, b2, b3⟩ | ⟨b0, b1⟩
          · rw [a0, b0]; exact Or.inr ⟨by decide, a1⟩
          · rw [a0, b0]; exact Or.inr ⟨by decide, a1⟩
      apply q_M_isStream_c214
      rw [eh, g222, wL_id (z := u4 f (hd + 52)) (by omega) (by omega)]
      have eL : wL (g2 34 21) = 0 ↔ u4 f (hd + 56) = 0 ∧ u4 f (hd + 60) = 0 := by
        rw [g221]
        unfold wL
        omega
      have nolen : wL (g2 34 21) = 0 → ¬ (rd f (hd + 33) = 1 ∧ u4 f (hd + 52) = 0) → ¬ (StO' f hd ∧ LnOK f (h 34 0) hd ∧ NS f hd) := fun z n q => by
        have := q.2.1.2.2.2.2.2.1 (eL.mp z).1
        have := q.1.1
        unfold isR at *
        omega
      refine ⟨fun c0 => ⟨fun c1 => ⟨fun c2 => k256 _ _ ab (Or.inl ⟨rfl, fun _ _ => ⟨fun _ => ⟨c2, by omega⟩, fun z => absurd (eL.mp c0).1 z⟩⟩), fun c2 => k256 _ _ ab (Or.inr ⟨rfl, nolen c0 (fun q => c2 q.2)⟩)⟩, fun c1 => k256 _ _ ab (Or.inr ⟨rfl, nolen c0 (fun q => c1 (by omega))⟩)⟩, fun c0 => ?_⟩
      have hn2 : g2 34 0 = h 34 0 := gk2 0 (by decide) (by decide) (by decide) (by decide)
      refine M_isCluster (by rw [hn2]; exact hn) (by omega) (fun q => ?_) (fun q => ?_)
      · rw [hn2] at q
        exact k256 _ _ ab (Or.inl ⟨rfl, fun m l => ⟨fun z => absurd (eL.mpr ⟨z, m⟩) c0, fun _ => q⟩⟩)
      · rw [hn2] at q
        refine k256 _ _ ab (Or.inr ⟨rfl, fun z => q (z.2.1.2.2.2.2.2.2 (fun y => c0 (eL.mpr ⟨y, z.2.1.2.2.1⟩)))⟩)
    have k149 : ∀ s0 : Int, ((s0 = 1 ∧ StO' f hd ∧ u4 f (hd + 40) = u4 f (hd + 56) ∧ u4 f (hd + 44) = u4 f (hd + 60)) ∨ (s0 = 0 ∧ ¬ (StO' f hd ∧ LnOK f (h 34 0) hd ∧ NS f hd))) → Go G (pI P) 206 149 [some (vR 34), none, some (vI x2), none] [vI s0] g2 := by
      intro s0 a
      apply q_M_isStream_c149
      rw [g219, wI_id (z := rd f (hd + 35)) (by omega) (by omega)]
      have hn2 : g2 34 0 = h 34 0 := gk2 0 (by decide) (by decide) (by decide) (by decide)
      have h182 : g2 34 18 = h 34 18 := gk2 18 (by decide) (by decide) (by decide) (by decide)
      refine M_in (by omega) (by omega) (by omega) (fun c1 c2 => ?_) (fun c => ?_)
      · refine ⟨fun c => absurd c (by decide), fun _ => ?_⟩
        rw [hn2, wI_id (z := h 34 0) (by omega) (by omega)]
        refine M_in (by rw [g221]; unfold wL; omega) (by omega) (by omega) (fun c3 c4 => ?_) (fun c => ?_)
        · refine ⟨fun c => absurd c (by decide), fun _ => ?_⟩
          have c5 : u4 f (hd + 60) = 0 ∧ u4 f (hd + 56) ≤ 128 * h 34 0 := by
            rw [g221] at c3 c4
            unfold wL at c3 c4
            omega
          rw [g219, h182, h18, wI_id (z := rd f (hd + 35)) (by omega) (by omega), wI_id (z := 1 + rd f (hd + 1)) (by omega) (by omega), show wI (3 + 0) = 3 from rfl, show wI (3 + 1) = 4 from rfl]
          have nsn : ¬ NS f hd → ¬ (StO' f hd ∧ LnOK f (h 34 0) hd ∧ NS f hd) := fun a b => a b.2.2
          refine ⟨fun c6 => ⟨fun c7 => k214 _ _ a (Or.inl ⟨rfl, ⟨c1, c2, by omega⟩, c5⟩), fun c7 => k214 _ _ a (Or.inr ⟨rfl, nsn (fun q => by have := q.2.2; omega)⟩)⟩, fun c6 => ⟨fun c7 => k214 _ _ a (Or.inl ⟨rfl, ⟨c1, c2, by omega⟩, c5⟩), fun c7 => k214 _ _ a (Or.inr ⟨rfl, nsn (fun q => by have := q.2.2; omega)⟩)⟩⟩
        · refine ⟨fun _ => k214 _ _ a (Or.inr ⟨rfl, fun q => c ?_⟩), fun c => absurd wI_0 c⟩
          have q1 := q.2.1.1
          rw [g221, q.2.1.2.2.1, Int.mul_zero, Int.add_zero, wL_id (by omega) (by omega)]
          omega
      · refine ⟨fun _ => k214 _ _ a (Or.inr ⟨rfl, fun q => c ⟨q.2.2.1, q.2.2.2.1⟩⟩), fun c => absurd wI_0 c⟩
    have k82 : (rd f (hd + 33) = 1 ∨ rd f (hd + 33) = 3) → Go G (pI P) 206 82 [some (vR 34), some (vI (hd + 32)), some (vI x2), none] [] g2 := by
      intro c33
      apply q_M_isStream_c82
      have e35 : g2 35 = h 35 := go2 35 (by decide)
      rw [show hd + 32 + 2 = hd + 34 by omega, show hd + 32 + 6 = hd + 38 by omega, show hd + 32 + 8 = hd + 40 by omega, show hd + 32 + 16 = hd + 48 by omega, show hd + 32 + 20 = hd + 52 by omega, wI_id (z := hd + 34) (by omega) (by omega), e35, wI_id (z := h 35 (hd + 34).toNat) (by omega) (by omega)]
      refine ⟨⟨by omega, by omega⟩, fun c1 => ?_, fun c1 => k149 _ (Or.inr ⟨rfl, fun q => c1 (by have := q.1.2.1; omega)⟩)⟩
      refine M_isZero (f := f) (by rw [e35]; exact h5) (by rw [e35]; exact hE) (by omega) (by omega) (by omega) (fun c2 => ⟨fun c => absurd c (by decide), fun _ => ?_⟩) (fun c2 => ⟨fun _ => k149 _ (Or.inr ⟨rfl, fun q => c2 q.1.2.2.1⟩), fun c => absurd wI_0 c⟩)
      refine M_isZero (f := f) (by rw [e35]; exact h5) (by rw [e35]; exact hE) (by omega) (by omega) (by omega) (fun c3 => ⟨fun c => absurd c (by decide), fun _ => ?_⟩) (fun c3 => ⟨fun _ => k149 _ (Or.inr ⟨rfl, fun q => c3 q.1.2.2.2⟩), fun c => absurd wI_0 c⟩)
      refine M_get8 (f := f) (by rw [e35]; exact hE) (by omega) (by omega) ?_
      rw [g221, show hd + 40 + 4 = hd + 44 by omega]
      refine ⟨fun c4 => k149 _ (Or.inl ⟨rfl, ⟨c33, by omega, c2, c3⟩, by unfold wL at c4; omega, by unfold wL at c4; omega⟩), fun c4 => k149 _ (Or.inr ⟨rfl, fun q => c4 ?_⟩)⟩
      rw [q.2.1.2.1, q.2.1.2.2.1, q.2.1.2.2.2.1]
    refine ⟨fun c => k82 (by omega), fun c => ⟨fun c2 => k82 (by omega), fun c2 => k149 _ (Or.inr ⟨rfl, fun q => by have := q.1.1; omega⟩)⟩⟩
  rw [eh]
  refine ⟨fun c => all 1 (Or.inl ⟨rfl, by unfold isR; omega⟩), fun c => all 0 (Or.inr ⟨rfl, by unfold isR; omega⟩)⟩
end MSET
