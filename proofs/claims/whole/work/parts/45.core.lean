/-! what class and reference share; the calls that need no mounted volume -/
def C1 (h : AH) : Prop := Syn h ∧ Sb (h 35) ∧ Sb (h 36) ∧ ∀ k, k < 13824 → h 2 k = ub (h 35) k
def C2 (h : AH) : Prop := h 1 3 = h 34 5 ∧ (0 ≤ h 1 3 ∧ h 1 3 ≤ 1000) ∧ h 1 4 = h 34 6 ∧ h 0 8 = h 34 3 ∧ (h 0 8 = 0 ∨ h 0 8 = 1) ∧ h 26 5 = h 34 4
def C3 (h : AH) : Prop := h 32 1 = h 34 41 ∧ (0 ≤ h 32 1 ∧ h 32 1 ≤ 30) ∧ ∀ k : Nat, (k : Int) < h 32 1 → h 33 k = h 52 k ∧ 0 < h 33 k ∧ h 33 k < 65536
def C4 (h : AH) : Prop := h 17 15 = h 34 9 ∧ h 17 16 = h 34 10 ∧ h 17 17 = h 34 11
def Co (h : AH) : Prop := C1 h ∧ C2 h ∧ C3 h ∧ C4 h
theorem C1_congr {h h' : AH} (a : h' 2 = h 2) (b : h' 3 = h 3) (c : h' 4 = h 4) (d : h' 35 = h 35) (e : h' 36 = h 36) (hc : C1 h) : C1 h' := by
  obtain ⟨⟨⟨p1, p2, p3, p4⟩, p5, p6⟩, p7, p8, p9⟩ := hc
  refine ⟨⟨⟨?_, ?_, ?_, ?_⟩, ?_, ?_⟩, ?_, ?_, ?_⟩
  · rw [a]; exact p1
  · rw [b]; exact p2
  · rw [c]; exact p3
  · rw [a, b, c]; exact p4
  · rw [a, b]; exact p5
  · rw [c]; exact p6
  · rw [d]; exact p7
  · rw [e]; exact p8
  · rw [a, d]; exact p9
theorem C2_congr {h h' : AH} (a : h' 1 3 = h 1 3) (b : h' 1 4 = h 1 4) (c : h' 0 8 = h 0 8) (d : h' 26 5 = h 26 5) (e3 : h' 34 3 = h 34 3) (e4 : h' 34 4 = h 34 4) (e5 : h' 34 5 = h 34 5) (e6 : h' 34 6 = h 34 6) (hc : C2 h) : C2 h' := by
  unfold C2 at hc ⊢
  rw [a, b, c, d, e3, e4, e5, e6]
  exact hc
theorem C3_congr {h h' : AH} (a : h' 32 1 = h 32 1) (b : h' 34 41 = h 34 41) (c : h' 33 = h 33) (d : h' 52 = h 52) (hc : C3 h) : C3 h' := by
  unfold C3 at hc ⊢
  rw [a, b, c, d]
  exact hc
theorem C4_congr {h h' : AH} (a : h' 17 15 = h 17 15) (b : h' 17 16 = h 17 16) (c : h' 17 17 = h 17 17) (d : h' 34 9 = h 34 9) (e : h' 34 10 = h 34 10) (f : h' 34 11 = h 34 11) (hc : C4 h) : C4 h' := by
  unfold C4 at hc ⊢
  rw [a, b, c, d, e, f]
  exact hc
/-- what the mounted volume's own sentence looks at -/
def Ag (h h' : AH) : Prop := h' 2 = h 2 ∧ h' 3 = h 3 ∧ h' 7 1 = h 7 1 ∧ h' 7 2 = h 7 2 ∧ h' 7 3 = h 7 3 ∧ h' 9 = h 9 ∧ h' 12 = h 12 ∧ h' 13 = h 13 ∧ h' 38 = h 38 ∧ h' 34 0 = h 34 0 ∧ h' 34 1 = h 34 1 ∧ h' 34 2 = h 34 2
def Inv (Mn : AH → Prop) (h : AH) : Prop := Co h ∧ (h 0 8 = 1 → Mn h)
def MnC (Mn : AH → Prop) : Prop := ∀ h h', Ag h h' → Mn h → Mn h'
section CORE
variable {G : GG} {Mn : AH → Prop} {h : AH}
theorem wI_st (hI : Inv Mn h) : wI (h 0 8) = h 0 8 ∧ wI (h 34 3) = h 0 8 := by
  have q := hI.1.2.1.2.2.2
  have r : wI (h 0 8) = h 0 8 := by rcases q.2.1 with e | e <;> rw [e] <;> rfl
  exact ⟨r, by rw [← q.1]; exact r⟩
theorem T_octet (hI : Inv Mn h) {x y : Int} (hx : in32 x) (hy : in32 y) : okI G (Inv Mn) 140 185 [vI x, vI y] h := by
  unfold in32 at hx hy
  obtain ⟨c1, -⟩ := id hI.1
  apply q_V_octet
  apply q_D_isOctet
  have mod : ∀ (r : Int) (ok : 0 ≤ x ∧ x ≤ 215 ∧ 0 ≤ y ∧ y ≤ 63 → r = rd (h 3) (x * 64 + y)) (no : ¬ (0 ≤ x ∧ x ≤ 215 ∧ 0 ≤ y ∧ y ≤ 63) → r = -1), RunsI G 185 [vR 34, vI x, vI y] h (fun r2 h2 => wI r = wI r2 ∧ Inv Mn h2) := by
    intro r ok no
    apply q_M_octet
    rw [wI_id (z := x) (by omega) (by omega), wI_id (z := y) (by omega) (by omega)]
    refine M_in (by omega) (by omega) (by omega) (fun a1 a2 => ?_) (fun a => ?_)
    · refine ⟨fun c => absurd c (by decide), fun _ => ?_⟩
      refine M_in (by omega) (by omega) (by omega) (fun b1 b2 => ?_) (fun b => ?_)
      · refine ⟨fun c => absurd c (by decide), fun _ => ?_⟩
        rw [wI_id (z := 64 * x + y) (by omega) (by omega)]
        refine ⟨⟨by omega, by omega⟩, ?_, hI⟩
        rw [ok (by omega), bA_255]
        congr 1
        have e3 := c1.1.2.1 (x * 64 + y).toNat (by omega)
        have e2 := c1.2.2.2 (x * 64 + y).toNat (by omega)
        unfold rd
        rw [e3, e2, show (64 * x + y) = x * 64 + y by omega]
        rfl
      · exact ⟨fun _ => ⟨by rw [no (by omega)], hI⟩, fun c => absurd (by decide) c⟩
    · exact ⟨fun _ => ⟨by rw [no (by omega)], hI⟩, fun c => absurd (by decide) c⟩
  have bad : (((0 : Int) = 0 ∨ (0 : Int) = 1) ∧ ((wI 0 = 0 → RunsI G 185 [vR 34, vI x, vI y] h (fun r2 h2 => wI (-1) = wI r2 ∧ Inv Mn h2)) ∧ (¬ wI 0 = 0 → RunsI G 54 [vR 1, vI ((x * 64) + y)] h (fun r2 h2 => RunsI G 185 [vR 34, vI x, vI y] h2 (fun r3 h3 => wI r2 = wI r3 ∧ Inv Mn h3))))) ∨ True := Or.inr trivial
  rw [wI_id (z := x) (by omega) (by omega), wI_id (z := y) (by omega) (by omega)]
  refine ⟨fun c => ⟨Or.inl rfl, fun _ => mod (-1) (by omega) (fun _ => rfl), fun c => absurd (by decide) c⟩, fun c1' => ⟨fun c => ⟨Or.inl rfl, fun _ => mod (-1) (by omega) (fun _ => rfl), fun c => absurd (by decide) c⟩, fun c2 => ⟨fun c => ⟨Or.inl rfl, fun _ => mod (-1) (by omega) (fun _ => rfl), fun c => absurd (by decide) c⟩, fun c3 => ⟨fun c => ⟨Or.inl rfl, fun _ => mod (-1) (by omega) (fun _ => rfl), fun c => absurd (by decide) c⟩, fun c4 => ⟨Or.inr rfl, fun c => absurd c (by decide), fun _ => ?_⟩⟩⟩⟩⟩
  refine D_get (by omega) (by omega) ?_
  exact mod _ (fun _ => rfl) (fun n => absurd (by omega) n)
theorem T_fail (hM : MnC Mn) (hI : Inv Mn h) {x : Int} (hx : in32 x) : okI G (Inv Mn) 142 187 [vI x] h := by
  unfold in32 at hx
  apply q_V_fail
  rw [wI_id (z := x) (by omega) (by omega)]
  have mod : ∀ (h1 : AH) (r : Int), (0 ≤ x ∧ x ≤ 1000 → r = 1 ∧ Inv Mn (hs h1 34 5 x)) → (¬ (0 ≤ x ∧ x ≤ 1000) → r = -1 ∧ Inv Mn h1) → RunsI G 187 [vR 34, vI x] h1 (fun r2 h2 => wI r = wI r2 ∧ Inv Mn h2) := by
    intro h1 r ok no
    apply q_M_fail
    rw [wI_id (z := x) (by omega) (by omega)]
    refine M_in (by omega) (by omega) (by omega) (fun a1 a2 => ?_) (fun a => ?_)
    · exact ⟨fun c => absurd c (by decide), fun _ => ⟨by rw [(ok ⟨a1, a2⟩).1], (ok ⟨a1, a2⟩).2⟩⟩
    · exact ⟨fun _ => ⟨by rw [(no a).1], (no a).2⟩, fun c => absurd (by decide) c⟩
  refine ⟨fun c => mod h (-1) (by omega) (fun _ => ⟨rfl, hI⟩), fun c => ⟨fun c2 => mod _ 1 (fun _ => ⟨rfl, ?_⟩) (by omega), fun c2 => mod h (-1) (by omega) (fun _ => ⟨rfl, hI⟩)⟩⟩
  obtain ⟨⟨c1, c2', c3, c4⟩, m⟩ := hI
  have e : ∀ o, o ≠ 1 → o ≠ 34 → hs (hs h 1 3 x) 34 5 x o = h o := fun o a b => by rw [hs_o _ _ _ _ _ b, hs_o _ _ _ _ _ a]
  have e34 : ∀ k, k ≠ 5 → hs (hs h 1 3 x) 34 5 x 34 k = h 34 k := fun k a => by rw [hs_k _ _ _ _ _ a, hs_o _ _ _ _ _ (by decide)]
  have e1 : ∀ k, k ≠ 3 → hs (hs h 1 3 x) 34 5 x 1 k = h 1 k := fun k a => by rw [hs_o _ _ _ _ _ (by decide), hs_k _ _ _ _ _ a]
  have v1 : hs (hs h 1 3 x) 34 5 x 1 3 = x := by rw [hs_o _ _ _ _ _ (by decide), hs_same]
  have v2 : hs (hs h 1 3 x) 34 5 x 34 5 = x := hs_same _ _ _ _
  refine ⟨⟨C1_congr (e 2 (by decide) (by decide)) (e 3 (by decide) (by decide)) (e 4 (by decide) (by decide)) (e 35 (by decide) (by decide)) (e 36 (by decide) (by decide)) c1, ?_, C3_congr (by rw [e 32 (by decide) (by decide)]) (e34 41 (by decide)) (e 33 (by decide) (by decide)) (e 52 (by decide) (by decide)) c3, C4_congr (by rw [e 17 (by decide) (by decide)]) (by rw [e 17 (by decide) (by decide)]) (by rw [e 17 (by decide) (by decide)]) (e34 _ (by decide)) (e34 _ (by decide)) (e34 _ (by decide)) c4⟩, fun hm => hM h _ ⟨e 2 (by decide) (by decide), e 3 (by decide) (by decide), by rw [e 7 (by decide) (by decide)], by rw [e 7 (by decide) (by decide)], by rw [e 7 (by decide) (by decide)], e 9 (by decide) (by decide), e 12 (by decide) (by decide), e 13 (by decide) (by decide), e 38 (by decide) (by decide), e34 _ (by decide), e34 _ (by decide), e34 _ (by decide)⟩ (m (by rw [e 0 (by decide) (by decide)] at hm; exact hm))⟩
  unfold C2 at c2' ⊢
  rw [v1, v2, e1 4 (by decide), e34 6 (by decide), e34 3 (by decide), e34 4 (by decide), e 0 (by decide) (by decide), e 26 (by decide) (by decide)]
  exact ⟨rfl, ⟨by omega, c2⟩, c2'.2.2.1, c2'.2.2.2⟩
theorem T_fault (hI : Inv Mn h) {x : Int} : okI G (Inv Mn) 144 189 [vI x] h := by
  apply q_V_fault
  obtain ⟨f1, f2, f3⟩ := hI.1.2.2.2
  refine ⟨fun c => ?_, fun c => ⟨fun c2 => ?_, fun c2 => ⟨fun c3 => ?_, fun c3 => ?_⟩⟩⟩
  · apply q_M_fault
    exact ⟨fun _ => ⟨by rw [f1], hI⟩, fun q => absurd c q⟩
  · apply q_M_fault
    exact ⟨fun q => absurd q c, fun _ => ⟨fun _ => ⟨by rw [f2], hI⟩, fun q => absurd c2 q⟩⟩
  · apply q_M_fault
    exact ⟨fun q => absurd q c, fun _ => ⟨fun q => absurd q c2, fun _ => ⟨fun _ => ⟨by rw [f3], hI⟩, fun q => absurd c3 q⟩⟩⟩
  · apply q_M_fault
    exact ⟨fun q => absurd q c, fun _ => ⟨fun q => absurd q c2, fun _ => ⟨fun q => absurd q c3, fun _ => ⟨rfl, hI⟩⟩⟩⟩
/-- the draft is emptied on both sides -/
theorem Inv_clear (hM : MnC Mn) (hI : Inv Mn h) : Inv Mn (hs (hs h 32 1 0) 34 41 0) := by
  obtain ⟨⟨c1, c2', c3, c4⟩, m⟩ := hI
  have e : ∀ o, o ≠ 32 → o ≠ 34 → hs (hs h 32 1 0) 34 41 0 o = h o := fun o a b => by rw [hs_o _ _ _ _ _ b, hs_o _ _ _ _ _ a]
  have e34 : ∀ k, k ≠ 41 → hs (hs h 32 1 0) 34 41 0 34 k = h 34 k := fun k a => by rw [hs_k _ _ _ _ _ a, hs_o _ _ _ _ _ (by decide)]
  refine ⟨⟨C1_congr (e 2 (by decide) (by decide)) (e 3 (by decide) (by decide)) (e 4 (by decide) (by decide)) (e 35 (by decide) (by decide)) (e 36 (by decide) (by decide)) c1, C2_congr (by rw [e 1 (by decide) (by decide)]) (by rw [e 1 (by decide) (by decide)]) (by rw [e 0 (by decide) (by decide)]) (by rw [e 26 (by decide) (by decide)]) (e34 _ (by decide)) (e34 _ (by decide)) (e34 _ (by decide)) (e34 _ (by decide)) c2', ?_, C4_congr (by rw [e 17 (by decide) (by decide)]) (by rw [e 17 (by decide) (by decide)]) (by rw [e 17 (by decide) (by decide)]) (e34 _ (by decide)) (e34 _ (by decide)) (e34 _ (by decide)) c4⟩, fun hm => hM h _ ⟨e 2 (by decide) (by decide), e 3 (by decide) (by decide), by rw [e 7 (by decide) (by decide)], by rw [e 7 (by decide) (by decide)], by rw [e 7 (by decide) (by decide)], e 9 (by decide) (by decide), e 12 (by decide) (by decide), e 13 (by decide) (by decide), e 38 (by decide) (by decide), e34 _ (by decide), e34 _ (by decide), e34 _ (by decide)⟩ (m (by rw [e 0 (by decide) (by decide)] at hm; exact hm))⟩
  unfold C3
  rw [hs_same, hs_o _ _ _ _ _ (show (32 : Nat) ≠ 34 by decide), hs_same]
  exact ⟨rfl, ⟨by decide, by decide⟩, fun k hk => by omega⟩
theorem T_clear (hM : MnC Mn) (hI : Inv Mn h) : okI G (Inv Mn) 148 231 [] h := by
  apply q_V_clear
  apply q_M_clear
  refine ⟨?_, Inv_clear hM hI⟩
  rw [hs_o _ _ _ _ _ (by decide), hI.1.2.2.1.1]
theorem T_clock (hM : MnC Mn) (hI : Inv Mn h) {x : Int} : okV G (Inv Mn) 149 232 [vI x] h := by
  apply q_V_clock
  apply q_M_clock
  obtain ⟨⟨c1, c2', c3, c4⟩, m⟩ := hI
  have e : ∀ o, o ≠ 26 → o ≠ 34 → hs (hs h 26 5 x) 34 4 x o = h o := fun o a b => by rw [hs_o _ _ _ _ _ b, hs_o _ _ _ _ _ a]
  have e34 : ∀ k, k ≠ 4 → hs (hs h 26 5 x) 34 4 x 34 k = h 34 k := fun k a => by rw [hs_k _ _ _ _ _ a, hs_o _ _ _ _ _ (by decide)]
  refine ⟨⟨C1_congr (e 2 (by decide) (by decide)) (e 3 (by decide) (by decide)) (e 4 (by decide) (by decide)) (e 35 (by decide) (by decide)) (e 36 (by decide) (by decide)) c1, ?_, C3_congr (by rw [e 32 (by decide) (by decide)]) (e34 41 (by decide)) (e 33 (by decide) (by decide)) (e 52 (by decide) (by decide)) c3, C4_congr (by rw [e 17 (by decide) (by decide)]) (by rw [e 17 (by decide) (by decide)]) (by rw [e 17 (by decide) (by decide)]) (e34 _ (by decide)) (e34 _ (by decide)) (e34 _ (by decide)) c4⟩, fun hm => hM h _ ⟨e 2 (by decide) (by decide), e 3 (by decide) (by decide), by rw [e 7 (by decide) (by decide)], by rw [e 7 (by decide) (by decide)], by rw [e 7 (by decide) (by decide)], e 9 (by decide) (by decide), e 12 (by decide) (by decide), e 13 (by decide) (by decide), e 38 (by decide) (by decide), e34 _ (by decide), e34 _ (by decide), e34 _ (by decide)⟩ (m (by rw [e 0 (by decide) (by decide)] at hm; exact hm))⟩
  unfold C2 at c2' ⊢
  rw [e 1 (by decide) (by decide), e34 5 (by decide), e34 6 (by decide), e34 3 (by decide), e 0 (by decide) (by decide), hs_same, hs_o _ _ _ _ _ (show (26 : Nat) ≠ 34 by decide), hs_same]
  exact ⟨c2'.1, c2'.2.1, c2'.2.2.1, c2'.2.2.2.1, c2'.2.2.2.2.1, rfl⟩
end CORE
