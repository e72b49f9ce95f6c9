/-! on a volume that is not mounted; spoil -/
section OFF
variable {G : GG} {h : AH} {Mn : AH → Prop}
theorem O_list (hI : Inv Mn h) (h8 : h 0 8 = 0) {x1 x2 : Int} : okI G (Inv Mn) 151 236 [vI x1, vI x2] h := by
  obtain ⟨s1, s2⟩ := wI_st hI
  replace s1 := s1.trans h8
  replace s2 := s2.trans h8
  apply q_V_list
  refine ⟨fun _ => ?_, fun c => absurd s1 c⟩
  apply q_M_list
  exact ⟨fun _ => ⟨rfl, hI⟩, fun c => absurd s2 c⟩
theorem O_write (hI : Inv Mn h) (h8 : h 0 8 = 0) {x1 x2 x3 x4 : Int} : okI G (Inv Mn) 153 264 [vI x1, vI x2, vI x3, vI x4] h := by
  obtain ⟨s1, s2⟩ := wI_st hI
  replace s1 := s1.trans h8
  replace s2 := s2.trans h8
  apply q_V_write
  refine ⟨fun _ => ?_, fun c => absurd s1 c⟩
  apply q_M_write
  exact ⟨fun _ => ⟨rfl, hI⟩, fun c => absurd s2 c⟩
theorem O_cut (hI : Inv Mn h) (h8 : h 0 8 = 0) {x1 x2 : Int} : okI G (Inv Mn) 154 266 [vI x1, vI x2] h := by
  obtain ⟨s1, s2⟩ := wI_st hI
  replace s1 := s1.trans h8
  replace s2 := s2.trans h8
  apply q_V_cut
  refine ⟨fun _ => ?_, fun c => absurd s1 c⟩
  apply q_M_cut
  exact ⟨fun _ => ⟨rfl, hI⟩, fun c => absurd s2 c⟩
theorem O_drop (hI : Inv Mn h) (h8 : h 0 8 = 0) {x1 : Int} : okI G (Inv Mn) 155 267 [vI x1] h := by
  obtain ⟨s1, s2⟩ := wI_st hI
  replace s1 := s1.trans h8
  replace s2 := s2.trans h8
  apply q_V_drop
  refine ⟨fun _ => ?_, fun c => absurd s1 c⟩
  apply q_M_drop
  exact ⟨fun _ => ⟨rfl, hI⟩, fun c => absurd s2 c⟩
theorem O_bar (hI : Inv Mn h) (h8 : h 0 8 = 0) {x1 x2 : Int} : okI G (Inv Mn) 157 270 [vI x1, vI x2] h := by
  obtain ⟨s1, s2⟩ := wI_st hI
  replace s1 := s1.trans h8
  replace s2 := s2.trans h8
  apply q_V_bar
  refine ⟨fun _ => ?_, fun c => absurd s1 c⟩
  apply q_M_bar
  exact ⟨fun _ => ⟨rfl, hI⟩, fun c => absurd s2 c⟩
theorem O_told (hI : Inv Mn h) (h8 : h 0 8 = 0) {x1 x2 : Int} : okI G (Inv Mn) 159 272 [vI x1, vI x2] h := by
  obtain ⟨s1, s2⟩ := wI_st hI
  replace s1 := s1.trans h8
  replace s2 := s2.trans h8
  apply q_V_told
  refine ⟨fun _ => ?_, fun c => absurd s1 c⟩
  apply q_M_told
  exact ⟨fun _ => ⟨rfl, hI⟩, fun c => absurd s2 c⟩
theorem O_letter (hI : Inv Mn h) (h8 : h 0 8 = 0) {x1 x2 : Int} : okI G (Inv Mn) 160 273 [vI x1, vI x2] h := by
  obtain ⟨s1, s2⟩ := wI_st hI
  replace s1 := s1.trans h8
  replace s2 := s2.trans h8
  apply q_V_letter
  refine ⟨fun _ => ?_, fun c => absurd s1 c⟩
  apply q_M_letter
  exact ⟨fun _ => ⟨rfl, hI⟩, fun c => absurd s2 c⟩
theorem O_cluster (hI : Inv Mn h) (h8 : h 0 8 = 0) {x1 x2 : Int} : okI G (Inv Mn) 161 274 [vI x1, vI x2] h := by
  obtain ⟨s1, s2⟩ := wI_st hI
  replace s1 := s1.trans h8
  replace s2 := s2.trans h8
  apply q_V_cluster
  refine ⟨fun _ => ?_, fun c => absurd s1 c⟩
  apply q_M_cluster
  exact ⟨fun _ => ⟨rfl, hI⟩, fun c => absurd s2 c⟩
theorem O_unmount (hI : Inv Mn h) (h8 : h 0 8 = 0) : okI G (Inv Mn) 145 228 [] h := by
  obtain ⟨s1, s2⟩ := wI_st hI
  replace s1 := s1.trans h8
  replace s2 := s2.trans h8
  apply q_V_unmount
  refine ⟨fun _ => ?_, fun c => absurd s1 c⟩
  apply q_M_unmount
  exact ⟨fun _ => ⟨rfl, hI⟩, fun c => absurd s2 c⟩
theorem O_read (hI : Inv Mn h) (h8 : h 0 8 = 0) {x1 x2 : Int} : okL G (Inv Mn) 158 271 [vI x1, vI x2] h := by
  obtain ⟨s1, s2⟩ := wI_st hI
  replace s1 := s1.trans h8
  replace s2 := s2.trans h8
  apply q_V_read
  refine ⟨fun _ => ?_, fun c => absurd s1 c⟩
  apply q_M_read
  refine ⟨fun _ => ?_, fun c => absurd s2 c⟩
  apply q_M_read_c17
  exact ⟨fun _ => ⟨rfl, hI⟩, fun c => absurd (by decide) c⟩
theorem O_look (hM : MnC Mn) (hI : Inv Mn h) (h8 : h 0 8 = 0) {x1 : Int} : okI G (Inv Mn) 150 235 [vI x1] h := by
  obtain ⟨s1, s2⟩ := wI_st hI
  replace s1 := s1.trans h8
  replace s2 := s2.trans h8
  apply q_V_look
  refine ⟨fun _ => ?_, fun c => absurd s1 c⟩
  apply q_M_look
  apply q_M_usedDraft
  have e : hs (hs h 32 1 0) 34 41 0 34 3 = h 34 3 := by rw [hs_k _ _ _ _ _ (by decide), hs_o _ _ _ _ _ (by decide)]
  rw [e]
  exact ⟨fun _ => ⟨rfl, Inv_clear hM hI⟩, fun c => absurd s2 c⟩
theorem O_make (hM : MnC Mn) (hI : Inv Mn h) (h8 : h 0 8 = 0) {x1 x2 : Int} : okI G (Inv Mn) 152 263 [vI x1, vI x2] h := by
  obtain ⟨s1, s2⟩ := wI_st hI
  replace s1 := s1.trans h8
  replace s2 := s2.trans h8
  apply q_V_make
  refine ⟨fun _ => ?_, fun c => absurd s1 c⟩
  apply q_V_settled
  refine ⟨fun c => absurd c (by decide), fun _ => ?_⟩
  apply q_M_make
  apply q_M_usedDraft
  have e : hs (hs h 32 1 0) 34 41 0 34 3 = h 34 3 := by rw [hs_k _ _ _ _ _ (by decide), hs_o _ _ _ _ _ (by decide)]
  rw [e]
  exact ⟨fun _ => ⟨rfl, Inv_clear hM hI⟩, fun c => absurd s2 c⟩
theorem O_move (hM : MnC Mn) (hI : Inv Mn h) (h8 : h 0 8 = 0) {x1 x2 : Int} : okI G (Inv Mn) 156 269 [vI x1, vI x2] h := by
  obtain ⟨s1, s2⟩ := wI_st hI
  replace s1 := s1.trans h8
  replace s2 := s2.trans h8
  apply q_V_move
  refine ⟨fun _ => ?_, fun c => absurd s1 c⟩
  apply q_V_settled
  refine ⟨fun c => absurd c (by decide), fun _ => ?_⟩
  apply q_M_move
  apply q_M_usedDraft
  have e : hs (hs h 32 1 0) 34 41 0 34 3 = h 34 3 := by rw [hs_k _ _ _ _ _ (by decide), hs_o _ _ _ _ _ (by decide)]
  rw [e]
  exact ⟨fun _ => ⟨rfl, Inv_clear hM hI⟩, fun c => absurd s2 c⟩
theorem T_spoil (hI : Inv Mn h) {x y v : Int} (hx : in32 x) (hy : in32 y) (hv : in32 v) : okI G (Inv Mn) 141 186 [vI x, vI y, vI v] h := by
  unfold in32 at hx hy hv
  obtain ⟨s1, s2⟩ := wI_st hI
  obtain ⟨⟨c1, c2', c3, c4⟩, m⟩ := id hI
  have c01 := c2'.2.2.2.2.1
  apply q_V_spoil
  rw [s1]
  refine ⟨fun c0 => ?_, fun c0 => ?_⟩
  · have bad : ¬ (0 ≤ x ∧ x ≤ 215 ∧ 0 ≤ y ∧ y ≤ 63 ∧ 0 ≤ v ∧ v ≤ 255) → RunsI G 186 [vR 34, vI x, vI y, vI v] h (fun r2 h2 => wI (-1) = wI r2 ∧ Inv Mn h2) := by
      intro n
      apply q_M_spoil
      rw [wI_id (z := x) (by omega) (by omega), wI_id (z := y) (by omega) (by omega), wI_id (z := v) (by omega) (by omega), s2]
      refine ⟨fun _ => ?_, fun c => absurd c0 c⟩
      refine M_in (by omega) (by omega) (by omega) (fun a1 a2 => ⟨fun c => absurd c (by decide), fun _ => ?_⟩) (fun a => ⟨fun _ => ⟨rfl, hI⟩, fun c => absurd (by decide) c⟩)
      refine M_in (by omega) (by omega) (by omega) (fun b1 b2 => ⟨fun c => absurd c (by decide), fun _ => ?_⟩) (fun a => ⟨fun _ => ⟨rfl, hI⟩, fun c => absurd (by decide) c⟩)
      exact M_in (by omega) (by omega) (by omega) (fun d1 d2 => absurd ⟨a1, a2, b1, b2, d1, d2⟩ n) (fun a => ⟨fun _ => ⟨rfl, hI⟩, fun c => absurd (by decide) c⟩)
    apply q_D_isOctet
    rw [wI_id (z := x) (by omega) (by omega), wI_id (z := y) (by omega) (by omega), wI_id (z := v) (by omega) (by omega)]
    refine ⟨fun c => ⟨Or.inl rfl, fun _ => bad (by omega), fun c => absurd (by decide) c⟩, fun q1 => ⟨fun c => ⟨Or.inl rfl, fun _ => bad (by omega), fun c => absurd (by decide) c⟩, fun q2 => ⟨fun c => ⟨Or.inl rfl, fun _ => bad (by omega), fun c => absurd (by decide) c⟩, fun q3 => ⟨fun c => ⟨Or.inl rfl, fun _ => bad (by omega), fun c => absurd (by decide) c⟩, fun q4 => ⟨Or.inr rfl, fun c => absurd c (by decide), fun _ => ⟨fun c => bad (by omega), fun q5 => ⟨fun q6 => ?_, fun c => bad (by omega)⟩⟩⟩⟩⟩⟩⟩
    refine D_get (by omega) (by omega) ?_
    refine D_put c1.1.1 (by omega) (by omega) (fun h2 u => ?_)
    refine D_settle u.1 (fun h3 k1 k2 k3 k4 => ?_)
    have fr : ∀ o, o ≠ 2 → o ≠ 3 → o ≠ 4 → h3 o = h o := fun o a b c => by rw [k4 o a b c, u.2.2 o b c]
    apply q_M_spoil
    rw [wI_id (z := x) (by omega) (by omega), wI_id (z := y) (by omega) (by omega), wI_id (z := v) (by omega) (by omega), fr 34 (by decide) (by decide) (by decide), s2]
    refine ⟨fun _ => ?_, fun c => absurd c0 c⟩
    refine M_in (by omega) (by omega) (by omega) (fun a1 a2 => ⟨fun c => absurd c (by decide), fun _ => ?_⟩) (fun a => by omega)
    refine M_in (by omega) (by omega) (by omega) (fun b1 b2 => ⟨fun c => absurd c (by decide), fun _ => ?_⟩) (fun a => by omega)
    refine M_in (by omega) (by omega) (by omega) (fun d1 d2 => ⟨fun c => absurd c (by decide), fun _ => ?_⟩) (fun a => by omega)
    rw [wI_id (z := 64 * x + y) (by omega) (by omega)]
    have e35 : h3 35 = h 35 := fr 35 (by decide) (by decide) (by decide)
    have ea : (64 * x + y) = x * 64 + y := by omega
    rw [ea]
    refine ⟨⟨by omega, by omega⟩, ⟨by omega, by omega⟩, ?_, ?_⟩
    · rw [bA_255, e35]
      have e1 := eq3 hI (x * 64 + y).toNat (by omega)
      unfold rd
      rw [e1]
      rfl
    · have w := w8_rng (w8 v)
      have g : ∀ o, o ≠ 2 → o ≠ 3 → o ≠ 4 → o ≠ 35 → hs h3 35 (x * 64 + y).toNat (w8 (w8 v)) o = h o := fun o a b c d => by rw [hs_o _ _ _ _ _ d, fr o a b c]
      have i2 : hs h3 35 (x * 64 + y).toNat (w8 (w8 v)) 2 = h3 2 := hs_o _ _ _ _ _ (by decide)
      have i3 : hs h3 35 (x * 64 + y).toNat (w8 (w8 v)) 3 = h3 3 := hs_o _ _ _ _ _ (by decide)
      have i4 : hs h3 35 (x * 64 + y).toNat (w8 (w8 v)) 4 = h3 4 := hs_o _ _ _ _ _ (by decide)
      refine ⟨⟨⟨⟨⟨?_, ?_, ?_, ?_⟩, ?_, ?_⟩, ?_, ?_, ?_⟩, C2_congr (by rw [g 1 (by decide) (by decide) (by decide) (by decide)]) (by rw [g 1 (by decide) (by decide) (by decide) (by decide)]) (by rw [g 0 (by decide) (by decide) (by decide) (by decide)]) (by rw [g 26 (by decide) (by decide) (by decide) (by decide)]) (by rw [g 34 (by decide) (by decide) (by decide) (by decide)]) (by rw [g 34 (by decide) (by decide) (by decide) (by decide)]) (by rw [g 34 (by decide) (by decide) (by decide) (by decide)]) (by rw [g 34 (by decide) (by decide) (by decide) (by decide)]) c2', C3_congr (by rw [g 32 (by decide) (by decide) (by decide) (by decide)]) (by rw [g 34 (by decide) (by decide) (by decide) (by decide)]) (g 33 (by decide) (by decide) (by decide) (by decide)) (g 52 (by decide) (by decide) (by decide) (by decide)) c3, C4_congr (by rw [g 17 (by decide) (by decide) (by decide) (by decide)]) (by rw [g 17 (by decide) (by decide) (by decide) (by decide)]) (by rw [g 17 (by decide) (by decide) (by decide) (by decide)]) (by rw [g 34 (by decide) (by decide) (by decide) (by decide)]) (by rw [g 34 (by decide) (by decide) (by decide) (by decide)]) (by rw [g 34 (by decide) (by decide) (by decide) (by decide)]) c4⟩, fun hm => ?_⟩
      · rw [i2]; exact k1.1.1
      · rw [i3]; exact k1.1.2.1
      · rw [i4]; exact k1.1.2.2.1
      · rw [i2, i3, i4]; exact k1.1.2.2.2
      · rw [i2, i3]; exact k1.2.1
      · rw [i4]; exact k1.2.2
      · exact Sb_set (by rw [e35]; exact c1.2.1) _ w.1 w.2
      · rw [g 36 (by decide) (by decide) (by decide) (by decide)]; exact c1.2.2.1
      · intro k hk
        rw [i2, k3 k hk, u.2.1, ub_set, w8_mod, w8_mod, e35]
        unfold wr
        split
        · rfl
        · exact eq3 hI k hk
      · rw [g 0 (by decide) (by decide) (by decide) (by decide)] at hm
        omega
  · apply q_M_spoil
    rw [s2]
    exact ⟨fun c => absurd c c0, fun _ => ⟨rfl, hI⟩⟩
end OFF
