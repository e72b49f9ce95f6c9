/-! unmount -/
section UNM
variable {G : GG} {h : AH}
theorem wb1_mod' {f : Nat → Int} {a v w : Int} (h : v % 256 = w % 256) : wb f a 1 v = wb f a 1 w := by
  funext k
  unfold wb
  split
  · rename_i c
    rw [show k - a.toNat = 0 by omega, Int.pow_zero, Int.ediv_one, Int.ediv_one]
    exact h
  · rfl
theorem Mo_Mb (h : AH) (m : Mo h) : Mb h := by
  obtain ⟨t, R, v, hd, e2, gr, a, b, c⟩ := m
  have nn := V_n v
  have mp := V_mp v
  have r0 := (v.2.2.1 0 v.1.1.1).2.1 0 v.1.1.2.2
  rw [v.1.1.2.1] at r0
  unfold rwP at r0
  rw [if_pos rfl] at r0
  simp only [tc] at r0
  have c0 := (v.1.2.1 0 v.1.1.1 0 v.1.1.2.2).1
  unfold clu at c0 mp
  exact ⟨a.symm, nn, b.symm, by omega, c.symm, by omega⟩
theorem fr_cg {f w : Nat → Int} {mp : Int} (hm : 2 ≤ mp) (hE : ∀ a : Int, 1024 ≤ a → a < 13824 → rd w a = rd f a) : ∀ i : Nat, i ≤ 100 → mp ≤ 101 → fr w mp i = fr f mp i
  | 0, _, _ => rfl
  | i + 1, hi, h1 => by
    rw [fr, fr, fr_cg hm hE i (by omega) h1]
    have e : tb w mp (2 + i) = tb f mp (2 + i) := by
      unfold tb
      rw [hE _ (by unfold ca; omega) (by unfold ca; omega)]
    rw [e]
theorem T_unmount (hI : Inv Mo h) : okI G (Inv Mo) 145 228 [] h := by
  obtain ⟨⟨c1, c2, c3, c4⟩, m⟩ := id hI
  have e34 := c2.2.2.2.1
  rcases c2.2.2.2.2.1 with h8 | h8
  · exact O_unmount hI h8
  obtain ⟨b1, b2, -, -, b5, b6⟩ := Mo_Mb h (m h8)
  have hE : E (ub (h 35)) (h 3) := fun k hk => by rw [c1.1.2.1 k hk]; exact (c1.2.2.2 k hk).symm
  have hb := c1.1.1.2.1
  apply q_V_unmount
  rw [h8]
  refine ⟨fun z => absurd z (by decide), fun _ => ⟨Or.inl rfl, ?_⟩⟩
  have a3 : ∀ o, o ≠ 0 → (hs h 0 8 0) o = h o := fun o p => hs_o _ _ _ _ _ p
  refine D_get (by decide) (by decide) ?_
  rw [a3 3 (by decide)]
  have dk : Dk (hs h 0 8 0) := Dk_congr (a3 2 (by decide)) (a3 3 (by decide)) (a3 4 (by decide)) c1.1.1
  refine D_wb1 dk (by decide) (by decide) (fun g1 u1 => ?_)
  rw [a3 3 (by decide)] at u1
  have g17 : g1 7 = h 7 := by rw [u1.2.2 7 (by decide) (by decide)]; exact a3 7 (by decide)
  have hi1 : ∀ a : Int, 1024 ≤ a → a < 13824 → rd (g1 3) a = rd (h 3) a := fun a p q => by rw [u1.2.1]; exact rd_wb_ne (by omega) (by omega) (by omega)
  apply q_S_percent
  rw [g17, wI_id (z := h 7 1) (by omega) (by omega)]
  refine ⟨fun z => by omega, fun _ => ?_⟩
  refine S_freeOnes u1.1.2.1 (by rw [g17]; exact b2) (by rw [g17]; omega) ?_
  rw [g17, fr_cg (by omega) hi1 _ (by omega) (by omega), wI_id (z := h 7 1) (by omega) (by omega)]
  have fr' := fr_rng (h 3) (h 7 3) (h 7 1).toNat
  generalize ef : fr (h 3) (h 7 3) (h 7 1).toNat = F at fr'
  refine ⟨by omega, ?_⟩
  rw [wI_id (z := 100 * (h 7 1 - F)) (by omega) (by omega), tdiv_pos (by omega)]
  refine D_wb1 u1.1 (by decide) (by decide) (fun g2 u2 => ?_)
  have U := u1.trans u2
  rw [u1.2.1] at U
  have g21 : g2 1 = h 1 := by rw [U.2.2 1 (by decide) (by decide)]; exact a3 1 (by decide)
  have g22 : g2 2 = h 2 := by rw [U.2.2 2 (by decide) (by decide)]; exact a3 2 (by decide)
  refine D_flush U.1 (by rw [g21]; exact c2.2.1) (fun r g3 fl r01 sy e3 k3 o3 => ?_)
  rw [g22, g21, U.2.1] at fl
  have go : ∀ o, ¬ (o ≤ 4) → g3 o = h o := fun o p => by rw [o3 o (by omega) (by omega) (by omega) (by omega), U.2.2 o (by omega) (by omega)]; exact a3 o (by omega)
  have g0 : g3 0 8 = 0 := by rw [o3 0 (by decide) (by decide) (by decide) (by decide), U.2.2 0 (by decide) (by decide), hs_same]
  have ref : RunsI G 228 [vR 34] g3 (fun r2 h2 => ((r = 0 → wI (-7) = wI r2 ∧ Inv Mo h2) ∧ (r = 1 → wI 1 = wI r2 ∧ Inv Mo h2))) := by
    apply q_M_unmount
    rw [go 34 (by omega), ← e34, h8]
    refine ⟨fun z => absurd z (by decide), fun _ => ?_⟩
    have g35 : g3 35 = h 35 := go 35 (by omega)
    refine M_freeMany (by rw [g35]; exact c1.2.1) (by rw [go 34 (by omega), ← b1]; exact b2) (by rw [go 34 (by omega), ← b5]; omega) ?_
    rw [g35, go 34 (by omega), ← b1, ← b5, fr_cg (f := h 3) (w := ub (h 35)) (by omega) (fun a p q => hE.rd (by omega) (by omega)) _ (by omega) (by omega), ef]
    refine M_beginWrite (by rw [g35]; exact c1.2.1) (by rw [go 36 (by omega)]; exact c1.2.2.1) (fun h2 s6 e6 o2 => ?_)
    rw [g35] at e6
    have y34 : h2 34 = h 34 := (o2 34 (by decide)).trans (go 34 (by omega))
    refine ⟨by decide, by decide, ?_⟩
    rw [hs_o _ _ _ _ _ (by decide), y34, ← b1, wI_id (z := h 7 1) (by omega) (by omega), wI_id (z := 100 * (h 7 1 - F)) (by omega) (by omega), tdiv_pos (by omega)]
    refine ⟨by omega, by decide, ?_⟩
    generalize eg : hs (hs h2 36 44 (w8 (w8 (bA (h2 36 44) (-3))))) 36 49 (w8 (w8 (100 * (h 7 1 - F) / h 7 1))) = h4
    have s4 : Sb (h4 36) := by
      rw [← eg]
      exact Sb_set (Sb_set s6 _ (w8_rng _).1 (w8_rng _).2) _ (w8_rng _).1 (w8_rng _).2
    have w4 : ub (h4 36) = wb (wb (ub (h2 36)) 44 1 (bA (h2 36 44) (-3))) 49 1 (100 * (h 7 1 - F) / h 7 1) := by
      rw [← eg, ub_w8, ub_w8]
      rfl
    have o4 : ∀ o, o ≠ 36 → h4 o = h2 o := fun o p => by rw [← eg, hs_o _ _ _ _ _ p, hs_o _ _ _ _ _ p]
    clear eg
    have e44 : bA (h2 36 44) (-3) % 256 = bA (rd (h 3) 44) (-3) % 256 := by
      apply bA_mod_congr
      have q1 := e6 44 (by decide)
      have q2 := hE 44 (by decide)
      unfold ub at q1 q2
      rw [q1, q2]
      have := hb 44 (by decide)
      show h 3 44 = h 3 44 % 256
      omega
    have hw : ∀ k, k < 13824 → ub (h4 36) k = wb (wb (h 3) 44 1 (bA (rd (h 3) 44) (-3))) 49 1 (100 * (h 7 1 - F) / h 7 1) k := by
      rw [w4, wb1_mod' e44]
      exact E_wb (E_wb (e6.tr hE) _ _ _) _ _ _
    have hdd : ∀ k, k < 13824 → ub (h 35) k = h 2 k := fun k hk => (c1.2.2.2 k hk).symm
    have z35 : h4 35 = h 35 := by rw [o4 35 (by decide), o2 35 (by decide)]; exact g35
    have z34 : h4 34 = h 34 := (o4 34 (by decide)).trans y34
    refine M_flush (by rw [z35]; exact c1.2.1) s4 (by rw [z34, ← c2.1]; exact c2.2.1) (fun r2 h5 fl2 r201 s5 e56 e53 k5 o5 => ?_)
    rw [z35, z34, ← c2.1, ← c2.2.2.1] at fl2
    obtain ⟨t1, t2, t3, t4⟩ := Fl_det (Nat.le_refl _) hdd hw fl2 fl
    have IV : Inv Mo (hs h5 34 3 0) := by
      have fo : ∀ o, o ≠ 34 → (hs h5 34 3 0) o = h5 o := fun o p => hs_o _ _ _ _ _ p
      have f34 : ∀ k, k ≠ 3 → (hs h5 34 3 0) 34 k = h5 34 k := fun k p => hs_k _ _ _ _ _ p
      have ho : ∀ o, ¬ (o ≤ 4) → ¬ (34 ≤ o ∧ o ≤ 36) → (hs h5 34 3 0) o = h o := fun o p q => by rw [fo o (by omega), o5 o (by omega) (by omega), o4 o (by omega), o2 o (by omega)]; exact go o p
      have hl : ∀ o, o ≤ 4 → (hs h5 34 3 0) o = g3 o := fun o p => by rw [fo o (by omega), o5 o (by omega) (by omega), o4 o (by omega), o2 o (by omega)]
      have hk : ∀ k, k ≠ 3 → k ≠ 5 → k ≠ 6 → (hs h5 34 3 0) 34 k = h 34 k := fun k p q r => by rw [f34 k p, k5 k p q r, z34]
      refine ⟨⟨⟨?_, by rw [fo 35 (by decide)]; exact s5, by rw [fo 36 (by decide), e56]; exact s4, fun k hk' => ?_⟩, ⟨?_, ?_, ?_, ?_, ?_, ?_⟩, C3_congr (by rw [ho 32 (by decide) (by decide)]) (hk 41 (by decide) (by decide) (by decide)) (ho 33 (by decide) (by decide)) (ho 52 (by decide) (by decide)) c3, C4_congr (by rw [ho 17 (by decide) (by decide)]) (by rw [ho 17 (by decide) (by decide)]) (by rw [ho 17 (by decide) (by decide)]) (hk 9 (by decide) (by decide) (by decide)) (hk 10 (by decide) (by decide) (by decide)) (hk 11 (by decide) (by decide) (by decide)) c4⟩, fun q => ?_⟩
      · unfold Syn Dk at *
        rw [hl 2 (by decide), hl 3 (by decide), hl 4 (by decide)]
        exact sy
      · rw [hl 2 (by decide), fo 35 (by decide)]; exact (t2 k hk').symm
      · rw [hl 1 (by decide), f34 5 (by decide)]; exact t3.symm
      · rw [hl 1 (by decide)]; exact Fl_f c2.2.1 fl
      · rw [hl 1 (by decide), f34 6 (by decide)]; exact t4.symm
      · rw [hl 0 (by decide), hs_same]; exact g0
      · rw [hl 0 (by decide)]; exact Or.inl g0
      · rw [ho 26 (by decide) (by decide), hk 4 (by decide) (by decide) (by decide)]; exact c2.2.2.2.2.2
      · rw [hl 0 (by decide), g0] at q
        exact absurd q (by decide)
    refine ⟨Or.inl rfl, ?_⟩
    rw [t1]
    rcases r01 with q | q
    · rw [q]; exact ⟨fun _ => ⟨fun _ => ⟨rfl, IV⟩, fun z => absurd z (by decide)⟩, fun z => absurd wI_0 z⟩
    · rw [q]; exact ⟨fun z => absurd z (by decide), fun _ => ⟨fun z => absurd z (by decide), fun _ => ⟨rfl, IV⟩⟩⟩
  rcases r01 with q | q
  · rw [q] at ref ⊢
    exact ⟨fun _ => RunsI.mono ref (fun r2 h2 p => p.1 rfl), fun z => absurd wI_0 z⟩
  · rw [q] at ref ⊢
    exact ⟨fun z => absurd z (by decide), fun _ => RunsI.mono ref (fun r2 h2 p => p.2 rfl)⟩
end UNM
