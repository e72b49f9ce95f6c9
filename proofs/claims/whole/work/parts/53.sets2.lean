/-! Sets of the class: NAME, sum, all -/
theorem la_rng {tl i : Int} (h0 : 0 ≤ i) (h1 : i < 30) : tl + 2 ≤ la tl i ∧ la tl i + 2 ≤ tl + 64 := by unfold la; split <;> omega
theorem lt_rng {f : Nat → Int} (hb : By f) {tl : Int} (t0 : 0 ≤ tl) (t1 : tl + 64 ≤ 13824) {i : Nat} (hi : i < 30) : 0 ≤ lt f tl i ∧ lt f tl i < 65536 := by
  have r := la_rng (tl := tl) (i := (i : Int)) (by omega) (by omega)
  exact u2_rng hb (by omega) (by omega)
theorem isLet_rng {v : Int} (h : isLet v) : 32 ≤ v ∧ v ≤ 255 := by unfold isLet at h; omega
section SETS2
variable {G : GG} {h : AH}
theorem E_letterAt {P : Int → AH → Prop} {tl : Int} {i : Nat} (hb : By (h 3)) (t0 : 0 ≤ tl) (t1 : tl + 64 ≤ 13824) (hi : i < 30) (H : P (lt (h 3) tl i) h) : RunsI G 90 [vR 10, vI tl, vI (i : Int)] h P := by
  have r := la_rng (tl := tl) (i := (i : Int)) (by omega) (by omega)
  have H' : RunsI G 55 [vR 1, vI (la tl i)] h (fun r2 h2 => P r2 h2) := D_u2 hb (by omega) (by omega) H
  unfold la at H'
  apply q_E_letterAt
  apply q_E_letterAddress
  rw [wI_id (z := (i : Int)) (by omega) (by omega)]
  refine ⟨fun c => ?_, fun c => ?_⟩
  · rw [if_neg (by omega)] at H'; exact H'
  · rw [if_pos (by omega)] at H'; exact H'
/-- the NAME object holds the letters of a SET -/
theorem E_readName {P : AH → Prop} {x tl : Int} (hb : By (h 3)) (h0 : 0 ≤ x) (h1 : x + 64 ≤ 13824) (hs9 : rd (h 3) (x + 35) ≤ 30) (ht : 1 ≤ rd (h 3) (x + 35) → 0 ≤ tl ∧ tl + 64 ≤ 13824) (H : ∀ h', h' 22 1 = rd (h 3) (x + 35) → (∀ i : Nat, (i : Int) < rd (h 3) (x + 35) → h' 23 i = lt (h 3) tl i) → (∀ o, o ≠ 22 → o ≠ 23 → h' o = h o) → P h') : RunsV G 94 [vR 10, vR 22, vI x, vI tl] h P := by
  apply q_E_readName
  have b := hb.rd (show 0 ≤ x + 35 by omega) (show x + 35 < 13824 by omega)
  refine D_get (by omega) (by omega) ?_
  generalize rd (h 3) (x + 35) = s at b hs9 ht H
  have em : mm 1 s 30 = s := by
    rw [mm_1, wI_id (z := s) (by omega) (by omega), wI_id (z := 30) (by decide) (by decide)]
    split <;> omega
  rw [em]
  have key : ∀ (m j : Nat) (g : AH), (j : Int) + m = s → (∀ i : Nat, i < j → g 23 i = lt (h 3) tl i) → (∀ o, o ≠ 22 → o ≠ 23 → g o = h o) → Go G (pV P) 94 21 [some (vR 10), some (vR 22), none, some (vI tl), some (vI s), some (vI (j : Int))] [] g := by
    intro m
    induction m with
    | zero =>
      intro j g hm e fr
      apply q_E_readName_c21
      rw [wI_id (z := (j : Int)) (by omega) (by omega), wI_id (z := s) (by omega) (by omega)]
      refine ⟨fun _ => H _ (hs_same _ _ _ _) (fun i hi => ?_) (fun o a c => ?_), fun c => by omega⟩
      · rw [hs_o _ _ _ _ _ (by decide)]; exact e i (by omega)
      · rw [hs_o _ _ _ _ _ a]; exact fr o a c
    | succ m ih =>
      intro j g hm e fr
      have t := ht (by omega)
      have e3 : g 3 = h 3 := fr 3 (by decide) (by decide)
      apply q_E_readName_c21
      rw [wI_id (z := (j : Int)) (by omega) (by omega), wI_id (z := s) (by omega) (by omega)]
      refine ⟨fun c => by omega, fun _ => ?_⟩
      have nx : RunsI G 90 [vR 10, vI tl, vI (j : Int)] g (fun r2 h2 => ((0 ≤ (j : Int) ∧ (j : Int) < 30) ∧ Go G (pV P) 94 21 [some (vR 10), some (vR 22), none, some (vI tl), some (vI s), some (vI ((j : Int) + 1))] [] (hs h2 23 (j : Int).toNat r2))) := by
        refine E_letterAt (by rw [e3]; exact hb) t.1 t.2 (by omega) ⟨by omega, ?_⟩
        rw [show (j : Int) + 1 = ((j + 1 : Nat) : Int) by omega]
        refine ih (j + 1) _ (by omega) (fun i hi => ?_) (fun o a c => by rw [hs_o _ _ _ _ _ c]; exact fr o a c)
        rw [hs_app, if_pos rfl]
        by_cases q : i = (j : Int).toNat
        · rw [if_pos q, e3, q]; rfl
        · rw [if_neg q]; exact e i (by omega)
      have r := la_rng (tl := tl) (i := (j : Int)) (by omega) (by omega)
      have nx2 : RunsI G 55 [vR 1, vI (la tl j)] g (fun r2 h2 => ((0 ≤ (j : Int) ∧ (j : Int) < 30) ∧ Go G (pV P) 94 21 [some (vR 10), some (vR 22), none, some (vI tl), some (vI s), some (vI ((j : Int) + 1))] [] (hs h2 23 (j : Int).toNat r2))) := by
        refine D_u2 (by rw [e3]; exact hb) (by omega) (by omega) ⟨by omega, ?_⟩
        rw [show (j : Int) + 1 = ((j + 1 : Nat) : Int) by omega]
        refine ih (j + 1) _ (by omega) (fun i hi => ?_) (fun o a c => by rw [hs_o _ _ _ _ _ c]; exact fr o a c)
        rw [hs_app, if_pos rfl]
        by_cases q : i = (j : Int).toNat
        · rw [if_pos q, e3, q]; rfl
        · rw [if_neg q]; exact e i (by omega)
      unfold la at nx2
      apply q_E_letterAddress
      rw [wI_id (z := (j : Int)) (by omega) (by omega)]
      refine ⟨fun c => ?_, fun c => ?_⟩
      · rw [if_neg (by omega)] at nx2; exact nx2
      · rw [if_pos (by omega)] at nx2; exact nx2
  exact key s.toNat 0 h (by omega) (fun i hi => by omega) (fun _ _ _ => rfl)
theorem E_roll {P : Int → AH → Prop} {s o : Int} (hs9 : 0 ≤ s ∧ s < 65536) (ho : 0 ≤ o ∧ o < 65536) (H : P (rl2 s o) h) : RunsI G 80 [vI s, vI o] h P := by
  apply q_E_roll
  rw [bA_1, bA_65535]
  have e : sRI s 1 = s / 2 := by
    show wI s / 2 = _
    rw [wI_id (by omega) (by omega)]
  rw [e, show sLI (s % 2) 15 = s % 2 * 32768 from rfl]
  exact H
theorem K_hash_22 {P : Int → AH → Prop} (hn : 0 ≤ h 22 1 ∧ h 22 1 ≤ 30) (hv : ∀ i : Nat, (i : Int) < h 22 1 → 0 ≤ h 23 i ∧ h 23 i < 256) (hg : ∀ i, i < 256 → 0 ≤ h 9 i ∧ h 9 i < 256) (H : P (hsh (h 9) (h 23) (h 22 1).toNat) h) : RunsI G 20 [vR 8, vR 22] h P := by
  apply q_K_hash_22
  have key : ∀ (m j : Nat), (j : Int) + m = h 22 1 → Go G (pI P) 20 4 [some (vR 8), some (vR 22), some (vI (hsh (h 9) (h 23) j)), some (vI (j : Int)), none] [] h := by
    intro m
    induction m with
    | zero =>
      intro j hm
      apply q_K_hash_22_c4
      rw [wI_id (z := (j : Int)) (by omega) (by omega), wI_id (z := h 22 1) (by omega) (by omega)]
      refine ⟨fun _ => ?_, fun c => by omega⟩
      rw [show (h 22 1).toNat = j by omega] at H
      exact H
    | succ m ih =>
      intro j hm
      apply q_K_hash_22_c4
      rw [wI_id (z := (j : Int)) (by omega) (by omega), wI_id (z := h 22 1) (by omega) (by omega)]
      refine ⟨fun c => by omega, fun _ => ?_⟩
      refine N_at_22 (by omega) (by omega) (by omega) ?_
      rw [show (j : Int).toNat = j by omega]
      have v := hv j (by omega)
      have g := hg (h 23 j).toNat (by omega)
      have r := hsh_rng (h 9) (h 23) j
      apply q_K_greatOf
      rw [wI_id (z := h 23 j) (by omega) (by omega)]
      refine ⟨fun c => by omega, fun _ => ⟨fun c => by omega, fun _ => ⟨by omega, ?_⟩⟩⟩
      rw [bA_255]
      refine E_roll r (by omega) (E_roll (rl2_rng _ _) ?_ ?_)
      · show 0 ≤ h 9 (h 23 j).toNat % 4294967296 / 256 ∧ h 9 (h 23 j).toNat % 4294967296 / 256 < 65536
        omega
      · have nx := ih (j + 1) (by omega)
        rw [hsh, show ((j + 1 : Nat) : Int) = (j : Int) + 1 by omega] at nx
        have e : sUI (h 9 (h 23 j).toNat) 8 = h 9 (h 23 j).toNat / 256 := by
          show h 9 (h 23 j).toNat % 4294967296 / 256 = _
          omega
        rw [e]
        exact nx
  exact key (h 22 1).toNat 0 (by omega)
theorem K_hash_32 {P : Int → AH → Prop} (hn : 0 ≤ h 32 1 ∧ h 32 1 ≤ 30) (hv : ∀ i : Nat, (i : Int) < h 32 1 → 0 ≤ h 33 i ∧ h 33 i < 256) (hg : ∀ i, i < 256 → 0 ≤ h 9 i ∧ h 9 i < 256) (H : P (hsh (h 9) (h 33) (h 32 1).toNat) h) : RunsI G 20 [vR 8, vR 32] h P := by
  apply q_K_hash_32
  have key : ∀ (m j : Nat), (j : Int) + m = h 32 1 → Go G (pI P) 20 4 [some (vR 8), some (vR 32), some (vI (hsh (h 9) (h 33) j)), some (vI (j : Int)), none] [] h := by
    intro m
    induction m with
    | zero =>
      intro j hm
      apply q_K_hash_32_c4
      rw [wI_id (z := (j : Int)) (by omega) (by omega), wI_id (z := h 32 1) (by omega) (by omega)]
      refine ⟨fun _ => ?_, fun c => by omega⟩
      rw [show (h 32 1).toNat = j by omega] at H
      exact H
    | succ m ih =>
      intro j hm
      apply q_K_hash_32_c4
      rw [wI_id (z := (j : Int)) (by omega) (by omega), wI_id (z := h 32 1) (by omega) (by omega)]
      refine ⟨fun c => by omega, fun _ => ?_⟩
      refine N_at_32 (by omega) (by omega) (by omega) ?_
      rw [show (j : Int).toNat = j by omega]
      have v := hv j (by omega)
      have g := hg (h 33 j).toNat (by omega)
      have r := hsh_rng (h 9) (h 33) j
      apply q_K_greatOf
      rw [wI_id (z := h 33 j) (by omega) (by omega)]
      refine ⟨fun c => by omega, fun _ => ⟨fun c => by omega, fun _ => ⟨by omega, ?_⟩⟩⟩
      rw [bA_255]
      refine E_roll r (by omega) (E_roll (rl2_rng _ _) ?_ ?_)
      · show 0 ≤ h 9 (h 33 j).toNat % 4294967296 / 256 ∧ h 9 (h 33 j).toNat % 4294967296 / 256 < 65536
        omega
      · have nx := ih (j + 1) (by omega)
        rw [hsh, show ((j + 1 : Nat) : Int) = (j : Int) + 1 by omega] at nx
        have e : sUI (h 9 (h 33 j).toNat) 8 = h 9 (h 33 j).toNat / 256 := by
          show h 9 (h 33 j).toNat % 4294967296 / 256 = _
          omega
        rw [e]
        exact nx
  exact key (h 32 1).toNat 0 (by omega)
theorem E_isRightName {P : Int → AH → Prop} {x tl room : Int} (hb : By (h 3)) (h0 : 0 ≤ x) (h1 : x + 64 ≤ 13824) (hr : 1 + rd (h 3) (x + 1) ≤ room) (ht : 3 ≤ room → 0 ≤ tl ∧ tl + 64 ≤ 13824) (hg : ∀ i, i < 256 → 0 ≤ h 9 i ∧ h 9 i < 256) (H1 : ∀ h', NmOK (h 3) (h 9) x tl → h' 22 1 = rd (h 3) (x + 35) → (∀ i : Nat, (i : Int) < rd (h 3) (x + 35) → h' 23 i = lt (h 3) tl i) → (∀ o, o ≠ 22 → o ≠ 23 → h' o = h o) → P 1 h') (H0 : ∀ h', ¬ NmOK (h 3) (h 9) x tl → (∀ o, o ≠ 22 → o ≠ 23 → h' o = h o) → P 0 h') : RunsI G 99 [vR 10, vI x, vI tl, vR 22] h P := by
  unfold NmOK at H1 H0
  have b := hb.rd (show 0 ≤ x + 35 by omega) (show x + 35 < 13824 by omega)
  have b1 := hb.rd (show 0 ≤ x + 1 by omega) (show x + 1 < 13824 by omega)
  apply q_E_isRightName
  apply q_E_nameSize
  refine D_get (by omega) (by omega) ?_
  generalize es : rd (h 3) (x + 35) = s at b H1 H0
  generalize ek : rd (h 3) (x + 1) = k at b1 hr H1 H0
  rw [wI_id (z := s) (by omega) (by omega)]
  refine ⟨fun c => ⟨Or.inl rfl, H0 h (fun q => by omega) (fun _ _ _ => rfl)⟩, fun c1 => ?_⟩
  apply q_E_entries
  refine D_get (by omega) (by omega) ?_
  rw [ek]
  apply q_N_entriesOf
  rw [wI_id (z := s + 14) (by omega) (by omega), tdiv_pos (by omega), wI_id (z := 1 + k) (by omega) (by omega), wI_id (z := 2 + (s + 14) / 15) (by omega) (by omega)]
  refine ⟨by decide, fun c2 => ?_, fun c2 => ⟨Or.inl rfl, H0 h (fun q => c2 q.2.1) (fun _ _ _ => rfl)⟩⟩
  refine E_readName hb h0 h1 (by omega) (fun c => ht (by omega)) (fun h2 a1 a2 fr => ?_)
  rw [es] at a1 a2
  have e3 : h2 3 = h 3 := fr 3 (by decide) (by decide)
  have e9 : h2 9 = h 9 := fr 9 (by decide) (by decide)
  have a2' : ∀ i : Nat, (i : Int) < s → 0 ≤ h2 23 i ∧ h2 23 i < 65536 := fun i hi => by
    rw [a2 i hi]
    have t := ht (by omega)
    exact lt_rng hb t.1 t.2 (by omega)
  refine N_isRight_22 (by omega) (fun i hi => a2' i (by omega)) (fun nm => ?_) (fun nm => ?_)
  · refine ⟨fun c => absurd c (by decide), fun _ => ?_⟩
    rw [a1] at nm
    have t := ht (by have := nm.1; omega)
    have nm' : isNm (lt (h 3) tl) s := isNm_congr (fun i hi => a2 i hi) nm
    refine K_hash_22 (by omega) (fun i hi => ?_) (by rw [e9]; exact hg) ?_
    · have := isLet_rng (nm.2.2.1 i (by omega))
      omega
    · rw [a1, e9]
      have eh : hsh (h 9) (h2 23) s.toNat = hsh (h 9) (lt (h 3) tl) s.toNat := hsh_congr (fun i hi => ⟨a2 i (by omega), by have := isLet_rng (nm.2.2.1 i (by omega)); omega⟩) (fun _ _ => rfl)
      rw [eh]
      refine D_u2 (by rw [e3]; exact hb) (by omega) (by omega) ?_
      rw [e3]
      have hr1 := hsh_rng (h 9) (lt (h 3) tl) s.toNat
      have hr2 := u2_rng hb (show 0 ≤ x + 36 by omega) (show x + 36 + 1 < 13824 by omega)
      rw [wI_id (z := hsh (h 9) (lt (h 3) tl) s.toNat) (by omega) (by omega), wI_id (z := u2 (h 3) (x + 36)) (by omega) (by omega)]
      refine ⟨fun c3 => ?_, fun c3 => ⟨Or.inl rfl, H0 h2 (fun q => c3 q.2.2.2.1) fr⟩⟩
      have l2 : (∀ i : Int, 0 ≤ i → i < k - 1 → rd (h 3) (tl + 32 * i) = 193 ∧ rd (h 3) (tl + 32 * i + 1) = 0) → ∀ (m j : Nat), (j : Int) + m = 15 * (k - 1) → s ≤ j → (∀ i : Nat, s ≤ i → i < j → lt (h 3) tl i = 0) → Go G (pI P) 99 133 [some (vR 10), some (vI x), some (vI tl), none, none, some (vI (j : Int))] [] h2 := by
        intro c4 m
        induction m with
        | zero =>
          intro j hm hj e
          apply q_E_isRightName_c133
          apply q_E_entries
          refine D_get (by omega) (by omega) ?_
          rw [e3, ek, wI_id (z := 15 * (1 + k - 2)) (by omega) (by omega), wI_id (z := (j : Int)) (by omega) (by omega)]
          refine ⟨fun _ => ⟨Or.inr rfl, H1 h2 ⟨by omega, c2, nm', c3, c4, fun i hi hj2 => e i hi (by omega)⟩ a1 a2 fr⟩, fun c => by omega⟩
        | succ m ih =>
          intro j hm hj e
          apply q_E_isRightName_c133
          apply q_E_entries
          refine D_get (by omega) (by omega) ?_
          rw [e3, ek, wI_id (z := 15 * (1 + k - 2)) (by omega) (by omega), wI_id (z := (j : Int)) (by omega) (by omega)]
          refine ⟨fun c => by omega, fun _ => ?_⟩
          refine E_letterAt (by rw [e3]; exact hb) t.1 t.2 (by omega) ?_
          rw [e3]
          have lr := lt_rng hb t.1 t.2 (show j < 30 by omega)
          rw [wI_id (by omega) (by omega)]
          refine ⟨fun c5 => ?_, fun c5 => ⟨Or.inl rfl, H0 h2 (fun q => c5 (q.2.2.2.2.2 j (by omega) (by omega))) fr⟩⟩
          rw [show (j : Int) + 1 = ((j + 1 : Nat) : Int) by omega]
          refine ih (j + 1) (by omega) (by omega) (fun i hi hi2 => ?_)
          by_cases q : i = j
          · rw [q]; exact c5
          · exact e i hi (by omega)
      have l1 : ∀ (m j : Nat), (j : Int) + m = k - 1 → (∀ i : Int, 0 ≤ i → i < j → rd (h 3) (tl + 32 * i) = 193 ∧ rd (h 3) (tl + 32 * i + 1) = 0) → Go G (pI P) 99 70 [some (vR 10), some (vI x), some (vI tl), none, some (vI s), some (vI (j : Int))] [] h2 := by
        intro m
        induction m with
        | zero =>
          intro j hm e
          apply q_E_isRightName_c70
          apply q_E_entries
          refine D_get (by omega) (by omega) ?_
          rw [e3, ek, wI_id (z := 1 + k - 2) (by omega) (by omega), wI_id (z := (j : Int)) (by omega) (by omega)]
          refine ⟨fun _ => ?_, fun c => by omega⟩
          have := l2 (fun i hi hi2 => e i hi (by omega)) (15 * (k - 1) - s).toNat s.toNat (by omega) (by omega) (fun i a b => by omega)
          rw [show ((s.toNat : Nat) : Int) = s by omega] at this
          exact this
        | succ m ih =>
          intro j hm e
          apply q_E_isRightName_c70
          apply q_E_entries
          refine D_get (by omega) (by omega) ?_
          rw [e3, ek, wI_id (z := 1 + k - 2) (by omega) (by omega), wI_id (z := (j : Int)) (by omega) (by omega)]
          refine ⟨fun c => by omega, fun _ => ?_⟩
          have q1 := hb.rd (show 0 ≤ tl + 32 * (j : Int) by omega) (show tl + 32 * (j : Int) < 13824 by omega)
          have q2 := hb.rd (show 0 ≤ tl + 32 * (j : Int) + 1 by omega) (show tl + 32 * (j : Int) + 1 < 13824 by omega)
          refine D_get (by omega) (by omega) ?_
          rw [e3, wI_id (z := rd (h 3) (tl + 32 * (j : Int))) (by omega) (by omega)]
          refine ⟨fun c5 => ?_, fun c5 => ⟨Or.inl rfl, H0 h2 (fun q => c5 (q.2.2.2.2.1 j (by omega) (by omega)).1) fr⟩⟩
          refine D_get (by omega) (by omega) ?_
          rw [e3, wI_id (z := rd (h 3) (tl + 32 * (j : Int) + 1)) (by omega) (by omega)]
          refine ⟨fun c6 => ?_, fun c6 => ⟨Or.inl rfl, H0 h2 (fun q => c6 (q.2.2.2.2.1 j (by omega) (by omega)).2) fr⟩⟩
          rw [show (j : Int) + 1 = ((j + 1 : Nat) : Int) by omega]
          refine ih (j + 1) (by omega) (fun i hi hi2 => ?_)
          by_cases q : i = (j : Int)
          · rw [q]; exact ⟨c5, c6⟩
          · exact e i hi (by omega)
      exact l1 (k - 1).toNat 0 (by have := nm'.1; omega) (fun i a b => by omega)
  · refine ⟨fun _ => ⟨Or.inl rfl, H0 h2 (fun q => nm ?_) fr⟩, fun c => absurd wI_0 c⟩
    rw [a1]
    exact isNm_congr (fun i hi => (a2 i hi).symm) q.2.2.1
theorem E_sum {P : Int → AH → Prop} {x tl : Int} (hb : By (h 3)) (h0 : 0 ≤ x) (h1 : x + 64 ≤ 13824) (hk : 1 ≤ rd (h 3) (x + 1) ∧ rd (h 3) (x + 1) ≤ 3) (t0 : 0 ≤ tl) (t1 : tl + 64 ≤ 13824) (H : P (ssum (h 3) x tl (32 * (1 + rd (h 3) (x + 1))).toNat) h) : RunsI G 93 [vR 10, vI x, vI tl] h P := by
  apply q_E_sum
  generalize ek : rd (h 3) (x + 1) = k at hk H
  have l2 : ∀ (m j : Nat), (j : Int) + m = 32 * (k - 1) → Go G (pI P) 93 49 [some (vR 10), some (vI x), some (vI tl), some (vI (ssum (h 3) x tl (64 + j))), some (vI (j : Int))] [] h := by
    intro m
    induction m with
    | zero =>
      intro j hm
      apply q_E_sum_c49
      apply q_E_entries
      refine D_get (by omega) (by omega) ?_
      rw [ek, wI_id (z := 32 * (1 + k - 2)) (by omega) (by omega), wI_id (z := (j : Int)) (by omega) (by omega)]
      refine ⟨fun _ => ?_, fun c => by omega⟩
      rw [show (32 * (1 + k)).toNat = 64 + j by omega] at H
      exact H
    | succ m ih =>
      intro j hm
      apply q_E_sum_c49
      apply q_E_entries
      refine D_get (by omega) (by omega) ?_
      rw [ek, wI_id (z := 32 * (1 + k - 2)) (by omega) (by omega), wI_id (z := (j : Int)) (by omega) (by omega)]
      refine ⟨fun c => by omega, fun _ => ?_⟩
      have q1 := hb.rd (show 0 ≤ tl + (j : Int) by omega) (show tl + (j : Int) < 13824 by omega)
      refine D_get (by omega) (by omega) (E_roll (ssum_rng _ _ _ _) (by omega) ?_)
      have nx := ih (j + 1) (by omega)
      rw [show 64 + (j + 1) = (64 + j) + 1 by omega, ssum, if_neg (by omega), so, if_neg (by omega), show tl + (((64 + j : Nat) : Int) - 64) = tl + j by omega, show ((j + 1 : Nat) : Int) = (j : Int) + 1 by omega] at nx
      exact nx
  have l1 : ∀ (m j : Nat), j + m = 64 → Go G (pI P) 93 5 [some (vR 10), some (vI x), some (vI tl), some (vI (ssum (h 3) x tl j)), some (vI (j : Int))] [] h := by
    intro m
    induction m with
    | zero =>
      intro j hm
      apply q_E_sum_c5
      rw [wI_id (z := (j : Int)) (by omega) (by omega)]
      refine ⟨fun _ => ?_, fun c => by omega⟩
      rw [show j = 64 + 0 by omega]
      exact l2 (32 * (k - 1)).toNat 0 (by omega)
    | succ m ih =>
      intro j hm
      apply q_E_sum_c5
      rw [wI_id (z := (j : Int)) (by omega) (by omega)]
      refine ⟨fun c => by omega, fun _ => ?_⟩
      have nx := ih (j + 1) (by omega)
      rw [show ((j + 1 : Nat) : Int) = (j : Int) + 1 by omega, ssum] at nx
      by_cases q : j = 2 ∨ j = 3
      · rw [if_pos q] at nx
        exact ⟨fun _ => nx, fun c1 => ⟨fun _ => nx, fun c2 => by omega⟩⟩
      · rw [if_neg q, so, if_pos (by omega)] at nx
        have q1 := hb.rd (show 0 ≤ x + (j : Int) by omega) (show x + (j : Int) < 13824 by omega)
        exact ⟨fun c => by omega, fun _ => ⟨fun c => by omega, fun _ => D_get (by omega) (by omega) (E_roll (ssum_rng _ _ _ _) (by omega) nx)⟩⟩
  exact l1 64 0 rfl
theorem E_isRight {P : Int → AH → Prop} {x tl room n : Int} (hb : By (h 3)) (h0 : 0 ≤ x) (h1 : x + 64 ≤ 13824) (hr : 0 ≤ room ∧ room ≤ 500) (ht : 3 ≤ room → 0 ≤ tl ∧ tl + 64 ≤ 13824) (hn : 16 ≤ n ∧ n ≤ 100) (hg : ∀ i, i < 256 → 0 ≤ h 9 i ∧ h 9 i < 256) (H1 : ∀ h', SetOK (h 3) (h 9) n x tl room → h' 22 1 = rd (h 3) (x + 35) → (∀ i : Nat, (i : Int) < rd (h 3) (x + 35) → h' 23 i = lt (h 3) tl i) → (∀ o, o ≠ 22 → o ≠ 23 → h' o = h o) → P 1 h') (H0 : ∀ h', ¬ SetOK (h 3) (h 9) n x tl room → (∀ o, o ≠ 22 → o ≠ 23 → h' o = h o) → P 0 h') : RunsI G 96 [vR 10, vI x, vI tl, vI room, vI n, vR 22] h P := by
  unfold SetOK HdOK at H1 H0
  have b0 := hb.rd (show 0 ≤ x by omega) (show x < 13824 by omega)
  have b1 := hb.rd (show 0 ≤ x + 1 by omega) (show x + 1 < 13824 by omega)
  have b4 := u2_rng hb (show 0 ≤ x + 4 by omega) (show x + 4 + 1 < 13824 by omega)
  apply q_E_isRight
  refine D_get (by omega) (by omega) ?_
  rw [wI_id (z := rd (h 3) x) (by omega) (by omega)]
  refine ⟨fun c1 => ?_, fun c1 => ⟨Or.inl rfl, H0 h (fun q => c1 q.1.1) (fun _ _ _ => rfl)⟩⟩
  apply q_E_entries
  refine D_get (by omega) (by omega) ?_
  rw [wI_id (z := 1 + rd (h 3) (x + 1)) (by omega) (by omega), wI_id (z := room) (by omega) (by omega)]
  refine ⟨fun c2 => ?_, fun c2 => ⟨Or.inl rfl, H0 h (fun q => c2 q.1.2.1) (fun _ _ _ => rfl)⟩⟩
  apply q_E_attributes
  refine D_u2 hb (by omega) (by omega) ?_
  have ez : wI (bA (u2 (h 3) (x + 4)) (-18)) = 0 ↔ At (u2 (h 3) (x + 4)) := by
    rw [← bA_18 b4.1 b4.2]
    have q : -2147483648 ≤ bA (u2 (h 3) (x + 4)) (-18) ∧ bA (u2 (h 3) (x + 4)) (-18) < 2147483648 := by
      unfold bA
      have := Int32.toInt_lt (Int32.ofInt (u2 (h 3) (x + 4)) &&& Int32.ofInt (-18))
      have := Int32.le_toInt (Int32.ofInt (u2 (h 3) (x + 4)) &&& Int32.ofInt (-18))
      omega
    rw [wI_id q.1 q.2]
  refine ⟨fun c3 => ?_, fun c3 => ⟨Or.inl rfl, H0 h (fun q => c3 (ez.mpr q.1.2.2.1)) (fun _ _ _ => rfl)⟩⟩
  have c3' := ez.mp c3
  refine D_isBlank hb (by omega) (by omega) (by omega) (fun c4 => ⟨fun c => absurd c (by decide), fun _ => ?_⟩) (fun c4 => ⟨fun _ => ⟨Or.inl rfl, H0 h (fun q => c4 q.1.2.2.2.1) (fun _ _ _ => rfl)⟩, fun c => absurd wI_0 c⟩)
  refine D_isBlank hb (by omega) (by omega) (by omega) (fun c5 => ⟨fun c => absurd c (by decide), fun _ => ?_⟩) (fun c5 => ⟨fun _ => ⟨Or.inl rfl, H0 h (fun q => c5 q.1.2.2.2.2) (fun _ _ _ => rfl)⟩, fun c => absurd wI_0 c⟩)
  refine E_isRightStream hb h0 h1 (fun c6 => ⟨fun c => absurd c (by decide), fun _ => ?_⟩) (fun c6 => ⟨fun _ => ⟨Or.inl rfl, H0 h (fun q => c6 q.2.1) (fun _ _ _ => rfl)⟩, fun c => absurd wI_0 c⟩)
  refine E_isRightLength hb h0 h1 hn c3' (fun c7 => ⟨fun c => absurd c (by decide), fun _ => ?_⟩) (fun c7 => ⟨fun _ => ⟨Or.inl rfl, H0 h (fun q => c7 q.2.2.1) (fun _ _ _ => rfl)⟩, fun c => absurd wI_0 c⟩)
  refine E_isRightName hb h0 h1 c2 ht hg (fun h2 c8 a1 a2 fr => ⟨fun c => absurd c (by decide), fun _ => ?_⟩) (fun h2 c8 fr => ⟨fun _ => ⟨Or.inl rfl, H0 h2 (fun q => c8 q.2.2.2.1) fr⟩, fun c => absurd wI_0 c⟩)
  have e3 : h2 3 = h 3 := fr 3 (by decide) (by decide)
  have k1 := c8.2.1
  have k2 := c8.2.2.1.1
  have k3 := c8.1
  have t := ht (by omega)
  refine E_sum (by rw [e3]; exact hb) h0 h1 (by rw [e3]; omega) t.1 t.2 ?_
  refine D_u2 (by rw [e3]; exact hb) (by omega) (by omega) ?_
  rw [e3]
  have r1 := ssum_rng (h 3) x tl (32 * (1 + rd (h 3) (x + 1))).toNat
  have r2 := u2_rng hb (show 0 ≤ x + 2 by omega) (show x + 2 + 1 < 13824 by omega)
  rw [wI_id (z := ssum (h 3) x tl (32 * (1 + rd (h 3) (x + 1))).toNat) (by omega) (by omega), wI_id (z := u2 (h 3) (x + 2)) (by omega) (by omega)]
  exact ⟨fun c9 => ⟨Or.inr rfl, H1 h2 ⟨⟨c1, c2, c3', c4, c5⟩, c6, c7, c8, c9⟩ a1 a2 fr⟩, fun c9 => ⟨Or.inl rfl, H0 h2 (fun q => c9 q.2.2.2.2) fr⟩⟩
end SETS2
