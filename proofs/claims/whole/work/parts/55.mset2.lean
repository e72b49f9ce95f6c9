/-! isNamed, hashOf, setSum, isSet of the reference -/
section MSET2
variable {G : GG} {h : AH} {f : Nat → Int}
theorem M_isNamed {P : Int → AH → Prop} {e m s : Int} (h5 : Sb (h 35)) (hE : E (ub (h 35)) f) (h0 : 0 ≤ e) (h2 : e % 2 = 0) (he : e + m ≤ 408) (hr : ∀ i : Int, 0 ≤ i → i < m → 2 ≤ h 39 ((e + i) / 4).toNat ∧ h 39 ((e + i) / 4).toNat ≤ 101) (hm : h 34 18 = m) (hm3 : m = 3 ∨ m = 4) (hs9 : h 34 19 = s) (hs1 : 1 ≤ s ∧ s ≤ 15 * (m - 2)) (H1 : ∀ h', isNm (lt f (ea (h 39) (e + 2))) s → (∀ i : Int, 0 ≤ i → i < m - 2 → rd f (ea (h 39) (e + 2) + 32 * i) = 193 ∧ rd f (ea (h 39) (e + 2) + 32 * i + 1) = 0) → (∀ i : Nat, s ≤ i → (i : Int) < 15 * (m - 2) → lt f (ea (h 39) (e + 2)) i = 0) → (∀ i : Nat, (i : Int) < s → h' 40 i = lt f (ea (h 39) (e + 2)) i) → (∀ o, o ≠ 40 → h' o = h o) → P 1 h') (H0 : ∀ h', ¬ (isNm (lt f (ea (h 39) (e + 2))) s ∧ (∀ i : Int, 0 ≤ i → i < m - 2 → rd f (ea (h 39) (e + 2) + 32 * i) = 193 ∧ rd f (ea (h 39) (e + 2) + 32 * i + 1) = 0) ∧ (∀ i : Nat, s ≤ i → (i : Int) < 15 * (m - 2) → lt f (ea (h 39) (e + 2)) i = 0)) → (∀ o, o ≠ 40 → h' o = h o) → P 0 h') : RunsI G 207 [vR 34, vI e] h P := by
  have hf : By f := hE.by (ub_By _)
  have q2 := hr 2 (by omega) (by omega)
  have er := ea_64 (r := h 39) (e := e + 2) (by omega) (by omega) q2
  generalize et : ea (h 39) (e + 2) = tl at H1 H0 er
  have e32 : ∀ j : Nat, (j : Int) < 15 * (m - 2) → ea (h 39) (e + 2 + (j : Int) / 15) = tl + 32 * ((j : Int) / 15) := by
    intro j hj
    rcases (show (j : Int) / 15 = 0 ∨ (j : Int) / 15 = 1 by omega) with q | q
    · rw [q, show e + 2 + 0 = e + 2 by omega, et]; omega
    · rw [q, ea_1 (by omega) (by omega), et]; omega
  apply q_M_isNamed
  have key : ∀ (n j : Nat) (g : AH), (j : Int) + n = 15 * (m - 2) → (∀ i : Nat, i < j → rd f (tl + 32 * ((i : Int) / 15)) = 193 ∧ rd f (tl + 32 * ((i : Int) / 15) + 1) = 0) → (∀ i : Nat, s ≤ i → i < j → lt f tl i = 0) → (∀ i : Nat, i < j → (i : Int) < s → g 40 i = lt f tl i) → (∀ o, o ≠ 40 → g o = h o) → Go G (pI P) 207 2 [some (vR 34), some (vI e), some (vI (j : Int)), none, none] [] g := by
    intro n
    induction n with
    | zero =>
      intro j g hn a1 a2 a3 fr
      apply q_M_isNamed_c2
      have e34 : g 34 = h 34 := fr 34 (by decide)
      rw [e34, hm, hs9, wI_id (z := 15 * (m - 2)) (by omega) (by omega), wI_id (z := (j : Int)) (by omega) (by omega)]
      refine ⟨fun _ => ?_, fun c => by omega⟩
      have a3' : ∀ i : Nat, (i : Int) < s → g 40 i = lt f tl i := fun i hi => a3 i (by omega) hi
      refine M_isName_40 (by omega) (fun i hi => ?_) (fun q => ⟨Or.inr rfl, ?_⟩) (fun q => ⟨Or.inl rfl, ?_⟩)
      · rw [a3' i hi]; exact lt_rng hf (by omega) (by omega) (by omega)
      · refine H1 g (isNm_congr a3' q) (fun i hi hi2 => ?_) (fun i hi hi2 => a2 i hi (by omega)) a3' fr
        have := a1 (15 * i).toNat (by omega)
        rw [show (((15 * i).toNat : Nat) : Int) / 15 = i by omega] at this
        exact this
      · exact H0 g (fun z => q (isNm_congr (fun i hi => (a3' i hi).symm) z.1)) fr
    | succ n ih =>
      intro j g hn a1 a2 a3 fr
      have e34 : g 34 = h 34 := fr 34 (by decide)
      have e35 : g 35 = h 35 := fr 35 (by decide)
      have e39 : g 39 = h 39 := fr 39 (by decide)
      have jj : (0 : Int) ≤ (j : Int) / 15 ∧ (j : Int) / 15 < m - 2 := by omega
      have qj := hr (2 + (j : Int) / 15) (by omega) (by omega)
      rw [show e + (2 + (j : Int) / 15) = e + 2 + (j : Int) / 15 by omega] at qj
      have b0 := hf.rd (show 0 ≤ tl + 32 * ((j : Int) / 15) by omega) (show tl + 32 * ((j : Int) / 15) < 13824 by omega)
      have b1 := hf.rd (show 0 ≤ tl + 32 * ((j : Int) / 15) + 1 by omega) (show tl + 32 * ((j : Int) / 15) + 1 < 13824 by omega)
      have s1 := h5 (tl + 32 * ((j : Int) / 15) + 1).toNat (by omega)
      have d1 : h 35 (tl + 32 * ((j : Int) / 15) + 1).toNat % 256 = rd f (tl + 32 * ((j : Int) / 15) + 1) := hE _ (by omega)
      apply q_M_isNamed_c2
      rw [e34, hm, hs9, wI_id (z := 15 * (m - 2)) (by omega) (by omega), wI_id (z := (j : Int)) (by omega) (by omega), tdiv_pos (by omega), tmod_pos (by omega)]
      refine ⟨fun c => by omega, fun _ => ⟨by decide, ?_⟩⟩
      refine M_entryAt (by omega) (by omega) ⟨by decide, ?_⟩
      rw [e39, e32 j (by omega)]
      refine M_typeOf (f := f) (by rw [e35]; exact hE) (by omega) (by omega) (by rw [e39]; exact qj) ?_
      rw [e39, e32 j (by omega), wI_id (z := rd f (tl + 32 * ((j : Int) / 15))) (by omega) (by omega), wI_id (z := tl + 32 * ((j : Int) / 15) + 1) (by omega) (by omega), e35, wI_id (z := h 35 (tl + 32 * ((j : Int) / 15) + 1).toNat) (by omega) (by omega)]
      refine ⟨fun c1 => ⟨⟨by omega, by omega⟩, fun c2 => ⟨by decide, ?_⟩, fun c2 => ⟨Or.inl rfl, H0 g (fun z => ?_) fr⟩⟩, fun c1 => ⟨Or.inl rfl, H0 g (fun z => ?_) fr⟩⟩
      · have ela : tl + 32 * ((j : Int) / 15) + 2 + 2 * ((j : Int) % 15) = la tl (j : Int) := by
          unfold la
          split <;> omega
        rw [ela]
        have lr := la_rng (tl := tl) (i := (j : Int)) (by omega) (by omega)
        refine M_get2 (f := f) (by rw [e35]; exact hE) (by omega) (by omega) ?_
        have ur := u2_rng hf (show 0 ≤ la tl (j : Int) by omega) (show la tl (j : Int) + 1 < 13824 by omega)
        rw [e34, hs9, wI_id (z := s) (by omega) (by omega), wI_id (z := u2 f (la tl (j : Int))) (by omega) (by omega)]
        have a1' : ∀ i : Nat, i < j + 1 → rd f (tl + 32 * ((i : Int) / 15)) = 193 ∧ rd f (tl + 32 * ((i : Int) / 15) + 1) = 0 := fun i hi => by
          by_cases q : i = j
          · rw [q]; exact ⟨c1, by omega⟩
          · exact a1 i (by omega)
        refine ⟨fun c3 => ⟨fun c4 => ?_, fun c4 => ⟨Or.inl rfl, H0 g (fun z => c4 (z.2.2 j c3 (by omega))) fr⟩⟩, fun c3 => ⟨by omega, ?_⟩⟩
        · rw [show (j : Int) + 1 = ((j + 1 : Nat) : Int) by omega]
          refine ih (j + 1) g (by omega) a1' (fun i hi hi2 => ?_) (fun i hi hi2 => a3 i (by omega) hi2) fr
          by_cases q : i = j
          · rw [q]; exact c4
          · exact a2 i hi (by omega)
        · rw [show (j : Int) + 1 = ((j + 1 : Nat) : Int) by omega]
          refine ih (j + 1) _ (by omega) a1' (fun i hi hi2 => by omega) (fun i hi hi2 => ?_) (fun o ho => by rw [hs_o _ _ _ _ _ ho]; exact fr o ho)
          rw [hs_app, if_pos rfl]
          by_cases q : i = (j : Int).toNat
          · rw [if_pos q, q]; rfl
          · rw [if_neg q]; exact a3 i (by omega) hi2
      · have := (z.2.1 ((j : Int) / 15) jj.1 jj.2).2
        omega
      · have := (z.2.1 ((j : Int) / 15) jj.1 jj.2).1
        omega
  exact key (15 * (m - 2)).toNat 0 h (by omega) (fun i hi => by omega) (fun i a b => by omega) (fun i a b => by omega) (fun _ _ => rfl)
theorem M_hashOf_40 {P : Int → AH → Prop} {s : Int} (hn : 0 ≤ s ∧ s ≤ 30) (hv : ∀ i : Nat, (i : Int) < s → 0 ≤ h 40 i ∧ h 40 i < 256) (hg : ∀ i, i < 256 → 0 ≤ h 38 i ∧ h 38 i < 256) (H : P (hsh (h 38) (h 40) s.toNat) h) : RunsI G 203 [vR 34, vR 40, vI s] h P := by
  apply q_M_hashOf_40
  have key : ∀ (m j : Nat), (j : Int) + m = s → Go G (pI P) 203 5 [some (vR 34), some (vR 40), some (vI s), some (vL (hsh (h 38) (h 40) j)), none, some (vI (j : Int)), none] [] h := by
    intro m
    induction m with
    | zero =>
      intro j hm
      apply q_M_hashOf_40_c5
      rw [wI_id (z := (j : Int)) (by omega) (by omega), wI_id (z := s) (by omega) (by omega)]
      refine ⟨fun _ => ?_, fun c => by omega⟩
      rw [show s.toNat = j by omega] at H
      exact H
    | succ m ih =>
      intro j hm
      apply q_M_hashOf_40_c5
      rw [wI_id (z := (j : Int)) (by omega) (by omega), wI_id (z := s) (by omega) (by omega)]
      refine ⟨fun c => by omega, fun _ => ?_⟩
      rw [show (j : Int).toNat = j by omega]
      have v := hv j (by omega)
      have g := hg (h 40 j).toNat (by omega)
      have r := hsh_rng (h 38) (h 40) j
      rw [wI_id (z := h 40 j) (by omega) (by omega)]
      refine ⟨⟨by omega, by omega⟩, ⟨by omega, by omega⟩, ?_⟩
      rw [bA_255]
      have e : sRI (h 38 (h 40 j).toNat) 8 = h 38 (h 40 j).toNat / 256 := by
        show wI (h 38 (h 40 j).toNat) / 256 = _
        rw [wI_id (by omega) (by omega)]
      rw [e]
      refine M_roll2 r (by omega) (M_roll2 (rl2_rng _ _) (by omega) ?_)
      have nx := ih (j + 1) (by omega)
      rw [hsh, show ((j + 1 : Nat) : Int) = (j : Int) + 1 by omega] at nx
      exact nx
  exact key s.toNat 0 (by omega)
theorem M_hashOf_52 {P : Int → AH → Prop} {s : Int} (hn : 0 ≤ s ∧ s ≤ 30) (hv : ∀ i : Nat, (i : Int) < s → 0 ≤ h 52 i ∧ h 52 i < 256) (hg : ∀ i, i < 256 → 0 ≤ h 38 i ∧ h 38 i < 256) (H : P (hsh (h 38) (h 52) s.toNat) h) : RunsI G 203 [vR 34, vR 52, vI s] h P := by
  apply q_M_hashOf_52
  have key : ∀ (m j : Nat), (j : Int) + m = s → Go G (pI P) 203 5 [some (vR 34), some (vR 52), some (vI s), some (vL (hsh (h 38) (h 52) j)), none, some (vI (j : Int)), none] [] h := by
    intro m
    induction m with
    | zero =>
      intro j hm
      apply q_M_hashOf_52_c5
      rw [wI_id (z := (j : Int)) (by omega) (by omega), wI_id (z := s) (by omega) (by omega)]
      refine ⟨fun _ => ?_, fun c => by omega⟩
      rw [show s.toNat = j by omega] at H
      exact H
    | succ m ih =>
      intro j hm
      apply q_M_hashOf_52_c5
      rw [wI_id (z := (j : Int)) (by omega) (by omega), wI_id (z := s) (by omega) (by omega)]
      refine ⟨fun c => by omega, fun _ => ?_⟩
      rw [show (j : Int).toNat = j by omega]
      have v := hv j (by omega)
      have g := hg (h 52 j).toNat (by omega)
      have r := hsh_rng (h 38) (h 52) j
      rw [wI_id (z := h 52 j) (by omega) (by omega)]
      refine ⟨⟨by omega, by omega⟩, ⟨by omega, by omega⟩, ?_⟩
      rw [bA_255]
      have e : sRI (h 38 (h 52 j).toNat) 8 = h 38 (h 52 j).toNat / 256 := by
        show wI (h 38 (h 52 j).toNat) / 256 = _
        rw [wI_id (by omega) (by omega)]
      rw [e]
      refine M_roll2 r (by omega) (M_roll2 (rl2_rng _ _) (by omega) ?_)
      have nx := ih (j + 1) (by omega)
      rw [hsh, show ((j + 1 : Nat) : Int) = (j : Int) + 1 by omega] at nx
      exact nx
  exact key s.toNat 0 (by omega)
theorem M_setSum_35 {P : Int → AH → Prop} {e : Int} {m : Nat} (hE : E (ub (h 35)) f) (h0 : 0 ≤ e) (h2 : e % 2 = 0) (he : e + m ≤ 408) (hr : ∀ i : Int, 0 ≤ i → i < m → 2 ≤ h 39 ((e + i) / 4).toNat ∧ h 39 ((e + i) / 4).toNat ≤ 101) (hm3 : m ≤ 4) (H : P (ssum f (ea (h 39) e) (ea (h 39) (e + 2)) (32 * m)) h) : RunsI G 204 [vR 34, vR 35, vI e, vI (m : Int)] h P := by
  have hf : By f := hE.by (ub_By _)
  apply q_M_setSum_35
  have ej : ∀ k : Nat, k < m → ∀ i : Nat, i < 32 → ea (h 39) (e + k) + i = if 32 * k + i < 64 then ea (h 39) e + ((32 * k + i : Nat) : Int) else ea (h 39) (e + 2) + (((32 * k + i : Nat) : Int) - 64) := by
    intro k hk i hi
    rcases (show k = 0 ∨ k = 1 ∨ k = 2 ∨ k = 3 by omega) with rfl | rfl | rfl | rfl
    · rw [if_pos (by omega), show e + ((0 : Nat) : Int) = e by omega]; omega
    · rw [if_pos (by omega), show e + ((1 : Nat) : Int) = e + 1 by omega, ea_1 h0 h2]; omega
    · rw [if_neg (by omega), show e + ((2 : Nat) : Int) = e + 2 by omega]; omega
    · rw [if_neg (by omega), show e + ((3 : Nat) : Int) = e + 2 + 1 by omega, ea_1 (by omega) (by omega)]; omega
  have key : ∀ (n k : Nat), k + n = m → Go G (pI P) 204 6 [some (vR 34), some (vR 35), some (vI e), some (vI (m : Int)), some (vL (ssum f (ea (h 39) e) (ea (h 39) (e + 2)) (32 * k))), none, some (vI (k : Int)), none] [] h := by
    intro n
    induction n with
    | zero =>
      intro k hk
      apply q_M_setSum_35_c6
      rw [wI_id (z := (k : Int)) (by omega) (by omega), wI_id (z := (m : Int)) (by omega) (by omega)]
      refine ⟨fun _ => ?_, fun c => by omega⟩
      rw [show k = m by omega]
      exact H
    | succ n ih =>
      intro k hk
      apply q_M_setSum_35_c6
      rw [wI_id (z := (k : Int)) (by omega) (by omega), wI_id (z := (m : Int)) (by omega) (by omega)]
      refine ⟨fun c => by omega, fun _ => ?_⟩
      have inn : ∀ (n2 i : Nat), i + n2 = 32 → Go G (pI P) 204 15 [some (vR 34), some (vR 35), some (vI e), some (vI (m : Int)), some (vL (ssum f (ea (h 39) e) (ea (h 39) (e + 2)) (32 * k + i))), none, some (vI (k : Int)), some (vI (i : Int))] [] h := by
        intro n2
        induction n2 with
        | zero =>
          intro i hi
          apply q_M_setSum_35_c15
          rw [wI_id (z := (i : Int)) (by omega) (by omega)]
          refine ⟨fun _ => ?_, fun c => by omega⟩
          have nx := ih (k + 1) (by omega)
          rw [show 32 * (k + 1) = 32 * k + i by omega, show ((k + 1 : Nat) : Int) = (k : Int) + 1 by omega] at nx
          exact nx
        | succ n2 ih2 =>
          intro i hi
          have nx := ih2 (i + 1) (by omega)
          rw [show 32 * k + (i + 1) = 32 * k + i + 1 by omega, ssum, show ((i + 1 : Nat) : Int) = (i : Int) + 1 by omega] at nx
          have qk := hr (k : Int) (by omega) (by omega)
          have er := ea_rng (r := h 39) (e := e + (k : Int)) (by omega) qk
          have b := hf.rd (show 0 ≤ ea (h 39) (e + k) + i by omega) (show ea (h 39) (e + k) + (i : Int) < 13824 by omega)
          have g39 : ¬ (32 * k + i = 2 ∨ 32 * k + i = 3) → Go G (pI P) 204 39 [some (vR 34), some (vR 35), some (vI e), some (vI (m : Int)), some (vL (ssum f (ea (h 39) e) (ea (h 39) (e + 2)) (32 * k + i))), none, some (vI (k : Int)), some (vI (i : Int))] [] h := by
            intro c
            rw [if_neg c] at nx
            apply q_M_setSum_35_c39
            refine M_entryAt (by omega) (by omega) ?_
            rw [wI_id (z := ea (h 39) (e + k) + i) (by omega) (by omega)]
            refine ⟨⟨by omega, by omega⟩, ?_⟩
            have eo : bA (h 35 (ea (h 39) (e + k) + i).toNat) 255 = rd f (ea (h 39) (e + k) + i) := by
              rw [bA_255]; exact hE _ (by omega)
            rw [eo]
            refine M_roll2 (ssum_rng _ _ _ _) (by omega) ?_
            have e2 : rd f (ea (h 39) (e + k) + i) = so f (ea (h 39) e) (ea (h 39) (e + 2)) (32 * k + i) := by
              unfold so
              rw [ej k (by omega) i (by omega)]
              split <;> rfl
            rw [e2]
            exact nx
          apply q_M_setSum_35_c15
          rw [wI_id (z := (i : Int)) (by omega) (by omega), wI_id (z := (k : Int)) (by omega) (by omega)]
          refine ⟨fun c => by omega, fun _ => ⟨fun c => g39 (by omega), fun c => ⟨fun c2 => ?_, fun c2 => ⟨fun c3 => ?_, fun c3 => g39 (by omega)⟩⟩⟩⟩
          · rw [if_pos (by omega)] at nx; exact nx
          · rw [if_pos (by omega)] at nx; exact nx
      have i0 := inn 32 0 rfl
      exact i0
  exact key m 0 (by omega)
theorem M_setSum_36 {P : Int → AH → Prop} {e : Int} {m : Nat} (hE : E (ub (h 36)) f) (h0 : 0 ≤ e) (h2 : e % 2 = 0) (he : e + m ≤ 408) (hr : ∀ i : Int, 0 ≤ i → i < m → 2 ≤ h 39 ((e + i) / 4).toNat ∧ h 39 ((e + i) / 4).toNat ≤ 101) (hm3 : m ≤ 4) (H : P (ssum f (ea (h 39) e) (ea (h 39) (e + 2)) (32 * m)) h) : RunsI G 204 [vR 34, vR 36, vI e, vI (m : Int)] h P := by
  have hf : By f := hE.by (ub_By _)
  apply q_M_setSum_36
  have ej : ∀ k : Nat, k < m → ∀ i : Nat, i < 32 → ea (h 39) (e + k) + i = if 32 * k + i < 64 then ea (h 39) e + ((32 * k + i : Nat) : Int) else ea (h 39) (e + 2) + (((32 * k + i : Nat) : Int) - 64) := by
    intro k hk i hi
    rcases (show k = 0 ∨ k = 1 ∨ k = 2 ∨ k = 3 by omega) with rfl | rfl | rfl | rfl
    · rw [if_pos (by omega), show e + ((0 : Nat) : Int) = e by omega]; omega
    · rw [if_pos (by omega), show e + ((1 : Nat) : Int) = e + 1 by omega, ea_1 h0 h2]; omega
    · rw [if_neg (by omega), show e + ((2 : Nat) : Int) = e + 2 by omega]; omega
    · rw [if_neg (by omega), show e + ((3 : Nat) : Int) = e + 2 + 1 by omega, ea_1 (by omega) (by omega)]; omega
  have key : ∀ (n k : Nat), k + n = m → Go G (pI P) 204 6 [some (vR 34), some (vR 36), some (vI e), some (vI (m : Int)), some (vL (ssum f (ea (h 39) e) (ea (h 39) (e + 2)) (32 * k))), none, some (vI (k : Int)), none] [] h := by
    intro n
    induction n with
    | zero =>
      intro k hk
      apply q_M_setSum_36_c6
      rw [wI_id (z := (k : Int)) (by omega) (by omega), wI_id (z := (m : Int)) (by omega) (by omega)]
      refine ⟨fun _ => ?_, fun c => by omega⟩
      rw [show k = m by omega]
      exact H
    | succ n ih =>
      intro k hk
      apply q_M_setSum_36_c6
      rw [wI_id (z := (k : Int)) (by omega) (by omega), wI_id (z := (m : Int)) (by omega) (by omega)]
      refine ⟨fun c => by omega, fun _ => ?_⟩
      have inn : ∀ (n2 i : Nat), i + n2 = 32 → Go G (pI P) 204 15 [some (vR 34), some (vR 36), some (vI e), some (vI (m : Int)), some (vL (ssum f (ea (h 39) e) (ea (h 39) (e + 2)) (32 * k + i))), none, some (vI (k : Int)), some (vI (i : Int))] [] h := by
        intro n2
        induction n2 with
        | zero =>
          intro i hi
          apply q_M_setSum_36_c15
          rw [wI_id (z := (i : Int)) (by omega) (by omega)]
          refine ⟨fun _ => ?_, fun c => by omega⟩
          have nx := ih (k + 1) (by omega)
          rw [show 32 * (k + 1) = 32 * k + i by omega, show ((k + 1 : Nat) : Int) = (k : Int) + 1 by omega] at nx
          exact nx
        | succ n2 ih2 =>
          intro i hi
          have nx := ih2 (i + 1) (by omega)
          rw [show 32 * k + (i + 1) = 32 * k + i + 1 by omega, ssum, show ((i + 1 : Nat) : Int) = (i : Int) + 1 by omega] at nx
          have qk := hr (k : Int) (by omega) (by omega)
          have er := ea_rng (r := h 39) (e := e + (k : Int)) (by omega) qk
          have b := hf.rd (show 0 ≤ ea (h 39) (e + k) + i by omega) (show ea (h 39) (e + k) + (i : Int) < 13824 by omega)
          have g39 : ¬ (32 * k + i = 2 ∨ 32 * k + i = 3) → Go G (pI P) 204 39 [some (vR 34), some (vR 36), some (vI e), some (vI (m : Int)), some (vL (ssum f (ea (h 39) e) (ea (h 39) (e + 2)) (32 * k + i))), none, some (vI (k : Int)), some (vI (i : Int))] [] h := by
            intro c
            rw [if_neg c] at nx
            apply q_M_setSum_36_c39
            refine M_entryAt (by omega) (by omega) ?_
            rw [wI_id (z := ea (h 39) (e + k) + i) (by omega) (by omega)]
            refine ⟨⟨by omega, by omega⟩, ?_⟩
            have eo : bA (h 36 (ea (h 39) (e + k) + i).toNat) 255 = rd f (ea (h 39) (e + k) + i) := by
              rw [bA_255]; exact hE _ (by omega)
            rw [eo]
            refine M_roll2 (ssum_rng _ _ _ _) (by omega) ?_
            have e2 : rd f (ea (h 39) (e + k) + i) = so f (ea (h 39) e) (ea (h 39) (e + 2)) (32 * k + i) := by
              unfold so
              rw [ej k (by omega) i (by omega)]
              split <;> rfl
            rw [e2]
            exact nx
          apply q_M_setSum_36_c15
          rw [wI_id (z := (i : Int)) (by omega) (by omega), wI_id (z := (k : Int)) (by omega) (by omega)]
          refine ⟨fun c => by omega, fun _ => ⟨fun c => g39 (by omega), fun c => ⟨fun c2 => ?_, fun c2 => ⟨fun c3 => ?_, fun c3 => g39 (by omega)⟩⟩⟩⟩
          · rw [if_pos (by omega)] at nx; exact nx
          · rw [if_pos (by omega)] at nx; exact nx
      have i0 := inn 32 0 rfl
      exact i0
  exact key m 0 (by omega)
theorem M_isSet {P : Int → AH → Prop} {e : Int} (h5 : Sb (h 35)) (hE : E (ub (h 35)) f) (hn : 16 ≤ h 34 0 ∧ h 34 0 ≤ 100) (h0 : 0 ≤ e) (hk : h 34 17 ≤ 102) (he : e < 4 * h 34 17) (hr : ∀ i : Nat, (i : Int) < h 34 17 → 2 ≤ h 39 i ∧ h 39 i ≤ 101) (hg : ∀ i, i < 256 → 0 ≤ h 38 i ∧ h 38 i < 256)
    (H1 : ∀ h', e % 2 = 0 → SetOK f (h 38) (h 34 0) (ea (h 39) e) (ea (h 39) (e + 2)) (4 * h 34 17 - e) → Rs h' f (ea (h 39) e) (ea (h 39) (e + 2)) → FZ h h' → P 1 h')
    (H0 : ∀ h', ¬ (e % 2 = 0 ∧ SetOK f (h 38) (h 34 0) (ea (h 39) e) (ea (h 39) (e + 2)) (4 * h 34 17 - e)) → FZ h h' → P 0 h') : RunsI G 205 [vR 34, vI e] h P := by
  have hf : By f := hE.by (ub_By _)
  have hr' : ∀ i : Int, 0 ≤ i → i < 4 * h 34 17 → 2 ≤ h 39 (i / 4).toNat ∧ h 39 (i / 4).toNat ≤ 101 := fun i a b => hr (i / 4).toNat (by omega)
  have qe := hr' e h0 he
  have er := ea_rng h0 qe
  apply q_M_isSet
  refine M_entryAt h0 (by omega) ?_
  have eD : ea (h 39) e = ea (h 39) e := rfl
  generalize ed : ea (h 39) e = hd at er H1 H0
  generalize et : ea (h 39) (e + 2) = tl at H1 H0
  have b1 := hf.rd (show 0 ≤ hd + 1 by omega) (show hd + 1 < 13824 by omega)
  have b0 := hf.rd (show 0 ≤ hd by omega) (show hd < 13824 by omega)
  rw [wI_id (z := hd + 1) (by omega) (by omega), wI_id (z := e) (by omega) (by omega), tmod_pos h0, wI_id (z := e % 2) (by omega) (by omega), oct hE (by omega) (by omega)]
  refine ⟨⟨by omega, by omega⟩, by decide, fun c => ⟨Or.inl rfl, H0 h (fun q => by omega) (FZ.rf h)⟩, fun ce => ?_⟩
  have ce' : e % 2 = 0 := by omega
  have r64 := ea_64 h0 ce' qe
  rw [ed] at r64
  have no : ∀ h', ¬ SetOK f (h 38) (h 34 0) hd tl (4 * h 34 17 - e) → FZ h h' → P 0 h' := fun h' q fr => H0 h' (fun z => q z.2) fr
  refine M_typeOf (f := f) hE h0 (by omega) qe ?_
  rw [ed, wI_id (z := rd f hd) (by omega) (by omega)]
  refine ⟨fun c1 => ?_, fun c1 => ⟨Or.inl rfl, no h (fun q => c1 q.1.1) (FZ.rf h)⟩⟩
  rw [wI_id (z := rd f (hd + 1)) (by omega) (by omega)]
  refine M_in (by omega) (by omega) (by omega) (fun c2 c3 => ⟨fun c => absurd c (by decide), fun _ => ?_⟩) (fun c2 => ⟨fun _ => ⟨Or.inl rfl, no h (fun q => c2 ?_) (FZ.rf h)⟩, fun c => absurd wI_0 c⟩)
  · apply q_M_entries
    rw [wI_id (z := 4 * h 34 17) (by omega) (by omega), wI_id (z := e + rd f (hd + 1)) (by omega) (by omega)]
    refine ⟨fun c => ⟨Or.inl rfl, no h (fun q => by have := q.1.2.1; omega) (FZ.rf h)⟩, fun c4 => ?_⟩
    have e1 : ea (h 39) (e + 1) = hd + 32 := by rw [ea_1 h0 ce', ed]
    have q1 := hr' (e + 1) (by omega) (by omega)
    have b32 := hf.rd (show 0 ≤ hd + 32 by omega) (show hd + 32 < 13824 by omega)
    refine M_typeOf (f := f) hE (by omega) (by omega) q1 ?_
    rw [e1, wI_id (z := rd f (hd + 32)) (by omega) (by omega)]
    refine ⟨fun c5 => ?_, fun c5 => ⟨Or.inl rfl, no h (fun q => c5 q.2.1.1) (FZ.rf h)⟩⟩
    refine M_get2 (f := f) (by rw [hs_o _ _ _ _ _ (by decide)]; exact hE) (by omega) (by omega) ?_
    rw [hs_same, wI_bA]
    generalize eg : hs (hs h 34 18 (rd f (hd + 1) + 1)) 34 24 (u2 f (hd + 4)) = g
    have fg : FZ h g := by rw [← eg]; exact ((FZ.rf h).set 18 _ (Or.inl rfl)).set 24 _ (by decide)
    have g18 : g 34 18 = 1 + rd f (hd + 1) := by rw [← eg, hs_k _ _ _ _ _ (by decide), hs_same]; omega
    have g24 : g 34 24 = u2 f (hd + 4) := by rw [← eg, hs_same]
    have g35 : g 35 = h 35 := fg.2 35 (by decide) (by decide)
    have g39 : g 39 = h 39 := fg.2 39 (by decide) (by decide)
    have g38 : g 38 = h 38 := fg.2 38 (by decide) (by decide)
    have g0 : g 34 0 = h 34 0 := fg.1 0 (by decide) (by decide) (by decide) (by decide) (by decide) (by decide)
    clear eg
    have b4 := u2_rng hf (show 0 ≤ hd + 4 by omega) (show hd + 4 + 1 < 13824 by omega)
    rw [bA_18 b4.1 b4.2]
    refine ⟨fun c6 => ?_, fun c6 => ⟨Or.inl rfl, no g (fun q => c6 q.1.2.2.1) fg⟩⟩
    have h5g : Sb (g 35) := by rw [g35]; exact h5
    have hEg : E (ub (g 35)) f := by rw [g35]; exact hE
    refine M_isZero h5g hEg (by omega) (by omega) (by omega) (fun c7 => ⟨fun c => absurd c (by decide), fun _ => ?_⟩) (fun c7 => ⟨fun _ => ⟨Or.inl rfl, no g (fun q => c7 q.1.2.2.2.1) fg⟩, fun c => absurd wI_0 c⟩)
    refine M_isZero h5g hEg (by omega) (by omega) (by omega) (fun c8 => ⟨fun c => absurd c (by decide), fun _ => ?_⟩) (fun c8 => ⟨fun _ => ⟨Or.inl rfl, no g (fun q => c8 q.1.2.2.2.2) fg⟩, fun c => absurd wI_0 c⟩)
    refine M_entryAt (by omega) (by omega) ?_
    rw [g39, e1]
    refine M_isStream h5g hEg (by omega) (by omega) (by rw [g0]; exact hn) g18 g24 c6 (fun r h2 cr fr1 fr2 => ?_)
    rw [g0] at cr
    have f2 : FZ h h2 := fg.tr ⟨fun k p q r s t u => fr1 k q r s t, fun o p q => fr2 o p⟩
    rcases cr with ⟨rfl, k1, k2, k3, k4, k5, k6, k7⟩ | ⟨rfl, k1⟩
    · refine ⟨fun c => absurd c (by decide), fun _ => ?_⟩
      have e35 : h2 35 = h 35 := f2.2 35 (by decide) (by decide)
      have e39 : h2 39 = h 39 := f2.2 39 (by decide) (by decide)
      have e38 : h2 38 = h 38 := f2.2 38 (by decide) (by decide)
      have e18 : h2 34 18 = 1 + rd f (hd + 1) := by rw [fr1 18 (by decide) (by decide) (by decide) (by decide)]; exact g18
      have e24 : h2 34 24 = u2 f (hd + 4) := by rw [fr1 24 (by decide) (by decide) (by decide) (by decide)]; exact g24
      have k3' := id k3
      unfold NS at k3'
      have et2 : ea (h2 39) (e + 2) = tl := by rw [e39, et]
      have tr := ea_64 (r := h 39) (e := e + 2) (by omega) (by omega) (hr' (e + 2) (by omega) (by omega))
      rw [et] at tr
      have hE2 : E (ub (h2 35)) f := by rw [e35]; exact hE
      have hrm : ∀ i : Int, 0 ≤ i → i < 1 + rd f (hd + 1) → 2 ≤ h2 39 ((e + i) / 4).toNat ∧ h2 39 ((e + i) / 4).toNat ≤ 101 := fun i a b => by rw [e39]; exact hr' (e + i) (by omega) (by omega)
      refine M_isNamed (f := f) (m := 1 + rd f (hd + 1)) (s := rd f (hd + 35)) (by rw [e35]; exact h5) hE2 h0 ce' (by omega) hrm e18 (by omega) k4 (by omega) (fun h3 n1 n2 n3 n4 fr3 => ?_) (fun h3 nn fr3 => ?_)
      · rw [et2] at n1 n2 n3 n4
        refine ⟨fun c => absurd c (by decide), fun _ => ?_⟩
        have f3 : FZ h h3 := f2.tr ⟨fun k p q r s t u => by rw [fr3 34 (by decide)], fun o p q => fr3 o q⟩
        have e35' : h3 35 = h 35 := f3.2 35 (by decide) (by decide)
        have e39' : h3 39 = h 39 := f3.2 39 (by decide) (by decide)
        have e38' : h3 38 = h 38 := f3.2 38 (by decide) (by decide)
        have e34' : h3 34 = h2 34 := fr3 34 (by decide)
        have hE3 : E (ub (h3 35)) f := by rw [e35']; exact hE
        refine M_get2 hE3 (by omega) (by omega) ?_
        rw [e34', e18]
        have sm : RunsI G 204 [vR 34, vR 35, vI e, vI (((1 + rd f (hd + 1)).toNat : Nat) : Int)] h3 (fun r13 h13 => (wL (u2 f (hd + 2)) = wL (wI r13) → RunsI G 197 [vR 34, vI (e + 1)] h13 (fun r14 h14 => RunsL G 167 [vR 35, vI (r14 + 4), vI 2] h14 (fun r15 h15 => RunsI G 203 [vR 34, vR 40, vI (h15 34 19)] h15 (fun r16 h16 => ((wL r15 = wL (wI r16) → (((1 : Int) = 0 ∨ (1 : Int) = 1) ∧ P 1 h16)) ∧ (¬ wL r15 = wL (wI r16) → (((0 : Int) = 0 ∨ (0 : Int) = 1) ∧ P 0 h16))))))) ∧ (¬ wL (u2 f (hd + 2)) = wL (wI r13) → (((0 : Int) = 0 ∨ (0 : Int) = 1) ∧ P 0 h13))) := by
          refine M_setSum_35 hE3 h0 ce' (by omega) (fun i a b => by rw [e39']; exact hr' (e + i) (by omega) (by omega)) (by omega) ?_
          rw [e39', ed, et]
          have sr := ssum_rng f hd tl (32 * (1 + rd f (hd + 1)).toNat)
          have ur := u2_rng hf (show 0 ≤ hd + 2 by omega) (show hd + 2 + 1 < 13824 by omega)
          rw [wL_id (z := u2 f (hd + 2)) (by omega) (by omega), wI_id (z := ssum f hd tl (32 * (1 + rd f (hd + 1)).toNat)) (by omega) (by omega), wL_id (z := ssum f hd tl (32 * (1 + rd f (hd + 1)).toNat)) (by omega) (by omega)]
          have esm : 32 * (1 + rd f (hd + 1)).toNat = (32 * (1 + rd f (hd + 1))).toNat := by omega
          rw [esm]
          refine ⟨fun c9 => ?_, fun c9 => ⟨Or.inl rfl, no h3 (fun q => c9 q.2.2.2.2.symm) f3⟩⟩
          refine M_entryAt (by omega) (by omega) ?_
          rw [e39', e1]
          refine M_get2 hE3 (by omega) (by omega) ?_
          rw [e34', k4]
          have ltr : ∀ i : Nat, (i : Int) < rd f (hd + 35) → 0 ≤ h3 40 i ∧ h3 40 i < 256 := fun i hi => by
            rw [n4 i hi]
            have := isLet_rng (n1.2.2.1 i hi)
            omega
          refine M_hashOf_40 (by omega) ltr (by rw [e38']; exact hg) ?_
          rw [e38']
          have eh : hsh (h 38) (h3 40) (rd f (hd + 35)).toNat = hsh (h 38) (lt f tl) (rd f (hd + 35)).toNat := hsh_congr (fun i hi => ⟨n4 i (by omega), ltr i (by omega)⟩) (fun _ _ => rfl)
          rw [eh]
          have hr1 := hsh_rng (h 38) (lt f tl) (rd f (hd + 35)).toNat
          have ur2 := u2_rng hf (show 0 ≤ hd + 32 + 4 by omega) (show hd + 32 + 4 + 1 < 13824 by omega)
          rw [wL_id (z := u2 f (hd + 32 + 4)) (by omega) (by omega), wI_id (z := hsh (h 38) (lt f tl) (rd f (hd + 35)).toNat) (by omega) (by omega), wL_id (z := hsh (h 38) (lt f tl) (rd f (hd + 35)).toNat) (by omega) (by omega), show hd + 32 + 4 = hd + 36 by omega]
          refine ⟨fun c10 => ⟨Or.inr rfl, H1 h3 ce' ⟨⟨c1, by omega, c6, c7, c8⟩, ⟨c5, k1⟩, k2, ⟨k3'.2.1, k3'.2.2, n1, c10.symm, fun i a b => n2 i a (by omega), fun i a b => n3 i a (by omega)⟩, c9.symm⟩ ⟨by rw [e34']; exact e18, by rw [e34']; exact k4, by rw [e34']; exact k5, by rw [e34']; exact k6, by rw [e34']; exact k7, by rw [e34']; exact e24, n4⟩ f3⟩, fun c10 => ⟨Or.inl rfl, no h3 (fun q => c10 q.2.2.2.1.2.2.2.1.symm) f3⟩⟩
        rw [show (((1 + rd f (hd + 1)).toNat : Nat) : Int) = 1 + rd f (hd + 1) by omega] at sm
        exact sm
      · rw [et2] at nn
        have f3 : FZ h h3 := f2.tr ⟨fun k p q r s t u => by rw [fr3 34 (by decide)], fun o p q => fr3 o q⟩
        refine ⟨fun _ => ⟨Or.inl rfl, no h3 (fun q => nn ⟨q.2.2.2.1.2.2.1, fun i a b => q.2.2.2.1.2.2.2.2.1 i a (by omega), fun i a b => q.2.2.2.1.2.2.2.2.2 i a (by omega)⟩) f3⟩, fun c => absurd wI_0 c⟩
    · refine ⟨fun _ => ⟨Or.inl rfl, no h2 (fun q => k1 ⟨q.2.1.2, q.2.2.1, ⟨q.2.2.2.1.2.2.1.1, q.2.2.2.1.1, q.2.2.2.1.2.1⟩⟩) f2⟩, fun c => absurd wI_0 c⟩
  · have s1 := q.2.2.2.1.2.2.1.1
    have s2 := q.2.2.2.1.1
    have s3 := q.2.2.2.1.2.1
    omega
end MSET2
