/-! letters and names -/
def isLet (v : Int) : Prop := (32 ≤ v ∧ v ≤ 126 ∧ v ≠ 34 ∧ v ≠ 42 ∧ v ≠ 47 ∧ v ≠ 58 ∧ v ≠ 60 ∧ v ≠ 62 ∧ v ≠ 63 ∧ v ≠ 92 ∧ v ≠ 124) ∨ (160 ≤ v ∧ v ≤ 255)
/-- n letters of f are a NAME -/
def isNm (f : Nat → Int) (n : Int) : Prop := 1 ≤ n ∧ n ≤ 30 ∧ (∀ k : Nat, (k : Int) < n → isLet (f k)) ∧ f (n - 1).toNat ≠ 32 ∧ f (n - 1).toNat ≠ 46
theorem isNm_congr {f g : Nat → Int} {n : Int} (h : ∀ k : Nat, (k : Int) < n → f k = g k) (hf : isNm f n) : isNm g n := by
  obtain ⟨a, b, c, d, e⟩ := hf
  have hk := h (n - 1).toNat (by omega)
  exact ⟨a, b, fun k q => by rw [← h k q]; exact c k q, by rw [← hk]; exact d, by rw [← hk]; exact e⟩
section NAMES
variable {G : GG} {h : AH}
theorem N_isLetter {P : Int → AH → Prop} {x : Int} (hx : 0 ≤ x ∧ x < 65536) (H1 : isLet x → P 1 h) (H0 : ¬ isLet x → P 0 h) : RunsI G 78 [vI x] h P := by
  apply q_N_isLetter
  rw [wI_id (z := x) (by omega) (by omega)]
  have n0 : ∀ {q : Prop}, (q → ¬ isLet x) → q → (((0 : Int) = 0 ∨ (0 : Int) = 1) ∧ P 0 h) := fun f c => ⟨Or.inl rfl, H0 (f c)⟩
  have y1 : isLet x → (((1 : Int) = 0 ∨ (1 : Int) = 1) ∧ P 1 h) := fun c => ⟨Or.inr rfl, H1 c⟩
  refine ⟨n0 (fun c z => by unfold isLet at z; omega), fun a1 => ⟨n0 (fun c z => by unfold isLet at z; omega), fun a2 => ⟨n0 (fun c z => by unfold isLet at z; omega), fun a3 => ⟨n0 (fun c z => by unfold isLet at z; omega), fun a4 => ⟨n0 (fun c z => by unfold isLet at z; omega), fun a5 => ⟨n0 (fun c z => by unfold isLet at z; omega), fun a6 => ⟨n0 (fun c z => by unfold isLet at z; omega), fun a7 => ⟨n0 (fun c z => by unfold isLet at z; omega), fun a8 => ⟨n0 (fun c z => by unfold isLet at z; omega), fun a9 => ⟨fun b1 => ⟨n0 (fun c z => by unfold isLet at z; omega), fun b2 => ⟨n0 (fun c z => by unfold isLet at z; omega), fun b3 => y1 (by unfold isLet; omega)⟩⟩, fun b1 => ⟨fun b2 => y1 (by unfold isLet; omega), fun b2 => ⟨n0 (fun c z => by unfold isLet at z; omega), fun b3 => ⟨n0 (fun c z => by unfold isLet at z; omega), fun b4 => y1 (by unfold isLet; omega)⟩⟩⟩⟩⟩⟩⟩⟩⟩⟩⟩⟩⟩
theorem M_isLetter {P : Int → AH → Prop} {x : Int} (hx : 0 ≤ x ∧ x < 65536) (H1 : isLet x → P 1 h) (H0 : ¬ isLet x → P 0 h) : RunsI G 201 [vI x] h P := by
  apply q_M_isLetter
  rw [wI_id (z := x) (by omega) (by omega)]
  have fin : ∀ (s0 : Int), (s0 = 0 ∧ (32 ≤ x ∧ x ≤ 126 → isLet x) ∨ s0 = 1 ∧ (isLet x → 160 ≤ x)) → Go G (pI P) 201 59 [some (vI x), none] [vI s0] h := by
    intro s0 hs0
    apply q_M_isLetter_c59
    rw [wI_id (z := x) (by omega) (by omega), wI_id (z := s0) (by omega) (by omega)]
    have hi : ∀ (H0' : ¬ (160 ≤ x ∧ x ≤ 255) → ¬ isLet x), RunsI G 166 [vL x, vL 160, vL 255] h (fun r2 h2 => ((wI r2 = 0 → (((0 : Int) = 0 ∨ (0 : Int) = 1) ∧ P 0 h2)) ∧ (¬ wI r2 = 0 → (((1 : Int) = 0 ∨ (1 : Int) = 1) ∧ P 1 h2)))) := by
      intro H0'
      refine M_in (by omega) (by omega) (by omega) (fun a1 a2 => ⟨fun c => absurd c (by decide), fun _ => ⟨Or.inr rfl, H1 (Or.inr ⟨a1, a2⟩)⟩⟩) (fun a => ⟨fun _ => ⟨Or.inl rfl, H0 (H0' a)⟩, fun c => absurd (by decide) c⟩)
    refine M_in (by omega) (by omega) (by omega) (fun a1 a2 => ⟨fun c => absurd c (by decide), fun _ => ⟨fun c => ⟨Or.inr rfl, H1 ?_⟩, fun c => hi (fun n z => ?_)⟩⟩) (fun a => ⟨fun _ => hi (fun n z => ?_), fun c => absurd (by decide) c⟩)
    · rcases hs0 with ⟨_, q⟩ | ⟨q, _⟩
      · exact q ⟨a1, a2⟩
      · omega
    · rcases hs0 with ⟨q, _⟩ | ⟨_, q⟩
      · omega
      · have := q z; omega
    · unfold isLet at z; omega
  have b1 : ∀ {q : Prop}, (q → x ≤ 126 ∧ ¬ isLet x) → q → Go G (pI P) 201 59 [some (vI x), none] [vI 1] h := fun f c => fin 1 (Or.inr ⟨rfl, fun z => absurd z (f c).2⟩)
  refine ⟨b1 (fun c => ⟨by omega, fun z => by unfold isLet at z; omega⟩), fun a1 => ⟨b1 (fun c => ⟨by omega, fun z => by unfold isLet at z; omega⟩), fun a2 => ⟨b1 (fun c => ⟨by omega, fun z => by unfold isLet at z; omega⟩), fun a3 => ⟨b1 (fun c => ⟨by omega, fun z => by unfold isLet at z; omega⟩), fun a4 => ⟨b1 (fun c => ⟨by omega, fun z => by unfold isLet at z; omega⟩), fun a5 => ⟨b1 (fun c => ⟨by omega, fun z => by unfold isLet at z; omega⟩), fun a6 => ⟨b1 (fun c => ⟨by omega, fun z => by unfold isLet at z; omega⟩), fun a7 => ⟨b1 (fun c => ⟨by omega, fun z => by unfold isLet at z; omega⟩), fun a8 => ⟨b1 (fun c => ⟨by omega, fun z => by unfold isLet at z; omega⟩), fun a9 => fin 0 (Or.inl ⟨rfl, fun q => by unfold isLet; omega⟩)⟩⟩⟩⟩⟩⟩⟩⟩⟩
theorem N_at_22 {P : Int → AH → Prop} {x : Int} (h0 : 0 ≤ x) (h1 : x < h 22 1) (h2 : h 22 1 ≤ 30) (H : P (h 23 x.toNat) h) : RunsI G 74 [vR 22, vI x] h P := by
  apply q_N_at_22
  rw [wI_id (z := x) (by omega) (by omega), wI_id (z := h 22 1) (by omega) (by omega)]
  exact ⟨fun c => by omega, fun _ => ⟨fun c => by omega, fun _ => ⟨fun c => by omega, fun _ => ⟨⟨h0, by omega⟩, H⟩⟩⟩⟩
theorem N_isRight_22 {P : Int → AH → Prop} (hn : 0 ≤ h 22 1 ∧ h 22 1 ≤ 30) (hv : ∀ k : Nat, (k : Int) < h 22 1 → 0 ≤ h 23 k ∧ h 23 k < 65536) (H1 : isNm (h 23) (h 22 1) → P 1 h) (H0 : ¬ isNm (h 23) (h 22 1) → P 0 h) : RunsI G 77 [vR 22] h P := by
  apply q_N_isRight_22
  rw [wI_id (z := h 22 1) (by omega) (by omega)]
  refine ⟨fun c => ?_, fun c => ⟨Or.inl rfl, H0 (fun z => by have := z.1; omega)⟩⟩
  have key : ∀ (m i : Nat), (i : Int) + m = h 22 1 → (∀ k : Nat, k < i → isLet (h 23 k)) → Go G (pI P) 77 12 [some (vR 22), some (vI (i : Int))] [] h := by
    intro m
    induction m with
    | zero =>
      intro i hi hl
      apply q_N_isRight_22_c12
      rw [wI_id (z := h 22 1) (by omega) (by omega), wI_id (z := (i : Int)) (by omega) (by omega)]
      refine ⟨fun _ => ?_, fun c => by omega⟩
      have lv := hv (h 22 1 - 1).toNat (by omega)
      refine N_at_22 (by omega) (by omega) (by omega) ?_
      rw [wI_id (z := h 23 (h 22 1 - 1).toNat) (by omega) (by omega)]
      refine ⟨fun q => ⟨Or.inl rfl, H0 (fun z => z.2.2.2.1 q)⟩, fun q => N_at_22 (by omega) (by omega) (by omega) ?_⟩
      rw [wI_id (z := h 23 (h 22 1 - 1).toNat) (by omega) (by omega)]
      exact ⟨fun q2 => ⟨Or.inl rfl, H0 (fun z => z.2.2.2.2 q2)⟩, fun q2 => ⟨Or.inr rfl, H1 ⟨c, hn.2, fun k hk => hl k (by omega), q, q2⟩⟩⟩
    | succ m ih =>
      intro i hi hl
      apply q_N_isRight_22_c12
      rw [wI_id (z := h 22 1) (by omega) (by omega), wI_id (z := (i : Int)) (by omega) (by omega)]
      refine ⟨fun c => by omega, fun _ => ?_⟩
      refine N_at_22 (by omega) (by omega) (by omega) ?_
      rw [Int.toNat_natCast]
      refine N_isLetter (hv i (by omega)) (fun z => ⟨fun c => absurd c (by decide), fun _ => ih (i + 1) (by omega) (fun k hk => ?_)⟩) (fun z => ⟨fun _ => ⟨Or.inl rfl, H0 (fun y => z (y.2.2.1 i (by omega)))⟩, fun c => absurd (by decide) c⟩)
      by_cases q : k = i
      · rw [q]; exact z
      · exact hl k (by omega)
  exact key (h 22 1).toNat 0 (by omega) (fun k hk => by omega)
theorem N_at_32 {P : Int → AH → Prop} {x : Int} (h0 : 0 ≤ x) (h1 : x < h 32 1) (h2 : h 32 1 ≤ 30) (H : P (h 33 x.toNat) h) : RunsI G 74 [vR 32, vI x] h P := by
  apply q_N_at_32
  rw [wI_id (z := x) (by omega) (by omega), wI_id (z := h 32 1) (by omega) (by omega)]
  exact ⟨fun c => by omega, fun _ => ⟨fun c => by omega, fun _ => ⟨fun c => by omega, fun _ => ⟨⟨h0, by omega⟩, H⟩⟩⟩⟩
theorem N_isRight_32 {P : Int → AH → Prop} (hn : 0 ≤ h 32 1 ∧ h 32 1 ≤ 30) (hv : ∀ k : Nat, (k : Int) < h 32 1 → 0 ≤ h 33 k ∧ h 33 k < 65536) (H1 : isNm (h 33) (h 32 1) → P 1 h) (H0 : ¬ isNm (h 33) (h 32 1) → P 0 h) : RunsI G 77 [vR 32] h P := by
  apply q_N_isRight_32
  rw [wI_id (z := h 32 1) (by omega) (by omega)]
  refine ⟨fun c => ?_, fun c => ⟨Or.inl rfl, H0 (fun z => by have := z.1; omega)⟩⟩
  have key : ∀ (m i : Nat), (i : Int) + m = h 32 1 → (∀ k : Nat, k < i → isLet (h 33 k)) → Go G (pI P) 77 12 [some (vR 32), some (vI (i : Int))] [] h := by
    intro m
    induction m with
    | zero =>
      intro i hi hl
      apply q_N_isRight_32_c12
      rw [wI_id (z := h 32 1) (by omega) (by omega), wI_id (z := (i : Int)) (by omega) (by omega)]
      refine ⟨fun _ => ?_, fun c => by omega⟩
      have lv := hv (h 32 1 - 1).toNat (by omega)
      refine N_at_32 (by omega) (by omega) (by omega) ?_
      rw [wI_id (z := h 33 (h 32 1 - 1).toNat) (by omega) (by omega)]
      refine ⟨fun q => ⟨Or.inl rfl, H0 (fun z => z.2.2.2.1 q)⟩, fun q => N_at_32 (by omega) (by omega) (by omega) ?_⟩
      rw [wI_id (z := h 33 (h 32 1 - 1).toNat) (by omega) (by omega)]
      exact ⟨fun q2 => ⟨Or.inl rfl, H0 (fun z => z.2.2.2.2 q2)⟩, fun q2 => ⟨Or.inr rfl, H1 ⟨c, hn.2, fun k hk => hl k (by omega), q, q2⟩⟩⟩
    | succ m ih =>
      intro i hi hl
      apply q_N_isRight_32_c12
      rw [wI_id (z := h 32 1) (by omega) (by omega), wI_id (z := (i : Int)) (by omega) (by omega)]
      refine ⟨fun c => by omega, fun _ => ?_⟩
      refine N_at_32 (by omega) (by omega) (by omega) ?_
      rw [Int.toNat_natCast]
      refine N_isLetter (hv i (by omega)) (fun z => ⟨fun c => absurd c (by decide), fun _ => ih (i + 1) (by omega) (fun k hk => ?_)⟩) (fun z => ⟨fun _ => ⟨Or.inl rfl, H0 (fun y => z (y.2.2.1 i (by omega)))⟩, fun c => absurd (by decide) c⟩)
      by_cases q : k = i
      · rw [q]; exact z
      · exact hl k (by omega)
  exact key (h 32 1).toNat 0 (by omega) (fun k hk => by omega)
theorem M_isName_40 {P : Int → AH → Prop} {n : Int} (hn : 0 ≤ n ∧ n ≤ 30) (hv : ∀ k : Nat, (k : Int) < n → 0 ≤ h 40 k ∧ h 40 k < 65536) (H1 : isNm (h 40) n → P 1 h) (H0 : ¬ isNm (h 40) n → P 0 h) : RunsI G 202 [vR 40, vI n] h P := by
  apply q_M_isName_40
  rw [wI_id (z := n) (by omega) (by omega)]
  have fin0 : ¬ isNm (h 40) n → Go G (pI P) 202 34 [some (vR 40), some (vI n), some (vI 0), none] [] h := by
    intro z
    apply q_M_isName_40_c34
    exact ⟨fun _ => ⟨Or.inl rfl, H0 z⟩, fun c => absurd (by decide) c⟩
  have key : ∀ (m i : Nat) (f : Int), (i : Int) + m = n → 1 ≤ n → (f = 1 ∧ (∀ k : Nat, k < i → isLet (h 40 k)) ∨ f = 0 ∧ ¬ isNm (h 40) n) → Go G (pI P) 202 12 [some (vR 40), some (vI n), some (vI f), some (vI (i : Int))] [] h := by
    intro m
    induction m with
    | zero =>
      intro i f hi h1 hf
      apply q_M_isName_40_c12
      rw [wI_id (z := n) (by omega) (by omega), wI_id (z := (i : Int)) (by omega) (by omega)]
      refine ⟨fun _ => ?_, fun c => by omega⟩
      rcases hf with ⟨rfl, hl⟩ | ⟨rfl, z⟩
      · apply q_M_isName_40_c34
        have lv := hv (n - 1).toNat (by omega)
        refine ⟨fun c => absurd c (by decide), fun _ => ?_⟩
        rw [wI_id (z := n - 1) (by omega) (by omega), wI_id (z := h 40 (n - 1).toNat) (by omega) (by omega)]
        exact ⟨⟨by omega, by omega⟩, fun q => ⟨Or.inl rfl, H0 (fun z => z.2.2.2.1 q)⟩, fun q => ⟨⟨by omega, by omega⟩, fun q2 => ⟨Or.inl rfl, H0 (fun z => z.2.2.2.2 q2)⟩, fun q2 => ⟨Or.inr rfl, H1 ⟨h1, hn.2, fun k hk => hl k (by omega), q, q2⟩⟩⟩⟩
      · exact fin0 z
    | succ m ih =>
      intro i f hi h1 hf
      apply q_M_isName_40_c12
      rw [wI_id (z := n) (by omega) (by omega), wI_id (z := (i : Int)) (by omega) (by omega), wI_id (z := f) (by omega) (by omega)]
      refine ⟨fun c => by omega, fun _ => ⟨fun c => ?_, fun c => ⟨⟨by omega, by omega⟩, ?_⟩⟩⟩
      · rcases hf with ⟨q, _⟩ | ⟨rfl, z⟩
        · omega
        · exact fin0 z
      · rcases hf with ⟨rfl, hl⟩ | ⟨q, _⟩
        · rw [Int.toNat_natCast]
          refine M_isLetter (hv i (by omega)) (fun z => ih (i + 1) 1 (by omega) h1 (Or.inl ⟨rfl, fun k hk => ?_⟩)) (fun z => ih (i + 1) 0 (by omega) h1 (Or.inr ⟨rfl, fun y => z (y.2.2.1 i (by omega))⟩))
          by_cases q : k = i
          · rw [q]; exact z
          · exact hl k (by omega)
        · exact absurd q c
  refine M_in (by omega) (by omega) (by omega) (fun a1 a2 => key n.toNat 0 1 (by omega) a1 (Or.inl ⟨rfl, fun k hk => by omega⟩)) (fun a => ?_)
  apply q_M_isName_40_c12
  have z : ¬ isNm (h 40) n := fun y => a ⟨y.1, y.2.1⟩
  exact ⟨fun _ => fin0 z, fun _ => ⟨fun _ => fin0 z, fun c => absurd (by decide) c⟩⟩
theorem M_isName_52 {P : Int → AH → Prop} {n : Int} (hn : 0 ≤ n ∧ n ≤ 30) (hv : ∀ k : Nat, (k : Int) < n → 0 ≤ h 52 k ∧ h 52 k < 65536) (H1 : isNm (h 52) n → P 1 h) (H0 : ¬ isNm (h 52) n → P 0 h) : RunsI G 202 [vR 52, vI n] h P := by
  apply q_M_isName_52
  rw [wI_id (z := n) (by omega) (by omega)]
  have fin0 : ¬ isNm (h 52) n → Go G (pI P) 202 34 [some (vR 52), some (vI n), some (vI 0), none] [] h := by
    intro z
    apply q_M_isName_52_c34
    exact ⟨fun _ => ⟨Or.inl rfl, H0 z⟩, fun c => absurd (by decide) c⟩
  have key : ∀ (m i : Nat) (f : Int), (i : Int) + m = n → 1 ≤ n → (f = 1 ∧ (∀ k : Nat, k < i → isLet (h 52 k)) ∨ f = 0 ∧ ¬ isNm (h 52) n) → Go G (pI P) 202 12 [some (vR 52), some (vI n), some (vI f), some (vI (i : Int))] [] h := by
    intro m
    induction m with
    | zero =>
      intro i f hi h1 hf
      apply q_M_isName_52_c12
      rw [wI_id (z := n) (by omega) (by omega), wI_id (z := (i : Int)) (by omega) (by omega)]
      refine ⟨fun _ => ?_, fun c => by omega⟩
      rcases hf with ⟨rfl, hl⟩ | ⟨rfl, z⟩
      · apply q_M_isName_52_c34
        have lv := hv (n - 1).toNat (by omega)
        refine ⟨fun c => absurd c (by decide), fun _ => ?_⟩
        rw [wI_id (z := n - 1) (by omega) (by omega), wI_id (z := h 52 (n - 1).toNat) (by omega) (by omega)]
        exact ⟨⟨by omega, by omega⟩, fun q => ⟨Or.inl rfl, H0 (fun z => z.2.2.2.1 q)⟩, fun q => ⟨⟨by omega, by omega⟩, fun q2 => ⟨Or.inl rfl, H0 (fun z => z.2.2.2.2 q2)⟩, fun q2 => ⟨Or.inr rfl, H1 ⟨h1, hn.2, fun k hk => hl k (by omega), q, q2⟩⟩⟩⟩
      · exact fin0 z
    | succ m ih =>
      intro i f hi h1 hf
      apply q_M_isName_52_c12
      rw [wI_id (z := n) (by omega) (by omega), wI_id (z := (i : Int)) (by omega) (by omega), wI_id (z := f) (by omega) (by omega)]
      refine ⟨fun c => by omega, fun _ => ⟨fun c => ?_, fun c => ⟨⟨by omega, by omega⟩, ?_⟩⟩⟩
      · rcases hf with ⟨q, _⟩ | ⟨rfl, z⟩
        · omega
        · exact fin0 z
      · rcases hf with ⟨rfl, hl⟩ | ⟨q, _⟩
        · rw [Int.toNat_natCast]
          refine M_isLetter (hv i (by omega)) (fun z => ih (i + 1) 1 (by omega) h1 (Or.inl ⟨rfl, fun k hk => ?_⟩)) (fun z => ih (i + 1) 0 (by omega) h1 (Or.inr ⟨rfl, fun y => z (y.2.2.1 i (by omega))⟩))
          by_cases q : k = i
          · rw [q]; exact z
          · exact hl k (by omega)
        · exact absurd q c
  refine M_in (by omega) (by omega) (by omega) (fun a1 a2 => key n.toNat 0 1 (by omega) a1 (Or.inl ⟨rfl, fun k hk => by omega⟩)) (fun a => ?_)
  apply q_M_isName_52_c12
  have z : ¬ isNm (h 52) n := fun y => a ⟨y.1, y.2.1⟩
  exact ⟨fun _ => fin0 z, fun _ => ⟨fun _ => fin0 z, fun c => absurd (by decide) c⟩⟩
/-- the letters of a long -/
def ln (y : Int) (i : Nat) : Int := y / 2 ^ (16 * i) % 65536
def lcn (y : Int) : Nat → Int
  | 0 => 0
  | i + 1 => lcn y i + if ln y i = 0 then 0 else 1
theorem lcn_rng (y : Int) : ∀ i : Nat, 0 ≤ lcn y i ∧ lcn y i ≤ i
  | 0 => ⟨Int.le_refl _, Int.le_refl _⟩
  | i + 1 => by
    have := lcn_rng y i
    unfold lcn
    split <;> omega
theorem lcn_mono (y : Int) {i : Nat} : ∀ {j : Nat}, i ≤ j → lcn y i ≤ lcn y j
  | 0, h => by rw [show i = 0 by omega]; exact Int.le_refl _
  | j + 1, h => by
    by_cases q : i = j + 1
    · rw [q]; exact Int.le_refl _
    · have := lcn_mono y (show i ≤ j by omega)
      have es : lcn y (j + 1) = lcn y j + if ln y j = 0 then 0 else 1 := rfl
      rw [es]
      split <;> omega
theorem ln_rng (y : Int) (i : Nat) : 0 ≤ ln y i ∧ ln y i < 65536 := by unfold ln; omega
theorem ln_u {y : Int} {i : Nat} (hi : i < 4) : bAL (sUL y (16 * (i : Int))) 65535 = ln y i := by
  rw [bAL_65535]
  unfold ln
  match i, hi with
  | 0, _ => show y % 18446744073709551616 / 1 % 65536 = y / 1 % 65536; omega
  | 1, _ => show y % 18446744073709551616 / 65536 % 65536 = y / 65536 % 65536; omega
  | 2, _ => show y % 18446744073709551616 / 4294967296 % 65536 = y / 4294967296 % 65536; omega
  | 3, _ => show y % 18446744073709551616 / 281474976710656 % 65536 = y / 281474976710656 % 65536; omega
theorem ln_s {y : Int} {i : Nat} (hi : i < 4) : bAL (sRL y (16 * (i : Int))) 65535 = ln y i := by
  rw [bAL_65535]
  unfold ln
  match i, hi with
  | 0, _ => show wL y / 1 % 65536 = y / 1 % 65536; unfold wL; omega
  | 1, _ => show wL y / 65536 % 65536 = y / 65536 % 65536; unfold wL; omega
  | 2, _ => show wL y / 4294967296 % 65536 = y / 4294967296 % 65536; unfold wL; omega
  | 3, _ => show wL y / 281474976710656 % 65536 = y / 281474976710656 % 65536; unfold wL; omega
/-- the draft behind i letters more -/
def apd (f : Nat → Int) (n : Int) (y : Int) : Nat → Nat → Int
  | 0 => f
  | i + 1 => if ln y i = 0 then apd f n y i else wr (apd f n y i) (n + lcn y i) (ln y i)
theorem N_append {P : Int → AH → Prop} {y : Int} (hn : 0 ≤ h 32 1 ∧ h 32 1 ≤ 30) (H0 : 30 < h 32 1 + lcn y 4 → P 0 h) (H1 : h 32 1 + lcn y 4 ≤ 30 → ∀ h', h' 33 = apd (h 33) (h 32 1) y 4 → h' 32 1 = h 32 1 + lcn y 4 → (∀ o, o ≠ 32 → o ≠ 33 → h' o = h o) → P 1 h') : RunsI G 75 [vR 32, vL y] h P := by
  apply q_N_append
  have ad : ∀ (m i : Nat) (g : AH), i + m = 4 → h 32 1 + lcn y 4 ≤ 30 → g 33 = apd (h 33) (h 32 1) y i → g 32 1 = h 32 1 + lcn y i → (∀ o, o ≠ 32 → o ≠ 33 → g o = h o) → Go G (pI P) 75 55 [some (vR 32), some (vL y), none, none, some (vI (i : Int))] [] g := by
    intro m
    induction m with
    | zero =>
      intro i g hi hle e1 e2 e3
      apply q_N_append_c55
      rw [wI_id (z := (i : Int)) (by omega) (by omega)]
      have h4 : i = 4 := by omega
      subst h4
      exact ⟨fun _ => ⟨Or.inr rfl, H1 hle g e1 e2 e3⟩, fun c => by omega⟩
    | succ m ih =>
      intro i g hi hle e1 e2 e3
      apply q_N_append_c55
      rw [wI_id (z := (i : Int)) (by omega) (by omega)]
      refine ⟨fun c => by omega, fun _ => ?_⟩
      rw [ln_u (by omega)]
      have lr := ln_rng y i
      have c0 := lcn_rng y i
      apply q_N_add
      rw [wI_id (z := ln y i) (by omega) (by omega), e2, wI_id (z := h 32 1 + lcn y i) (by omega) (by omega)]
      have es : lcn y (i + 1) = lcn y i + if ln y i = 0 then 0 else 1 := rfl
      have ea : apd (h 33) (h 32 1) y (i + 1) = if ln y i = 0 then apd (h 33) (h 32 1) y i else wr (apd (h 33) (h 32 1) y i) (h 32 1 + lcn y i) (ln y i) := rfl
      refine ⟨fun c => ih (i + 1) g (by omega) hle ?_ ?_ e3, fun c => ⟨fun c2 => ?_, fun c2 => ⟨⟨by omega, by omega⟩, ih (i + 1) _ (by omega) hle ?_ ?_ ?_⟩⟩⟩
      · rw [ea, if_pos c]; exact e1
      · rw [es, if_pos c]; omega
      · exfalso
        have mono : lcn y (i + 1) ≤ lcn y 4 := lcn_mono y (by omega)
        rw [es, if_neg c] at mono
        omega
      · rw [hs_eq, hs_o _ _ _ _ _ (by decide), e1, ea, if_neg c]; rfl
      · rw [hs_o _ _ _ _ _ (by decide), hs_same, es, if_neg c]; omega
      · intro o a b; rw [hs_o _ _ _ _ _ b, hs_o _ _ _ _ _ a]; exact e3 o a b
  have ct : ∀ (m i : Nat), i + m = 4 → Go G (pI P) 75 5 [some (vR 32), some (vL y), none, some (vI (lcn y i)), some (vI (i : Int))] [] h := by
    intro m
    induction m with
    | zero =>
      intro i hi
      apply q_N_append_c5
      have h4 : i = 4 := by omega
      subst h4
      have c0 := lcn_rng y 4
      rw [wI_id (z := ((4 : Nat) : Int)) (by omega) (by omega), wI_id (z := h 32 1 + lcn y 4) (by omega) (by omega)]
      exact ⟨fun _ => ⟨fun c => ad 4 0 h rfl c rfl (show h 32 1 = h 32 1 + 0 by omega) (fun _ _ _ => rfl), fun c => ⟨Or.inl rfl, H0 (by omega)⟩⟩, fun c => by omega⟩
    | succ m ih =>
      intro i hi
      apply q_N_append_c5
      rw [wI_id (z := (i : Int)) (by omega) (by omega), ln_u (by omega)]
      have lr := ln_rng y i
      rw [wL_id (z := ln y i) (by omega) (by omega)]
      have es : lcn y (i + 1) = lcn y i + if ln y i = 0 then 0 else 1 := rfl
      refine ⟨fun c => by omega, fun _ => ⟨fun c => ?_, fun c => ?_⟩⟩
      · have := ih (i + 1) (by omega)
        rw [es, if_pos c, Int.add_zero] at this
        exact this
      · have := ih (i + 1) (by omega)
        rw [es, if_neg c] at this
        exact this
  exact ct 4 0 rfl
theorem M_letters {P : Int → AH → Prop} {y : Int} (hn : 0 ≤ h 34 41 ∧ h 34 41 ≤ 30) (H0 : 30 < h 34 41 + lcn y 4 → P (-1) h) (H1 : h 34 41 + lcn y 4 ≤ 30 → ∀ h', h' 52 = apd (h 52) (h 34 41) y 4 → h' 34 41 = h 34 41 + lcn y 4 → (∀ k, k ≠ 41 → h' 34 k = h 34 k) → (∀ o, o ≠ 34 → o ≠ 52 → h' o = h o) → P (h' 34 41) h') : RunsI G 230 [vR 34, vL y] h P := by
  apply q_M_letters
  have ad : ∀ (m i : Nat) (g : AH), i + m = 4 → h 34 41 + lcn y 4 ≤ 30 → g 52 = apd (h 52) (h 34 41) y i → g 34 41 = h 34 41 + lcn y i → (∀ k, k ≠ 41 → g 34 k = h 34 k) → (∀ o, o ≠ 34 → o ≠ 52 → g o = h o) → Go G (pI P) 230 57 [some (vR 34), some (vL y), none, none, some (vI (i : Int)), none] [] g := by
    intro m
    induction m with
    | zero =>
      intro i g hi hle e1 e2 e3 e4
      apply q_M_letters_c57
      rw [wI_id (z := (i : Int)) (by omega) (by omega)]
      have h4 : i = 4 := by omega
      subst h4
      exact ⟨fun _ => H1 hle g e1 e2 e3 e4, fun c => by omega⟩
    | succ m ih =>
      intro i g hi hle e1 e2 e3 e4
      apply q_M_letters_c57
      rw [wI_id (z := (i : Int)) (by omega) (by omega), ln_s (by omega)]
      have lr := ln_rng y i
      have c0 := lcn_rng y i
      rw [wI_id (z := ln y i) (by omega) (by omega), e2, wI_id (z := h 34 41 + lcn y i) (by omega) (by omega)]
      have es : lcn y (i + 1) = lcn y i + if ln y i = 0 then 0 else 1 := rfl
      have ea : apd (h 52) (h 34 41) y (i + 1) = if ln y i = 0 then apd (h 52) (h 34 41) y i else wr (apd (h 52) (h 34 41) y i) (h 34 41 + lcn y i) (ln y i) := rfl
      refine ⟨fun c => by omega, fun _ => ⟨fun c => ih (i + 1) g (by omega) hle ?_ ?_ e3 e4, fun c => ⟨⟨by omega, ?_⟩, ih (i + 1) _ (by omega) hle ?_ ?_ ?_ ?_⟩⟩⟩
      · rw [ea, if_pos c]; exact e1
      · rw [es, if_pos c]; omega
      · have mono : lcn y (i + 1) ≤ lcn y 4 := lcn_mono y (by omega)
        rw [es, if_neg c] at mono
        omega
      · rw [hs_o _ _ _ _ _ (by decide), hs_eq, e1, ea, if_neg c]; rfl
      · rw [hs_same, hs_o _ _ _ _ _ (by decide), e2, es, if_neg c]; omega
      · intro k a; rw [hs_k _ _ _ _ _ a, hs_o _ _ _ _ _ (by decide)]; exact e3 k a
      · intro o a b; rw [hs_o _ _ _ _ _ a, hs_o _ _ _ _ _ b]; exact e4 o a b
  have ct : ∀ (m i : Nat), i + m = 4 → Go G (pI P) 230 5 [some (vR 34), some (vL y), none, some (vI (lcn y i)), some (vI (i : Int)), none] [] h := by
    intro m
    induction m with
    | zero =>
      intro i hi
      apply q_M_letters_c5
      have h4 : i = 4 := by omega
      subst h4
      have c0 := lcn_rng y 4
      rw [wI_id (z := ((4 : Nat) : Int)) (by omega) (by omega), wI_id (z := h 34 41 + lcn y 4) (by omega) (by omega)]
      exact ⟨fun _ => ⟨fun c => ad 4 0 h rfl c rfl (show h 34 41 = h 34 41 + 0 by omega) (fun _ _ => rfl) (fun _ _ _ => rfl), fun c => H0 (by omega)⟩, fun c => by omega⟩
    | succ m ih =>
      intro i hi
      apply q_M_letters_c5
      rw [wI_id (z := (i : Int)) (by omega) (by omega), ln_s (by omega)]
      have lr := ln_rng y i
      rw [wL_id (z := ln y i) (by omega) (by omega)]
      have es : lcn y (i + 1) = lcn y i + if ln y i = 0 then 0 else 1 := rfl
      refine ⟨fun c => by omega, fun _ => ⟨fun c => ?_, fun c => ?_⟩⟩
      · have := ih (i + 1) (by omega)
        rw [es, if_pos c] at this
        exact this
      · have := ih (i + 1) (by omega)
        rw [es, if_neg c] at this
        exact this
  exact ct 4 0 rfl
end NAMES
