/-! the table of great letters is learnt -/
def lrn (f : Nat → Int) (a : Int) : Nat → Int → Int → (Nat → Int) → Option (Nat → Int)
  | 0, _, _, g => some g
  | 1, p, l, g => if u2 f (a + p) = 65535 then none else if 255 < u2 f (a + p) ∨ 255 < l then none else some (wr g l (u2 f (a + p)))
  | m + 2, p, l, g => if u2 f (a + p) = 65535 then (if 256 < l + u2 f (a + (p + 2)) then none else lrn f a m (p + 4) (l + u2 f (a + (p + 2))) g) else if 255 < u2 f (a + p) ∨ 255 < l then none else lrn f a (m + 1) (p + 2) (l + 1) (wr g l (u2 f (a + p)))
theorem lrn_o {f : Nat → Int} {a p l : Int} {g : Nat → Int} {m : Nat} (h : u2 f (a + p) = 65535) : lrn f a (m + 1) p l g = match m with
    | 0 => none
    | k + 1 => if 256 < l + u2 f (a + (p + 2)) then none else lrn f a k (p + 4) (l + u2 f (a + (p + 2))) g := by
  cases m with
  | zero => rw [lrn, if_pos h]
  | succ k => rw [lrn, if_pos h]
theorem lrn_n {f : Nat → Int} {a p l : Int} {g : Nat → Int} {m : Nat} (h : u2 f (a + p) ≠ 65535) : lrn f a (m + 1) p l g = if 255 < u2 f (a + p) ∨ 255 < l then none else lrn f a m (p + 2) (l + 1) (wr g l (u2 f (a + p))) := by
  cases m with
  | zero => show (if u2 f (a + p) = 65535 then none else if 255 < u2 f (a + p) ∨ 255 < l then none else some (wr g l (u2 f (a + p)))) = _; rw [if_neg h]; rfl
  | succ k => rw [lrn, if_neg h]
def idn : Nat → Int := fun k => (k : Int)
/-- the table of m pairs at a is right, and says g -/
def LrOK (f : Nat → Int) (a : Int) (m : Nat) (g : Nat → Int) : Prop := lrn f a m 0 0 idn = some g ∧ ∀ i, i < 256 → g (g i).toNat = g i
def Gr (g : Nat → Int) : Prop := ∀ i, i < 256 → 0 ≤ g i ∧ g i < 256
theorem E2_wr {f g : Nat → Int} (h : E2 f g) (a v : Int) : E2 (wr f a v) (wr g a v) := by
  intro k hk
  unfold wr
  split
  · rfl
  · exact h k hk
theorem Gr_wr {g : Nat → Int} (h : Gr g) {a v : Int} (h0 : 0 ≤ v) (h1 : v < 256) : Gr (wr g a v) := by
  intro k hk
  unfold wr
  split
  · exact ⟨h0, h1⟩
  · exact h k hk
section LEARN
variable {G : GG} {h : AH} {f : Nat → Int}
theorem K_learn {P : Int → AH → Prop} {a : Int} {n : Nat} (hb : By (h 3)) (a0 : 0 ≤ a) (a1 : a + 2 * n ≤ 13824) (hn : n ≤ 64)
    (H1 : ∀ h' g, LrOK (h 3) a n g → Gr g → E2 (h' 9) g → (∀ o, o ≠ 9 → h' o = h o) → P 1 h')
    (H0 : ∀ h', (∀ g, ¬ LrOK (h 3) a n g) → (∀ o, o ≠ 9 → h' o = h o) → P 0 h') : RunsI G 18 [vR 8, vI a, vI (2 * (n : Int))] h P := by
  apply q_K_learn
  have l3 : ∀ (g : Nat → Int) (b : AH), lrn (h 3) a n 0 0 idn = some g → Gr g → E2 (b 9) g → (∀ o, o ≠ 9 → b o = h o) → ∀ (m j : Nat), j + m = 256 → (∀ i, i < j → g (g i).toNat = g i) → Go G (pI P) 18 133 [some (vR 8), none, none, none, some (vI (j : Int)), none] [] b := by
    intro g b lg gr eb ob m
    induction m with
    | zero =>
      intro j hm e
      apply q_K_learn_c133
      rw [wI_id (z := (j : Int)) (by omega) (by omega)]
      exact ⟨fun _ => ⟨Or.inr rfl, H1 b g ⟨lg, fun i hi => e i (by omega)⟩ gr eb ob⟩, fun c => by omega⟩
    | succ m ih =>
      intro j hm e
      apply q_K_learn_c133
      rw [wI_id (z := (j : Int)) (by omega) (by omega), show (j : Int).toNat = j by omega, eb j (by omega)]
      have gj := gr j (by omega)
      have gg := gr (g j).toNat (by omega)
      refine ⟨fun c => by omega, fun _ => ⟨⟨by omega, by omega⟩, ?_⟩⟩
      apply q_K_greatOf
      rw [wI_id (z := g j) (by omega) (by omega)]
      refine ⟨fun c => by omega, fun _ => ⟨fun c => by omega, fun _ => ⟨⟨by omega, by omega⟩, ⟨by omega, by omega⟩, ?_⟩⟩⟩
      rw [eb _ (by omega), eb j (by omega), wI_id (z := g (g j).toNat) (by omega) (by omega), wI_id (z := g j) (by omega) (by omega)]
      refine ⟨fun c => ?_, fun c => ⟨Or.inl rfl, H0 b (fun g2 q => ?_) ob⟩⟩
      · rw [show (j : Int) + 1 = ((j + 1 : Nat) : Int) by omega]
        refine ih (j + 1) (by omega) (fun i hi => ?_)
        by_cases q : i = j
        · rw [q]; exact c
        · exact e i (by omega)
      · have : g = g2 := by
          have := lg.symm.trans q.1
          exact Option.some.inj this
        rw [this] at c
        exact c (q.2 j (by omega))
  have no : ∀ b : AH, lrn (h 3) a n 0 0 idn = none → (∀ o, o ≠ 9 → b o = h o) → P 0 b := fun b q ob => H0 b (fun g r => by
    have := q.symm.trans r.1
    cases this) ob
  have l2 : ∀ (M m : Nat) (p l : Int) (g : Nat → Int) (b : AH), m ≤ M → p + 2 * m = 2 * n → 0 ≤ p → 0 ≤ l → l ≤ 256 → lrn (h 3) a m p l g = lrn (h 3) a n 0 0 idn → Gr g → E2 (b 9) g → (∀ o, o ≠ 9 → b o = h o) → Go G (pI P) 18 29 [some (vR 8), some (vI a), some (vI (2 * (n : Int))), some (vI l), some (vI p), none] [] b := by
    intro M
    induction M with
    | zero =>
      intro m p l g b hm hp p0 l0 l1 lg gr eb ob
      apply q_K_learn_c29
      rw [wI_id (z := 2 * (n : Int)) (by omega) (by omega), wI_id (z := p) (by omega) (by omega)]
      have m0 : m = 0 := by omega
      subst m0
      exact ⟨fun _ => l3 g b lg.symm gr eb ob 256 0 rfl (fun i hi => by omega), fun c => by omega⟩
    | succ M ih =>
      intro m p l g b hm hp p0 l0 l1 lg gr eb ob
      cases m with
      | zero => exact ih 0 p l g b (by omega) hp p0 l0 l1 lg gr eb ob
      | succ m =>
        apply q_K_learn_c29
        rw [wI_id (z := 2 * (n : Int)) (by omega) (by omega), wI_id (z := p) (by omega) (by omega)]
        refine ⟨fun c => by omega, fun _ => ?_⟩
        have b3 : b 3 = h 3 := ob 3 (by decide)
        have hb' : By (b 3) := by rw [b3]; exact hb
        have ur := u2_rng hb (show 0 ≤ a + p by omega) (show a + p + 1 < 13824 by omega)
        refine D_u2 hb' (by omega) (by omega) ?_
        rw [b3, wI_id (z := u2 (h 3) (a + p)) (by omega) (by omega), wI_id (z := p + 2) (by omega) (by omega)]
        refine ⟨fun c1 => ?_, fun c1 => ?_⟩
        · rw [lrn_o c1] at lg
          cases m with
          | zero => exact ⟨fun c => by omega, fun _ => ⟨Or.inl rfl, no b lg.symm ob⟩⟩
          | succ k =>
            dsimp only at lg
            refine ⟨fun _ => ?_, fun c => by omega⟩
            have ur2 := u2_rng hb (show 0 ≤ a + (p + 2) by omega) (show a + (p + 2) + 1 < 13824 by omega)
            refine D_u2 hb' (by omega) (by omega) ?_
            rw [b3, wI_id (z := l + u2 (h 3) (a + (p + 2))) (by omega) (by omega)]
            refine ⟨fun c2 => ?_, fun c2 => ⟨Or.inl rfl, no b ?_ ob⟩⟩
            · rw [if_neg (by omega)] at lg
              rw [show p + 2 + 2 = p + 4 by omega]
              exact ih k (p + 4) _ g b (by omega) (by omega) (by omega) (by omega) (by omega) lg gr eb ob
            · rw [if_pos (by omega)] at lg
              exact lg.symm
        · rw [lrn_n c1] at lg
          refine ⟨fun c2 => ⟨Or.inl rfl, no b ?_ ob⟩, fun c2 => ?_⟩
          · rw [if_pos (Or.inl c2)] at lg
            exact lg.symm
          · rw [wI_id (z := l) (by omega) (by omega), wI_id (z := l + 1) (by omega) (by omega)]
            refine ⟨fun c3 => ⟨⟨by omega, by omega⟩, fun _ => ?_, fun c => by omega⟩, fun c3 => ⟨Or.inl rfl, no b ?_ ob⟩⟩
            · rw [if_neg (by omega)] at lg
              refine ih m (p + 2) (l + 1) _ _ (by omega) (by omega) (by omega) (by omega) (by omega) lg (Gr_wr gr ur.1 (by omega)) ?_ (fun o ho => by rw [hs_o _ _ _ _ _ ho]; exact ob o ho)
              rw [hs_eq]
              exact E2_wr eb _ _
            · rw [if_pos (by omega)] at lg
              exact lg.symm
  have l1 : ∀ (m j : Nat) (b : AH), j + m = 256 → (∀ i, i < j → b 9 i = idn i) → (∀ o, o ≠ 9 → b o = h o) → Go G (pI P) 18 2 [some (vR 8), some (vI a), some (vI (2 * (n : Int))), some (vI (j : Int)), none, none] [] b := by
    intro m
    induction m with
    | zero =>
      intro j b hm e ob
      apply q_K_learn_c2
      rw [wI_id (z := (j : Int)) (by omega) (by omega)]
      refine ⟨fun _ => l2 n n 0 0 idn b (Nat.le_refl n) (by omega) (by decide) (by decide) (by decide) rfl (fun i hi => by unfold idn; omega) (fun k hk => e k (by omega)) ob, fun c => by omega⟩
    | succ m ih =>
      intro j b hm e ob
      apply q_K_learn_c2
      rw [wI_id (z := (j : Int)) (by omega) (by omega)]
      refine ⟨fun c => by omega, fun _ => ⟨⟨by omega, by omega⟩, ?_⟩⟩
      rw [show (j : Int) + 1 = ((j + 1 : Nat) : Int) by omega, show (j : Int).toNat = j by omega]
      refine ih (j + 1) _ (by omega) (fun i hi => ?_) (fun o ho => by rw [hs_o _ _ _ _ _ ho]; exact ob o ho)
      rw [hs_app, if_pos rfl]
      by_cases q : i = j
      · rw [if_pos q, q]; rfl
      · rw [if_neg q]; exact e i (by omega)
  exact l1 256 0 h rfl (fun i hi => by omega) (fun _ _ => rfl)
theorem M_isTable {P : Int → AH → Prop} {a : Int} {n : Nat} (hE : E (ub (h 35)) f) (a0 : 0 ≤ a) (a1 : a + 2 * n ≤ 13824) (hn : n ≤ 64)
    (H1 : ∀ h' g, LrOK f a n g → Gr g → E2 (h' 38) g → (∀ o, o ≠ 38 → h' o = h o) → P 1 h')
    (H0 : ∀ h', (∀ g, ¬ LrOK f a n g) → (∀ o, o ≠ 38 → h' o = h o) → P 0 h') : RunsI G 196 [vR 34, vI a, vI (2 * (n : Int))] h P := by
  have hb : By f := hE.by (ub_By _)
  apply q_M_isTable
  have l3 : ∀ (g : Nat → Int) (b : AH), lrn f a n 0 0 idn = some g → Gr g → E2 (b 38) g → (∀ o, o ≠ 38 → b o = h o) → ∀ (m j : Nat), j + m = 256 → (∀ i, i < j → g (g i).toNat = g i) → Go G (pI P) 196 137 [some (vR 34), none, none, none, none, none, some (vI (j : Int)), none] [] b := by
    intro g b lg gr eb ob m
    induction m with
    | zero =>
      intro j hm e
      apply q_M_isTable_c137
      rw [wI_id (z := (j : Int)) (by omega) (by omega)]
      exact ⟨fun _ => ⟨Or.inr rfl, H1 b g ⟨lg, fun i hi => e i (by omega)⟩ gr eb ob⟩, fun c => by omega⟩
    | succ m ih =>
      intro j hm e
      apply q_M_isTable_c137
      have gj := gr j (by omega)
      have gg := gr (g j).toNat (by omega)
      rw [wI_id (z := (j : Int)) (by omega) (by omega), show (j : Int).toNat = j by omega, eb j (by omega), wI_id (z := g j) (by omega) (by omega), eb _ (by omega), wI_id (z := g (g j).toNat) (by omega) (by omega)]
      refine ⟨fun c => by omega, fun _ => ⟨⟨by omega, by omega⟩, ⟨by omega, by omega⟩, ⟨by omega, by omega⟩, fun c => ?_, fun c => ⟨Or.inl rfl, H0 b (fun g2 q => ?_) ob⟩⟩⟩
      · rw [show (j : Int) + 1 = ((j + 1 : Nat) : Int) by omega]
        refine ih (j + 1) (by omega) (fun i hi => ?_)
        by_cases q : i = j
        · rw [q]; exact c
        · exact e i (by omega)
      · have : g = g2 := by
          have := lg.symm.trans q.1
          exact Option.some.inj this
        rw [this] at c
        exact c (q.2 j (by omega))
  have no : ∀ b : AH, lrn f a n 0 0 idn = none → (∀ o, o ≠ 38 → b o = h o) → P 0 b := fun b q ob => H0 b (fun g r => by
    have := q.symm.trans r.1
    cases this) ob
  have l2 : ∀ (M m : Nat) (p l : Int) (g : Nat → Int) (b : AH), m ≤ M → p + 2 * m = 2 * n → 0 ≤ p → 0 ≤ l → l ≤ 256 → lrn f a m p l g = lrn f a n 0 0 idn → Gr g → E2 (b 38) g → (∀ o, o ≠ 38 → b o = h o) → Go G (pI P) 196 27 [some (vR 34), some (vI a), some (vI (2 * (n : Int))), some (vL l), none, some (vI p), none, none] [] b := by
    intro M
    induction M with
    | zero =>
      intro m p l g b hm hp p0 l0 l1 lg gr eb ob
      apply q_M_isTable_c27
      rw [wI_id (z := 2 * (n : Int)) (by omega) (by omega), wI_id (z := p) (by omega) (by omega)]
      have m0 : m = 0 := by omega
      subst m0
      exact ⟨fun _ => l3 g b lg.symm gr eb ob 256 0 rfl (fun i hi => by omega), fun c => by omega⟩
    | succ M ih =>
      intro m p l g b hm hp p0 l0 l1 lg gr eb ob
      cases m with
      | zero => exact ih 0 p l g b (by omega) hp p0 l0 l1 lg gr eb ob
      | succ m =>
        apply q_M_isTable_c27
        rw [wI_id (z := 2 * (n : Int)) (by omega) (by omega), wI_id (z := p) (by omega) (by omega)]
        refine ⟨fun c => by omega, fun _ => ?_⟩
        have b3 : b 35 = h 35 := ob 35 (by decide)
        have hE' : E (ub (b 35)) f := by rw [b3]; exact hE
        have ur := u2_rng hb (show 0 ≤ a + p by omega) (show a + p + 1 < 13824 by omega)
        refine M_get2 hE' (by omega) (by omega) ?_
        rw [wL_id (z := u2 f (a + p)) (by omega) (by omega), wI_id (z := p + 2) (by omega) (by omega)]
        refine ⟨fun c1 => ?_, fun c1 => ?_⟩
        · rw [lrn_o c1] at lg
          cases m with
          | zero => exact ⟨fun _ => ⟨Or.inl rfl, no b lg.symm ob⟩, fun c => by omega⟩
          | succ k =>
            dsimp only at lg
            refine ⟨fun c => by omega, fun _ => ?_⟩
            have ur2 := u2_rng hb (show 0 ≤ a + (p + 2) by omega) (show a + (p + 2) + 1 < 13824 by omega)
            refine M_get2 hE' (by omega) (by omega) ?_
            rw [wL_id (z := l + u2 f (a + (p + 2))) (by omega) (by omega)]
            refine ⟨fun c2 => ?_, fun c2 => ⟨Or.inl rfl, no b ?_ ob⟩⟩
            · rw [if_neg (by omega)] at lg
              rw [show p + 2 + 2 = p + 4 by omega]
              exact ih k (p + 4) _ g b (by omega) (by omega) (by omega) (by omega) (by omega) lg gr eb ob
            · rw [if_pos (by omega)] at lg
              exact lg.symm
        · rw [lrn_n c1] at lg
          rw [wL_id (z := l) (by omega) (by omega)]
          refine ⟨fun c2 => ⟨Or.inl rfl, no b ?_ ob⟩, fun c2 => ?_⟩
          · rw [if_pos (Or.inr c2)] at lg
            exact lg.symm
          · rw [wI_id (z := l) (by omega) (by omega), wL_id (z := l + 1) (by omega) (by omega)]
            refine ⟨fun c3 => ⟨⟨by omega, by omega⟩, fun _ => ?_, fun c => by omega⟩, fun c3 => ⟨Or.inl rfl, no b ?_ ob⟩⟩
            · rw [if_neg (by omega)] at lg
              refine ih m (p + 2) (l + 1) _ _ (by omega) (by omega) (by omega) (by omega) (by omega) lg (Gr_wr gr ur.1 (by omega)) ?_ (fun o ho => by rw [hs_o _ _ _ _ _ ho]; exact ob o ho)
              rw [hs_eq]
              exact E2_wr eb _ _
            · rw [if_pos (by omega)] at lg
              exact lg.symm
  have l1 : ∀ (m j : Nat) (b : AH), j + m = 256 → (∀ i, i < j → b 38 i = idn i) → (∀ o, o ≠ 38 → b o = h o) → Go G (pI P) 196 2 [some (vR 34), some (vI a), some (vI (2 * (n : Int))), some (vI (j : Int)), none, none, none, none] [] b := by
    intro m
    induction m with
    | zero =>
      intro j b hm e ob
      apply q_M_isTable_c2
      rw [wI_id (z := (j : Int)) (by omega) (by omega)]
      refine ⟨fun _ => l2 n n 0 0 idn b (Nat.le_refl n) (by omega) (by decide) (by decide) (by decide) rfl (fun i hi => by unfold idn; omega) (fun k hk => e k (by omega)) ob, fun c => by omega⟩
    | succ m ih =>
      intro j b hm e ob
      apply q_M_isTable_c2
      rw [wI_id (z := (j : Int)) (by omega) (by omega)]
      refine ⟨fun c => by omega, fun _ => ⟨⟨by omega, by omega⟩, ?_⟩⟩
      rw [show (j : Int) + 1 = ((j + 1 : Nat) : Int) by omega, show (j : Int).toNat = j by omega]
      refine ih (j + 1) _ (by omega) (fun i hi => ?_) (fun o ho => by rw [hs_o _ _ _ _ _ ho]; exact ob o ho)
      rw [hs_app, if_pos rfl]
      by_cases q : i = j
      · rw [if_pos q, q]; rfl
      · rw [if_neg q]; exact e i (by omega)
  exact l1 256 0 h rfl (fun i hi => by omega) (fun _ _ => rfl)
end LEARN
