/-! Disk.flush whole; the reference's octets: ub reads them without a sign -/
def ub (f : Nat → Int) : Nat → Int := fun k => f k % 256
def Sb (f : Nat → Int) : Prop := ∀ k, k < 13824 → -128 ≤ f k ∧ f k < 128
theorem ub_By (f : Nat → Int) : By (ub f) := fun k _ => by unfold ub; omega
theorem ub_inj {f g : Nat → Int} (hf : Sb f) (hg : Sb g) {k : Nat} (hk : k < 13824) : ub f k = ub g k ↔ f k = g k := by
  have a := hf k hk
  have b := hg k hk
  unfold ub
  omega
theorem w8_mod (v : Int) : w8 v % 256 = v % 256 := by unfold w8; omega
theorem w8_rng (v : Int) : -128 ≤ w8 v ∧ w8 v < 128 := by unfold w8; omega
theorem w8_id {v : Int} (h0 : -128 ≤ v) (h1 : v < 128) : w8 v = v := by unfold w8; omega
theorem ub_set (h : AH) (o : Nat) (x v : Int) : ub (hs h o x.toNat v o) = wr (ub (h o)) x (v % 256) := by
  funext k
  unfold ub wr
  rw [hs_app, if_pos rfl]
  split <;> rfl
theorem Sb_set {h : AH} {o : Nat} (hh : Sb (h o)) (k : Nat) {v : Int} (h0 : -128 ≤ v) (h1 : v < 128) : Sb (hs h o k v o) := by
  intro j hj
  rw [hs_app, if_pos rfl]
  split
  · exact ⟨h0, h1⟩
  · exact hh j hj
section MD
variable {G : GG} {h : AH}
/-- the class's disk between two PHASES -/
def Syn (h : AH) : Prop := Dk h ∧ (∀ k, k < 13824 → h 3 k = h 2 k) ∧ (∀ s, s < 216 → h 4 s = 0)
theorem D_flush {P : Int → AH → Prop} (hd : Dk h) (hf : 0 ≤ h 1 3 ∧ h 1 3 ≤ 1000)
    (H : ∀ r h', Fl 216 (h 2) (h 3) (h 1 3) (h 1 4) r (h' 2) (h' 1 3) (h' 1 4) → (r = 0 ∨ r = 1) → Syn h' → (r = 1 → h' 3 = h 3) → (∀ k, k ≠ 3 → k ≠ 4 → h' 1 k = h 1 k) → (∀ o, o ≠ 1 → o ≠ 2 → o ≠ 3 → o ≠ 4 → h' o = h o) → P r h') : RunsI G 64 [vR 1] h P := by
  apply q_D_flush
  refine D_flush2 (a := 0) (b := 215) hd (by omega) (by omega) hf (fun s hs9 => by omega) (fun r h' f1 f2 f3 f4 f5 f6 => ?_)
  have hr : r = 0 ∨ r = 1 := by rcases f1 with ⟨q, _⟩ | ⟨q, _⟩ <;> omega
  refine ⟨hr, H r h' f1 hr ?_ (fun q => (f3 q).1) f5 f6⟩
  rcases hr with q | q
  · exact ⟨f2, f4 q⟩
  · obtain ⟨a1, a2⟩ := f3 q
    have t0 : ∀ s, s < 216 → h' 4 s = 0 := fun s hs9 => by rw [a2 s hs9, if_pos (by omega)]
    exact ⟨f2, fun k hk => f2.2.2.2 k hk (t0 (k / 64) (by omega)), t0⟩
theorem M_in {P : Int → AH → Prop} {x y z : Int} (hx : -9223372036854775808 ≤ x ∧ x < 9223372036854775808) (hy : -9223372036854775808 ≤ y ∧ y < 9223372036854775808) (hz : -9223372036854775808 ≤ z ∧ z < 9223372036854775808) (H1 : y ≤ x → x ≤ z → P 1 h) (H0 : ¬ (y ≤ x ∧ x ≤ z) → P 0 h) : RunsI G 166 [vL x, vL y, vL z] h P := by
  apply q_M_in
  rw [wL_id hx.1 hx.2, wL_id hy.1 hy.2, wL_id hz.1 hz.2]
  exact ⟨fun c => ⟨Or.inl rfl, H0 (by omega)⟩, fun c => ⟨fun c2 => ⟨Or.inl rfl, H0 (by omega)⟩, fun c2 => ⟨Or.inr rfl, H1 (by omega) (by omega)⟩⟩⟩
/-- the loop's state of the reference at sector s -/
def MS (h : AH) (s : Nat) (g : AH) : Prop := Sb (g 35) ∧ g 36 = h 36 ∧ (∀ k, k < 13824 → ub (g 35) k = mix (ub (h 35)) (ub (h 36)) s k) ∧ (h 34 5 = 0 ∨ (cn (ub (h 35)) (ub (h 36)) s : Int) < h 34 5) ∧ g 34 5 = (if h 34 5 = 0 then 0 else h 34 5 - cn (ub (h 35)) (ub (h 36)) s) ∧ g 34 6 = h 34 6 + cn (ub (h 35)) (ub (h 36)) s ∧ (∀ k, k ≠ 5 → k ≠ 6 → g 34 k = h 34 k) ∧ (∀ o, o ≠ 34 → o ≠ 35 → g o = h o)
theorem bO01 : bO 0 0 = 0 ∧ bO 0 1 = 1 ∧ bO 1 0 = 1 ∧ bO 1 1 = 1 := by decide
theorem M_flush {P : Int → AH → Prop} (h5 : Sb (h 35)) (h6 : Sb (h 36)) (hf : 0 ≤ h 34 5 ∧ h 34 5 ≤ 1000)
    (H : ∀ r h', Fl 216 (ub (h 35)) (ub (h 36)) (h 34 5) (h 34 6) r (ub (h' 35)) (h' 34 5) (h' 34 6) → (r = 0 ∨ r = 1) → Sb (h' 35) → h' 36 = h 36 → h' 34 3 = (if r = 1 then h 34 3 else 0) → (∀ k, k ≠ 3 → k ≠ 5 → k ≠ 6 → h' 34 k = h 34 k) → (∀ o, o ≠ 34 → o ≠ 35 → h' o = h o) → P r h') : RunsI G 178 [vR 34] h P := by
  apply q_M_flush
  have key : ∀ (m s : Nat) (g : AH), s + m = 216 → MS h s g → Go G (pI P) 178 2 [some (vR 34), some (vI (s : Int)), none, none] [] g := by
    intro m
    induction m with
    | zero =>
      intro s g hm S
      obtain ⟨g1, g2, g3, g4, g5, g6, g7, g8⟩ := S
      apply q_M_flush_c2
      rw [wI_id (z := (s : Int)) (by omega) (by omega)]
      have hs9 : s = 216 := by omega
      subst hs9
      exact ⟨fun _ => ⟨Or.inr rfl, H 1 g (Or.inl ⟨rfl, g4, g3, g5, g6⟩) (Or.inr rfl) g1 g2 (by rw [if_pos rfl]; exact g7 3 (by decide) (by decide)) (fun k a b c => g7 k b c) g8⟩, fun c => by omega⟩
    | succ m ih =>
      intro s g hm S
      obtain ⟨g1, g2, g3, g4, g5, g6, g7, g8⟩ := id S
      have g36 : Sb (g 36) := by rw [g2]; exact h6
      have hdm : dif (ub (g 35)) (ub (g 36)) s ↔ dif (ub (h 35)) (ub (h 36)) s := by rw [g2]; exact dif_mix (by omega) (Nat.le_refl s) g3
      -- copying
      have cpy : ∀ (q k : Nat) (u : AH), k + q = 64 * s + 64 → 64 * s ≤ k → u 36 = h 36 → Sb (u 35) → (∀ j, j < 13824 → ub (u 35) j = if 64 * s ≤ j ∧ j < k then ub (h 36) j else mix (ub (h 35)) (ub (h 36)) s j) → (h 34 5 = 0 ∨ (cn (ub (h 35)) (ub (h 36)) (s + 1) : Int) < h 34 5) → u 34 5 = (if h 34 5 = 0 then 0 else h 34 5 - cn (ub (h 35)) (ub (h 36)) (s + 1)) → u 34 6 = h 34 6 + cn (ub (h 35)) (ub (h 36)) (s + 1) → (∀ k, k ≠ 5 → k ≠ 6 → u 34 k = h 34 k) → (∀ o, o ≠ 34 → o ≠ 35 → u o = h o) → Go G (pI P) 178 116 [some (vR 34), some (vI (s : Int)), none, some (vI (k : Int))] [] u := by
        intro q
        induction q with
        | zero =>
          intro k u hk hl u6 us u5 uf uf5 uf6 u34 uo
          apply q_M_flush_c116
          rw [wI_id (z := 64 * (s : Int) + 64) (by omega) (by omega), wI_id (z := (k : Int)) (by omega) (by omega)]
          refine ⟨fun _ => ih (s + 1) u (by omega) ⟨us, u6, fun j hj => ?_, uf, uf5, uf6, u34, uo⟩, fun c => by omega⟩
          rw [u5 j hj]
          unfold mix
          by_cases a : 64 * s ≤ j ∧ j < k
          · rw [if_pos a, if_pos (by omega)]
          · rw [if_neg a]
            by_cases a2 : j < 64 * s
            · rw [if_pos a2, if_pos (by omega)]
            · rw [if_neg a2, if_neg (by omega)]
        | succ q iq =>
          intro k u hk hl u6 us u5 uf uf5 uf6 u34 uo
          apply q_M_flush_c116
          rw [wI_id (z := 64 * (s : Int) + 64) (by omega) (by omega), wI_id (z := (k : Int)) (by omega) (by omega)]
          refine ⟨fun c => by omega, fun _ => ⟨⟨by omega, by omega⟩, ⟨by omega, by omega⟩, ?_⟩⟩
          rw [Int.toNat_natCast]
          have b6 := h6 k (by omega)
          rw [u6, w8_id b6.1 b6.2]
          refine iq (k + 1) _ (by omega) (by omega) ?_ (Sb_set us k b6.1 b6.2) ?_ uf ?_ ?_ ?_ ?_
          · rw [hs_o _ _ _ _ _ (by decide)]; exact u6
          · intro j hj
            unfold ub
            rw [hs_app, if_pos rfl]
            have u5j := u5 j hj
            unfold ub at u5j
            by_cases a : j = k
            · rw [if_pos a, if_pos (by omega), a]
            · rw [if_neg a, u5j]
              by_cases a2 : 64 * s ≤ j ∧ j < k
              · rw [if_pos a2, if_pos (by omega)]
              · rw [if_neg a2, if_neg (by omega)]
          · rw [hs_o _ _ _ _ _ (by decide)]; exact uf5
          · rw [hs_o _ _ _ _ _ (by decide)]; exact uf6
          · intro j a b; rw [hs_o _ _ _ _ _ (by decide)]; exact u34 j a b
          · intro o a b; rw [hs_o _ _ _ _ _ b]; exact uo o a b
      -- comparing
      have cmp : ∀ (q k : Nat) (fl : Int), k + q = 64 * s + 64 → 64 * s ≤ k → (fl = 0 ∧ (∀ j, 64 * s ≤ j → j < k → g 35 j = g 36 j) ∨ fl = 1 ∧ ∃ j, 64 * s ≤ j ∧ j < k ∧ g 35 j ≠ g 36 j) → Go G (pI P) 178 16 [some (vR 34), some (vI (s : Int)), some (vI fl), some (vI (k : Int))] [] g := by
        intro q
        induction q with
        | zero =>
          intro k fl hk hl hfl
          apply q_M_flush_c16
          rw [wI_id (z := 64 * (s : Int) + 64) (by omega) (by omega), wI_id (z := (k : Int)) (by omega) (by omega), wI_id (z := fl) (by omega) (by omega)]
          refine ⟨fun _ => ⟨fun c => ?_, fun c => ?_⟩, fun c => by omega⟩
          · have nd : ¬ dif (ub (h 35)) (ub (h 36)) s := by
              intro z
              obtain ⟨j, a, b, d⟩ := hdm.mpr z
              rcases hfl with ⟨_, e⟩ | ⟨e, _⟩
              · exact d ((ub_inj g1 g36 (by omega)).mpr (e j a (by omega)))
              · omega
            have ecn := cn_neg nd
            refine ih (s + 1) g (by omega) ⟨g1, g2, fun j hj => ?_, by rw [ecn]; exact g4, by rw [ecn]; exact g5, by rw [ecn]; exact g6, g7, g8⟩
            rw [g3 j hj]
            unfold mix
            by_cases a : j < 64 * s
            · rw [if_pos a, if_pos (by omega)]
            · rw [if_neg a]
              by_cases a2 : j < 64 * (s + 1)
              · rw [if_pos a2]
                exact Classical.byContradiction (fun z => nd ⟨j, by omega, by omega, z⟩)
              · rw [if_neg a2]
          · have df : dif (ub (h 35)) (ub (h 36)) s := by
              rcases hfl with ⟨e, _⟩ | ⟨_, j, a, b, d⟩
              · omega
              · exact hdm.mp ⟨j, a, by omega, fun z => d ((ub_inj g1 g36 (by omega)).mp z)⟩
            have ecn := cn_pos df
            have hle := cn_le (d := ub (h 35)) (w := ub (h 36)) s
            have frng : -2147483648 ≤ g 34 5 ∧ g 34 5 < 2147483648 := by rw [g5]; split <;> omega
            rw [wI_id frng.1 frng.2]
            have e64 : (64 * (s : Int)) = ((64 * s : Nat) : Int) := by omega
            refine ⟨fun c1 => ⟨Or.inl rfl, Or.inl rfl, H 0 _ (Or.inr ⟨rfl, s, by omega, df, ?_, ?_, ?_, ?_⟩) (Or.inl rfl) ?_ ?_ ?_ ?_ ?_⟩, fun c1 => ⟨fun c2 => ?_, fun c2 => ?_⟩⟩
            · rw [g5] at c1; split at c1 <;> omega
            · intro k hk; rw [hs_o _ _ _ _ _ (by decide), hs_o _ _ _ _ _ (by decide)]; exact g3 k hk
            · rw [hs_k _ _ _ _ _ (by decide), hs_same]
            · rw [hs_k _ _ _ _ _ (by decide), hs_k _ _ _ _ _ (by decide)]; exact g6
            · rw [hs_o _ _ _ _ _ (by decide), hs_o _ _ _ _ _ (by decide)]; exact g1
            · rw [hs_o _ _ _ _ _ (by decide), hs_o _ _ _ _ _ (by decide)]; exact g2
            · rw [hs_same, if_neg (by decide)]
            · intro k a b d; rw [hs_k _ _ _ _ _ a, hs_k _ _ _ _ _ b]; exact g7 k b d
            · intro o a b; rw [hs_o _ _ _ _ _ a, hs_o _ _ _ _ _ a]; exact g8 o a b
            · have f0 : h 34 5 = 0 := by
                rw [g5] at c1 c2
                split at c2
                · assumption
                · rename_i hne
                  rw [if_neg hne] at c1
                  rcases g4 with q | q <;> omega
              rw [e64]
              refine cpy 64 (64 * s) _ rfl (Nat.le_refl _) ?_ ?_ ?_ (Or.inl f0) ?_ ?_ ?_ ?_
              · rw [hs_o _ _ _ _ _ (by decide), hs_o _ _ _ _ _ (by decide)]; exact g2
              · rw [hs_o _ _ _ _ _ (by decide), hs_o _ _ _ _ _ (by decide)]; exact g1
              · intro j hj; rw [hs_o _ _ _ _ _ (by decide), hs_o _ _ _ _ _ (by decide), g3 j hj, if_neg (by omega)]
              · rw [hs_k _ _ _ _ _ (by decide), hs_same, g5, if_pos f0, if_pos f0]; rfl
              · rw [hs_same, hs_k _ _ _ _ _ (by decide), g6, ecn]; push_cast; omega
              · intro k a b; rw [hs_k _ _ _ _ _ b, hs_k _ _ _ _ _ a]; exact g7 k a b
              · intro o a b; rw [hs_o _ _ _ _ _ a, hs_o _ _ _ _ _ a]; exact g8 o a b
            · have f1 : ¬ h 34 5 = 0 := by
                intro z
                rw [g5, if_pos z] at c2
                omega
              rw [g5, if_neg f1] at c1
              rw [e64]
              refine cpy 64 (64 * s) _ rfl (Nat.le_refl _) ?_ ?_ ?_ (Or.inr ?_) ?_ ?_ ?_ ?_
              · rw [hs_o _ _ _ _ _ (by decide), hs_o _ _ _ _ _ (by decide)]; exact g2
              · rw [hs_o _ _ _ _ _ (by decide), hs_o _ _ _ _ _ (by decide)]; exact g1
              · intro j hj; rw [hs_o _ _ _ _ _ (by decide), hs_o _ _ _ _ _ (by decide), g3 j hj, if_neg (by omega)]
              · rcases g4 with q | q
                · exact absurd q f1
                · rw [ecn]; push_cast; omega
              · rw [hs_k _ _ _ _ _ (by decide), hs_same, g5, if_neg f1, if_neg f1, ecn]; push_cast; omega
              · rw [hs_same, hs_k _ _ _ _ _ (by decide), g6, ecn]; push_cast; omega
              · intro k a b; rw [hs_k _ _ _ _ _ b, hs_k _ _ _ _ _ a]; exact g7 k a b
              · intro o a b; rw [hs_o _ _ _ _ _ a, hs_o _ _ _ _ _ a]; exact g8 o a b
        | succ q iq =>
          intro k fl hk hl hfl
          apply q_M_flush_c16
          rw [wI_id (z := 64 * (s : Int) + 64) (by omega) (by omega), wI_id (z := (k : Int)) (by omega) (by omega)]
          refine ⟨fun c => by omega, fun _ => ⟨⟨by omega, by omega⟩, ⟨by omega, by omega⟩, ?_⟩⟩
          rw [Int.toNat_natCast]
          have b5 := g1 k (by omega)
          have b6 := g36 k (by omega)
          rw [wI_id (z := g 35 k) (by omega) (by omega), wI_id (z := g 36 k) (by omega) (by omega)]
          refine ⟨fun c => ?_, fun c => ?_⟩
          · have e : bO fl 0 = fl := by
              rcases hfl with ⟨q, _⟩ | ⟨q, _⟩ <;> rw [q]
              · exact bO01.1
              · exact bO01.2.2.1
            rw [e]
            refine iq (k + 1) fl (by omega) (by omega) ?_
            rcases hfl with ⟨q, z⟩ | ⟨q, j, a, b, d⟩
            · refine Or.inl ⟨q, fun j a b => ?_⟩
              by_cases hj : j = k
              · rw [hj]; exact c
              · exact z j a (by omega)
            · exact Or.inr ⟨q, j, a, by omega, d⟩
          · have e : bO fl 1 = 1 := by
              rcases hfl with ⟨q, _⟩ | ⟨q, _⟩ <;> rw [q]
              · exact bO01.2.1
              · exact bO01.2.2.2
            rw [e]
            exact iq (k + 1) 1 (by omega) (by omega) (Or.inr ⟨rfl, k, hl, by omega, c⟩)
      apply q_M_flush_c2
      rw [wI_id (z := (s : Int)) (by omega) (by omega)]
      refine ⟨fun c => by omega, fun _ => ?_⟩
      have e64 : (64 * (s : Int)) = ((64 * s : Nat) : Int) := by omega
      rw [e64]
      exact cmp 64 (64 * s) 0 rfl (Nat.le_refl _) (Or.inl ⟨rfl, fun j a b => by omega⟩)
  refine key 216 0 h rfl ⟨h5, rfl, fun k hk => ?_, ?_, ?_, ?_, fun _ _ _ => rfl, fun _ _ _ => rfl⟩
  · unfold mix; rw [if_neg (by omega)]
  · show h 34 5 = 0 ∨ ((0 : Nat) : Int) < h 34 5; omega
  · show h 34 5 = (if h 34 5 = 0 then 0 else h 34 5 - ((0 : Nat) : Int)); split <;> omega
  · show h 34 6 = h 34 6 + ((0 : Nat) : Int); omega
end MD
