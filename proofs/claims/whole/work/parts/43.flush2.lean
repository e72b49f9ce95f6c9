/-! Disk.flush, settle, wipe; the reference's flush and beginWrite -/
section FLUSH2
variable {G : GG} {h : AH}
theorem mm_0 (x y : Int) : mm 0 x y = if wI x < wI y then y else x := rfl
theorem mm_1 (x y : Int) : mm 1 x y = if wI y < wI x then y else x := rfl
/-- the loop's state at sector s -/
def FS (h : AH) (a s : Nat) (g : AH) : Prop := Dk g ∧ g 3 = h 3 ∧ (∀ k, k < 13824 → g 2 k = mix (h 2) (h 3) s k) ∧ (∀ j, j < 216 → g 4 j = if a ≤ j ∧ j < s then 0 else h 4 j) ∧ (h 1 3 = 0 ∨ (cn (h 2) (h 3) s : Int) < h 1 3) ∧ g 1 3 = (if h 1 3 = 0 then 0 else h 1 3 - cn (h 2) (h 3) s) ∧ g 1 4 = h 1 4 + cn (h 2) (h 3) s ∧ (∀ k, k ≠ 3 → k ≠ 4 → g 1 k = h 1 k) ∧ (∀ o, o ≠ 1 → o ≠ 2 → o ≠ 3 → o ≠ 4 → g o = h o)
theorem dif_mix {d w g : Nat → Int} {s t : Nat} (hs9 : s < 216) (ht : t ≤ s) (hg : ∀ k, k < 13824 → g k = mix d w t k) : dif g w s ↔ dif d w s := by
  constructor
  · rintro ⟨k, a, b, c⟩
    refine ⟨k, a, b, ?_⟩
    rw [hg k (by omega)] at c
    unfold mix at c
    rw [if_neg (by omega)] at c
    exact c
  · rintro ⟨k, a, b, c⟩
    refine ⟨k, a, b, ?_⟩
    rw [hg k (by omega)]
    unfold mix
    rw [if_neg (by omega)]
    exact c
theorem D_flush2 {P : Int → AH → Prop} {a b : Nat} (hd : Dk h) (hab : a ≤ b + 1) (hb : b ≤ 215) (hf : 0 ≤ h 1 3 ∧ h 1 3 ≤ 1000) (hz : ∀ s, s < a → ¬ dif (h 2) (h 3) s)
    (H : ∀ r h', Fl (b + 1) (h 2) (h 3) (h 1 3) (h 1 4) r (h' 2) (h' 1 3) (h' 1 4) → Dk h' → (r = 1 → h' 3 = h 3 ∧ (∀ j, j < 216 → h' 4 j = if a ≤ j ∧ j ≤ b then 0 else h 4 j)) → (r = 0 → (∀ k, k < 13824 → h' 3 k = h' 2 k) ∧ (∀ s, s < 216 → h' 4 s = 0)) → (∀ k, k ≠ 3 → k ≠ 4 → h' 1 k = h 1 k) → (∀ o, o ≠ 1 → o ≠ 2 → o ≠ 3 → o ≠ 4 → h' o = h o) → P r h') : RunsI G 65 [vR 1, vI (a : Int), vI (b : Int)] h P := by
  apply q_D_flush2
  have ea : mm 0 (a : Int) 0 = (a : Int) := by
    rw [mm_0, wI_0, wI_id (z := (a : Int)) (by omega) (by omega), if_neg (by omega)]
  rw [ea]
  have key : ∀ (m s : Nat) (g : AH), s + m = b + 1 → a ≤ s → FS h a s g → Go G (pI P) 65 6 [some (vR 1), none, some (vI (b : Int)), some (vI (s : Int))] [] g := by
    intro m
    induction m with
    | zero =>
      intro s g hm has S
      obtain ⟨g1, g2, g3, g4, g5, g6, g7, g8, g9⟩ := S
      apply q_D_flush2_c6
      rw [wI_id (z := (b : Int)) (by omega) (by omega), wI_id (z := (s : Int)) (by omega) (by omega)]
      have hsb : s = b + 1 := by omega
      subst hsb
      refine ⟨fun _ => ⟨Or.inr rfl, H 1 g (Or.inl ⟨rfl, g5, g3, g6, g7⟩) g1 (fun _ => ⟨g2, fun j hj => ?_⟩) (fun c => absurd c (by decide)) g8 g9⟩, fun c => by omega⟩
      rw [g4 j hj]
      by_cases q : a ≤ j ∧ j ≤ b
      · rw [if_pos q, if_pos (by omega)]
      · rw [if_neg q, if_neg (by omega)]
    | succ m ih =>
      intro s g hm has S
      obtain ⟨g1, g2, g3, g4, g5, g6, g7, g8, g9⟩ := id S
      have hdm : dif (g 2) (g 3) s ↔ dif (h 2) (h 3) s := by rw [g2]; exact dif_mix (by omega) (Nat.le_refl s) g3
      -- the sector is as it is wanted: on to the next one
      have same : ¬ dif (h 2) (h 3) s → Go G (pI P) 65 6 [some (vR 1), none, some (vI (b : Int)), some (vI ((s : Int) + 1))] [] (hs g 4 s 0) := by
        intro nd
        have ecn := cn_neg nd
        have emx : ∀ k, k < 13824 → mix (h 2) (h 3) s k = mix (h 2) (h 3) (s + 1) k := by
          intro k hk
          unfold mix
          by_cases q : k < 64 * s
          · rw [if_pos q, if_pos (by omega)]
          · rw [if_neg q]
            by_cases q2 : k < 64 * (s + 1)
            · rw [if_pos q2]
              exact Classical.byContradiction (fun z => nd ⟨k, by omega, by omega, z⟩)
            · rw [if_neg q2]
        refine ih (s + 1) _ (by omega) (by omega) ⟨⟨?_, ?_, ?_, ?_⟩, ?_, ?_, ?_, ?_, ?_, ?_, ?_, ?_⟩
        · rw [hs_o _ _ _ _ _ (by decide)]; exact g1.1
        · rw [hs_o _ _ _ _ _ (by decide)]; exact g1.2.1
        · intro j hj; rw [hs_app, if_pos rfl]; split; exact Or.inl rfl; exact g1.2.2.1 j hj
        · intro k hk h4
          rw [hs_o _ _ _ _ _ (by decide), hs_o _ _ _ _ _ (by decide)]
          rw [hs_app, if_pos rfl] at h4
          split at h4
          · rename_i hq
            exact Classical.byContradiction (fun z => nd (hdm.mp ⟨k, by omega, by omega, fun y => z y.symm⟩))
          · exact g1.2.2.2 k hk h4
        · rw [hs_o _ _ _ _ _ (by decide)]; exact g2
        · intro k hk; rw [hs_o _ _ _ _ _ (by decide), g3 k hk, emx k hk]
        · intro j hj
          rw [hs_app, if_pos rfl]
          by_cases q : j = s
          · rw [if_pos q, if_pos (by omega)]
          · rw [if_neg q, g4 j hj]
            by_cases q2 : a ≤ j ∧ j < s
            · rw [if_pos q2, if_pos (by omega)]
            · rw [if_neg q2, if_neg (by omega)]
        · rw [ecn]; exact g5
        · rw [hs_o _ _ _ _ _ (by decide), ecn]; exact g6
        · rw [hs_o _ _ _ _ _ (by decide), ecn]; exact g7
        · intro k p q; rw [hs_o _ _ _ _ _ (by decide)]; exact g8 k p q
        · intro o p q r t; rw [hs_o _ _ _ _ _ t]; exact g9 o p q r t
      apply q_D_flush2_c6
      rw [wI_id (z := (b : Int)) (by omega) (by omega), wI_id (z := (s : Int)) (by omega) (by omega)]
      refine ⟨fun c => by omega, fun _ => ⟨fun c => by omega, fun _ => ⟨⟨by omega, by omega⟩, ?_⟩⟩⟩
      rw [Int.toNat_natCast]
      have t01 := g1.2.2.1 s (by omega)
      rw [wI_id (z := g 4 s) (by omega) (by omega)]
      refine ⟨fun c => ⟨⟨by omega, by omega⟩, Or.inl rfl, same ?_⟩, fun c => ?_⟩
      · intro z
        obtain ⟨k, p, q, r⟩ := hdm.mpr z
        exact r (g1.2.2.2 k (by omega) (by rw [show k / 64 = s by omega]; exact c)).symm
      · refine D_differs (by omega) g1.1 g1.2.1 (fun df => ?_) (fun nd => ?_)
        · refine ⟨fun c => absurd c (by decide), fun _ => ?_⟩
          have df0 := hdm.mp df
          have ecn := cn_pos df0
          have hle := cn_le (d := h 2) (w := h 3) s
          have frng : -2147483648 ≤ g 1 3 ∧ g 1 3 < 2147483648 := by rw [g6]; split <;> omega
          rw [wI_id frng.1 frng.2]
          refine ⟨fun c1 => ?_, fun c1 => ?_⟩
          · -- power fails here
            refine D_forget g1 (fun h2 k1 k2 k3 k4 k5 k6 k7 => ⟨Or.inl rfl, H 0 h2 (Or.inr ⟨rfl, s, by omega, df0, ?_, ?_, k5, ?_⟩) k1 (fun c => absurd c (by decide)) (fun _ => ⟨k2, k4⟩) (fun k p q => by rw [k6 k p]; exact g8 k p q) (fun o p q r t => by rw [k7 o p r t]; exact g9 o p q r t)⟩)
            · rw [g6] at c1
              split at c1 <;> omega
            · intro k hk; rw [k3]; exact g3 k hk
            · rw [k6 4 (by decide)]; exact g7
          · -- it is written
            have e64 : ((s : Int) * 64).toNat = 64 * s := by omega
            have hgd : (0 ≤ wI ((s : Int) * 64) ∧ 0 ≤ wI ((s : Int) * 64) ∧ 0 ≤ (64 : Int) ∧ wI ((s : Int) * 64) + (64 : Int) ≤ 13824 ∧ wI ((s : Int) * 64) + (64 : Int) ≤ 13824) := by
              rw [wI_id (z := (s : Int) * 64) (by omega) (by omega)]
              omega
            have emx : ∀ k, k < 13824 → (if 64 * s ≤ k ∧ k < 64 * s + 64 then h 3 k else mix (h 2) (h 3) s k) = mix (h 2) (h 3) (s + 1) k := by
              intro k hk
              unfold mix
              by_cases q : 64 * s ≤ k ∧ k < 64 * s + 64
              · rw [if_pos q, if_pos (by omega)]
              · rw [if_neg q]
                by_cases q2 : k < 64 * s
                · rw [if_pos q2, if_pos (by omega)]
                · rw [if_neg q2, if_neg (by omega)]
            -- what both ways of counting lead to
            have wrt : ∀ (g' : AH), g' 3 = g 3 → g' 4 = g 4 → (∀ k, k < 13824 → g' 2 k = if 64 * s ≤ k ∧ k < 64 * s + 64 then h 3 k else g 2 k) → (h 1 3 = 0 ∨ (cn (h 2) (h 3) (s + 1) : Int) < h 1 3) → g' 1 3 = (if h 1 3 = 0 then 0 else h 1 3 - cn (h 2) (h 3) (s + 1)) → g' 1 4 = g 1 4 + 1 → (∀ k, k ≠ 3 → k ≠ 4 → g' 1 k = g 1 k) → (∀ o, o ≠ 1 → o ≠ 2 → o ≠ 3 → o ≠ 4 → g' o = g o) → Go G (pI P) 65 6 [some (vR 1), none, some (vI (b : Int)), some (vI ((s : Int) + 1))] [] (hs g' 4 s 0) := by
              intro g' q3 q4 q2 qf q13 q14 q1 qo
              have v2 : ∀ k, k < 13824 → g' 2 k = mix (h 2) (h 3) (s + 1) k := by
                intro k hk
                rw [q2 k hk, ← emx k hk, g3 k hk]
              refine ih (s + 1) _ (by omega) (by omega) ⟨⟨?_, ?_, ?_, ?_⟩, ?_, ?_, ?_, ?_, ?_, ?_, ?_, ?_⟩
              · intro k hk
                rw [hs_o _ _ _ _ _ (by decide), q2 k hk]
                split
                · exact hd.2.1 k hk
                · exact g1.1 k hk
              · rw [hs_o _ _ _ _ _ (by decide), q3]; exact g1.2.1
              · intro j hj; rw [hs_app, if_pos rfl]; split; exact Or.inl rfl; rw [q4]; exact g1.2.2.1 j hj
              · intro k hk h4
                rw [hs_o _ _ _ _ _ (show (3 : Nat) ≠ 4 by decide), hs_o _ _ _ _ _ (show (2 : Nat) ≠ 4 by decide), q2 k hk, q3, g2]
                rw [hs_app, if_pos rfl] at h4
                split at h4
                · rw [if_pos (by omega)]
                · split
                  · rfl
                  · rw [q4] at h4
                    rw [← g2]
                    exact g1.2.2.2 k hk h4
              · rw [hs_o _ _ _ _ _ (by decide), q3]; exact g2
              · intro k hk; rw [hs_o _ _ _ _ _ (by decide)]; exact v2 k hk
              · intro j hj
                rw [hs_app, if_pos rfl, q4]
                by_cases q : j = s
                · rw [if_pos q, if_pos (by omega)]
                · rw [if_neg q, g4 j hj]
                  by_cases q2 : a ≤ j ∧ j < s
                  · rw [if_pos q2, if_pos (by omega)]
                  · rw [if_neg q2, if_neg (by omega)]
              · exact qf
              · rw [hs_o _ _ _ _ _ (by decide)]; exact q13
              · rw [hs_o _ _ _ _ _ (by decide), q14, g7, ecn]; push_cast; omega
              · intro k p q; rw [hs_o _ _ _ _ _ (by decide), q1 k p q]; exact g8 k p q
              · intro o p q r t; rw [hs_o _ _ _ _ _ t, qo o p q r t]; exact g9 o p q r t
            have cp2 : ∀ (u : AH), u 3 = h 3 → (∀ k, k < 13824 → u 2 k = g 2 k) → ∀ k, k < 13824 → hcp u 3 2 (64 * s) (64 * s) 64 2 k = if 64 * s ≤ k ∧ k < 64 * s + 64 then h 3 k else g 2 k := by
              intro u u3 u2 k hk
              rw [hcp_app, if_pos rfl, u3]
              split
              · rw [show 64 * s + (k - 64 * s) = k by omega]
              · exact u2 k hk
            refine ⟨fun c2 => ⟨hgd, ⟨by omega, by omega⟩, Or.inl rfl, ?_⟩, fun c2 => ⟨hgd, ⟨by omega, by omega⟩, Or.inl rfl, ?_⟩⟩
            · rw [wI_id (z := (s : Int) * 64) (by omega) (by omega), e64]
              have f0 : h 1 3 = 0 := by
                rw [g6] at c1 c2
                split at c2
                · assumption
                · rename_i hne
                  rw [if_neg hne] at c1
                  rcases g5 with q | q <;> omega
              refine wrt _ ?_ ?_ ?_ (Or.inl f0) ?_ ?_ ?_ ?_
              · rw [hs_o _ _ _ _ _ (by decide), hcp_o _ _ _ _ _ _ _ (by decide)]
              · rw [hs_o _ _ _ _ _ (by decide), hcp_o _ _ _ _ _ _ _ (by decide)]
              · intro k hk; rw [hs_o _ _ _ _ _ (by decide)]; exact cp2 g g2 (fun _ _ => rfl) k hk
              · rw [hs_k _ _ _ _ _ (by decide), hcp_o _ _ _ _ _ _ _ (by decide), g6, if_pos f0, if_pos f0]
              · rw [hs_same, hcp_o _ _ _ _ _ _ _ (by decide)]
              · intro k p q; rw [hs_k _ _ _ _ _ q, hcp_o _ _ _ _ _ _ _ (by decide)]
              · intro o p q r t; rw [hs_o _ _ _ _ _ p, hcp_o _ _ _ _ _ _ _ q]
            · rw [wI_id (z := (s : Int) * 64) (by omega) (by omega), e64]
              have f1 : ¬ h 1 3 = 0 := by
                intro z
                rw [g6, if_pos z] at c2
                omega
              rw [g6, if_neg f1] at c1
              refine wrt _ ?_ ?_ ?_ (Or.inr ?_) ?_ ?_ ?_ ?_
              · rw [hs_o _ _ _ _ _ (by decide), hcp_o _ _ _ _ _ _ _ (by decide), hs_o _ _ _ _ _ (by decide)]
              · rw [hs_o _ _ _ _ _ (by decide), hcp_o _ _ _ _ _ _ _ (by decide), hs_o _ _ _ _ _ (by decide)]
              · intro k hk; rw [hs_o _ _ _ _ _ (by decide)]; exact cp2 _ (by rw [hs_o _ _ _ _ _ (by decide)]; exact g2) (fun k _ => by rw [hs_o _ _ _ _ _ (by decide)]) k hk
              · rcases g5 with q | q
                · exact absurd q f1
                · rw [ecn]; push_cast; omega
              · rw [hs_k _ _ _ _ _ (by decide), hcp_o _ _ _ _ _ _ _ (by decide), hs_same, g6, if_neg f1, if_neg f1, ecn]; push_cast; omega
              · rw [hs_same, hcp_o _ _ _ _ _ _ _ (by decide), hs_k _ _ _ _ _ (by decide)]
              · intro k p q; rw [hs_k _ _ _ _ _ q, hcp_o _ _ _ _ _ _ _ (by decide), hs_k _ _ _ _ _ p]
              · intro o p q r t; rw [hs_o _ _ _ _ _ p, hcp_o _ _ _ _ _ _ _ q, hs_o _ _ _ _ _ p]
        · exact ⟨fun _ => ⟨⟨by omega, by omega⟩, Or.inl rfl, same (fun z => nd (hdm.mpr z))⟩, fun c => absurd (by decide) c⟩
  have hc0 := cn_0 hz
  refine key (b + 1 - a) a h (by omega) (Nat.le_refl _) ⟨hd, rfl, ?_, ?_, ?_, ?_, ?_, fun _ _ _ => rfl, fun _ _ _ _ _ => rfl⟩
  · intro k hk
    unfold mix
    split
    · exact Classical.byContradiction (fun z => hz (k / 64) (by omega) ⟨k, by omega, by omega, z⟩)
    · rfl
  · intro j hj; rw [if_neg (by omega)]
  · rw [hc0]; omega
  · rw [hc0]; split <;> omega
  · rw [hc0]; omega
end FLUSH2
