/-! a PHASE's end: sectors that differ are written, by rising numbers, till power fails -/
def dif (d w : Nat → Int) (s : Nat) : Prop := ∃ k, 64 * s ≤ k ∧ k < 64 * s + 64 ∧ d k ≠ w k
noncomputable def cn (d w : Nat → Int) : Nat → Nat
  | 0 => 0
  | s + 1 => cn d w s + @ite Nat (dif d w s) (Classical.propDecidable _) 1 0
theorem cn_pos {d w : Nat → Int} {s : Nat} (h : dif d w s) : cn d w (s + 1) = cn d w s + 1 := by rw [cn, if_pos h]
theorem cn_neg {d w : Nat → Int} {s : Nat} (h : ¬ dif d w s) : cn d w (s + 1) = cn d w s := by rw [cn, if_neg h]; rfl
theorem cn_0 {d w : Nat → Int} : ∀ {a : Nat}, (∀ s, s < a → ¬ dif d w s) → cn d w a = 0
  | 0, _ => rfl
  | a + 1, h => by rw [cn_neg (h a (by omega)), cn_0 (fun s hs => h s (by omega))]
theorem cn_mono {d w : Nat → Int} {a : Nat} : ∀ {b : Nat}, a ≤ b → cn d w a ≤ cn d w b
  | 0, h => by rw [show a = 0 by omega]; exact Nat.le_refl _
  | b + 1, h => by
    by_cases hq : a = b + 1
    · rw [hq]; exact Nat.le_refl _
    · have := cn_mono (d := d) (w := w) (show a ≤ b by omega)
      rw [cn]
      omega
theorem cn_le {d w : Nat → Int} : ∀ (s : Nat), cn d w s ≤ s
  | 0 => Nat.le_refl 0
  | s + 1 => by
    have := cn_le (d := d) (w := w) s
    rw [cn]
    split <;> omega
def mix (d w : Nat → Int) (t : Nat) : Nat → Int := fun k => if k < 64 * t then w k else d k
/-- T sectors are gone through: r 1, or power fails in sector t: r 0 -/
def Fl (T : Nat) (d w : Nat → Int) (f n : Int) (r : Int) (d' : Nat → Int) (f' n' : Int) : Prop :=
  (r = 1 ∧ (f = 0 ∨ (cn d w T : Int) < f) ∧ (∀ k, k < 13824 → d' k = mix d w T k) ∧ f' = (if f = 0 then 0 else f - cn d w T) ∧ n' = n + cn d w T) ∨
  (r = 0 ∧ ∃ t, t < T ∧ dif d w t ∧ (cn d w t : Int) + 1 = f ∧ (∀ k, k < 13824 → d' k = mix d w t k) ∧ f' = 0 ∧ n' = n + cn d w t)
theorem dif_eq {d w d2 w2 : Nat → Int} (hd : ∀ k, k < 13824 → d k = d2 k) (hw : ∀ k, k < 13824 → w k = w2 k) {s : Nat} (hs : s < 216) (h : dif d w s) : dif d2 w2 s := by
  obtain ⟨k, a, b, c⟩ := h
  exact ⟨k, a, b, by rw [← hd k (by omega), ← hw k (by omega)]; exact c⟩
theorem cn_eq {d w d2 w2 : Nat → Int} (hd : ∀ k, k < 13824 → d k = d2 k) (hw : ∀ k, k < 13824 → w k = w2 k) : ∀ {s : Nat}, s ≤ 216 → cn d w s = cn d2 w2 s
  | 0, _ => rfl
  | s + 1, h => by
    by_cases q : dif d w s
    · rw [cn_pos q, cn_pos (dif_eq hd hw (by omega) q), cn_eq hd hw (by omega)]
    · rw [cn_neg q, cn_neg (fun z => q (dif_eq (fun k hk => (hd k hk).symm) (fun k hk => (hw k hk).symm) (by omega) z)), cn_eq hd hw (by omega)]
/-- the same from the same -/
theorem Fl_det {T : Nat} {d w d2 w2 : Nat → Int} {f n r r2 f' n' f2 n2 : Int} {d' d2' : Nat → Int} (hT : T ≤ 216) (hd : ∀ k, k < 13824 → d k = d2 k) (hw : ∀ k, k < 13824 → w k = w2 k) (h1 : Fl T d w f n r d' f' n') (h2 : Fl T d2 w2 f n r2 d2' f2 n2) : r = r2 ∧ (∀ k, k < 13824 → d' k = d2' k) ∧ f' = f2 ∧ n' = n2 := by
  have mixe : ∀ t k, k < 13824 → mix d w t k = mix d2 w2 t k := fun t k hk => by
    unfold mix
    split
    · exact hw k hk
    · exact hd k hk
  rcases h1 with ⟨a1, a2, a3, a4, a5⟩ | ⟨a1, t, a2, a3, a4, a5, a6, a7⟩
  · rcases h2 with ⟨b1, b2, b3, b4, b5⟩ | ⟨b1, t2, b2, b3, b4, b5, b6, b7⟩
    · refine ⟨by rw [a1, b1], fun k hk => ?_, ?_, ?_⟩
      · rw [a3 k hk, b3 k hk, mixe T k hk]
      · rw [a4, b4, cn_eq hd hw hT]
      · rw [a5, b5, cn_eq hd hw hT]
    · exfalso
      have e1 := cn_eq hd hw hT
      have e2 := cn_mono (d := d2) (w := w2) (show t2 + 1 ≤ T by omega)
      rw [cn_pos b3] at e2
      rcases a2 with a2 | a2 <;> omega
  · rcases h2 with ⟨b1, b2, b3, b4, b5⟩ | ⟨b1, t2, b2, b3, b4, b5, b6, b7⟩
    · exfalso
      have e1 := cn_eq hd hw hT
      have e2 := cn_mono (d := d) (w := w) (show t + 1 ≤ T by omega)
      rw [cn_pos a3] at e2
      rcases b2 with b2 | b2 <;> omega
    · have e1 := cn_eq hd hw (show t ≤ 216 by omega)
      have ht : t = t2 := by
        rcases Nat.lt_trichotomy t t2 with q | q | q
        · have e2 := cn_mono (d := d2) (w := w2) (show t + 1 ≤ t2 by omega)
          rw [cn_pos (dif_eq hd hw (by omega) a3)] at e2
          omega
        · exact q
        · have e2 := cn_mono (d := d) (w := w) (show t2 + 1 ≤ t by omega)
          have e3 := cn_eq hd hw (show t2 ≤ 216 by omega)
          rw [cn_pos (dif_eq (fun k hk => (hd k hk).symm) (fun k hk => (hw k hk).symm) (by omega) b3)] at e2
          omega
      subst ht
      refine ⟨by rw [a1, b1], fun k hk => ?_, by rw [a6, b6], by rw [a7, b7, e1]⟩
      rw [a5 k hk, b5 k hk, mixe t k hk]
section FLUSH
variable {G : GG} {h : AH}
theorem hcp_app (h : AH) (a0 a1 sp dp n o k : Nat) : hcp h a0 a1 sp dp n o k = if o = a1 then (if dp ≤ k ∧ k < dp + n then h a0 (sp + (k - dp)) else h a1 k) else h o k := by
  unfold hcp; split <;> rfl
theorem hcp_o (h : AH) (a0 a1 sp dp n o : Nat) (ho : o ≠ a1) : hcp h a0 a1 sp dp n o = h o := if_neg ho
theorem D_differs {P : Int → AH → Prop} {s : Nat} (hs9 : s < 216) (h2 : By (h 2)) (h3 : By (h 3)) (H1 : dif (h 2) (h 3) s → P 1 h) (H0 : ¬ dif (h 2) (h 3) s → P 0 h) : RunsI G 66 [vR 1, vI (s : Int)] h P := by
  apply q_D_differs
  have key : ∀ (m k : Nat), k + m = 64 * s + 64 → 64 * s ≤ k → (∀ j, 64 * s ≤ j → j < k → h 2 j = h 3 j) → Go G (pI P) 66 5 [some (vR 1), some (vI (s : Int)), some (vI (k : Int))] [] h := by
    intro m
    induction m with
    | zero =>
      intro k hk hl hz
      apply q_D_differs_c5
      rw [wI_id (z := ((s : Int) + 1) * 64) (by omega) (by omega), wI_id (z := (k : Int)) (by omega) (by omega)]
      refine ⟨fun _ => ⟨Or.inl rfl, H0 ?_⟩, fun c => by omega⟩
      rintro ⟨j, a, b, c⟩
      exact c (hz j a (by omega))
    | succ m ih =>
      intro k hk hl hz
      apply q_D_differs_c5
      rw [wI_id (z := ((s : Int) + 1) * 64) (by omega) (by omega), wI_id (z := (k : Int)) (by omega) (by omega)]
      refine ⟨fun c => by omega, fun _ => ⟨fun c => by omega, fun _ => ⟨⟨by omega, by omega⟩, ⟨by omega, by omega⟩, ?_⟩⟩⟩
      have b2 := h2 k (by omega)
      have b3 := h3 k (by omega)
      rw [Int.toNat_natCast, wI_id (z := h 3 k) (by omega) (by omega), wI_id (z := h 2 k) (by omega) (by omega)]
      refine ⟨fun c => ih (k + 1) (by omega) (by omega) (fun j a b => ?_), fun c => ⟨Or.inr rfl, H1 ⟨k, hl, by omega, fun z => c z.symm⟩⟩⟩
      by_cases hj : j = k
      · rw [hj]; exact c.symm
      · exact hz j a (by omega)
  have e : (s : Int) * 64 = ((64 * s : Nat) : Int) := by omega
  rw [e]
  exact key 64 (64 * s) rfl (Nat.le_refl _) (fun j a b => by omega)
theorem D_forget {P : AH → Prop} (hd : Dk h) (H : ∀ h', Dk h' → (∀ k, k < 13824 → h' 3 k = h' 2 k) → h' 2 = h 2 → (∀ s, s < 216 → h' 4 s = 0) → h' 1 3 = 0 → (∀ k, k ≠ 3 → h' 1 k = h 1 k) → (∀ o, o ≠ 1 → o ≠ 3 → o ≠ 4 → h' o = h o) → P h') : RunsV G 67 [vR 1] h P := by
  apply q_D_forget
  have key : ∀ (m s : Nat) (g : AH), s + m = 216 → Dk g → (∀ k, k < 64 * s → g 3 k = g 2 k) → g 2 = h 2 → (∀ j, j < s → g 4 j = 0) → g 1 3 = 0 → (∀ k, k ≠ 3 → g 1 k = h 1 k) → (∀ o, o ≠ 1 → o ≠ 3 → o ≠ 4 → g o = h o) → Go G (pV P) 67 7 [some (vR 1), some (vI (s : Int))] [] g := by
    intro m
    induction m with
    | zero =>
      intro s g hm hg e3 e2 e4 f3 fr fo
      apply q_D_forget_c7
      rw [wI_id (z := (s : Int)) (by omega) (by omega)]
      exact ⟨fun _ => H g hg (fun k hk => e3 k (by omega)) e2 (fun j hj => e4 j (by omega)) f3 fr fo, fun c => by omega⟩
    | succ m ih =>
      intro s g hm hg e3 e2 e4 f3 fr fo
      apply q_D_forget_c7
      rw [wI_id (z := (s : Int)) (by omega) (by omega)]
      refine ⟨fun c => by omega, fun _ => ⟨⟨by omega, by omega⟩, ?_⟩⟩
      rw [Int.toNat_natCast]
      have t01 := hg.2.2.1 s (by omega)
      rw [wI_id (z := g 4 s) (by omega) (by omega)]
      refine ⟨fun c => ⟨⟨by omega, by omega⟩, Or.inl rfl, ?_⟩, fun c => ⟨?_, ⟨by omega, by omega⟩, Or.inl rfl, ?_⟩⟩
      · refine ih (s + 1) _ (by omega) ⟨?_, ?_, ?_, ?_⟩ ?_ ?_ ?_ ?_ ?_ ?_
        · rw [hs_o _ _ _ _ _ (by decide)]; exact hg.1
        · rw [hs_o _ _ _ _ _ (by decide)]; exact hg.2.1
        · intro j hj; rw [hs_app, if_pos rfl]; split; exact Or.inl rfl; exact hg.2.2.1 j hj
        · intro k hk h4
          rw [hs_o _ _ _ _ _ (by decide), hs_o _ _ _ _ _ (by decide)]
          rw [hs_app, if_pos rfl] at h4
          split at h4
          · rename_i hq; exact hg.2.2.2 k hk (by rw [hq]; exact c)
          · exact hg.2.2.2 k hk h4
        · intro k hk
          rw [hs_o _ _ _ _ _ (by decide), hs_o _ _ _ _ _ (by decide)]
          by_cases hq : k < 64 * s
          · exact e3 k hq
          · exact hg.2.2.2 k (by omega) (by rw [show k / 64 = s by omega]; exact c)
        · rw [hs_o _ _ _ _ _ (by decide)]; exact e2
        · intro j hj; rw [hs_app, if_pos rfl]; split; rfl; exact e4 j (by omega)
        · rw [hs_o _ _ _ _ _ (by decide)]; exact f3
        · intro k hk; rw [hs_o _ _ _ _ _ (by decide)]; exact fr k hk
        · intro o o1 o3 o4; rw [hs_o _ _ _ _ _ o4]; exact fo o o1 o3 o4
      · rw [wI_id (z := (s : Int) * 64) (by omega) (by omega)]
        omega
      · rw [wI_id (z := (s : Int) * 64) (by omega) (by omega), show ((s : Int) * 64).toNat = 64 * s by omega]
        have v3 : ∀ k, hcp g 2 3 (64 * s) (64 * s) 64 3 k = if 64 * s ≤ k ∧ k < 64 * s + 64 then g 2 k else g 3 k := by
          intro k
          rw [hcp_app, if_pos rfl]
          split
          · rw [show 64 * s + (k - 64 * s) = k by omega]
          · rfl
        refine ih (s + 1) _ (by omega) ⟨?_, ?_, ?_, ?_⟩ ?_ ?_ ?_ ?_ ?_ ?_
        · rw [hs_o _ _ _ _ _ (by decide), hcp_o _ _ _ _ _ _ _ (by decide)]; exact hg.1
        · intro k hk; rw [hs_o _ _ _ _ _ (by decide), v3]; split; exact hg.1 k hk; exact hg.2.1 k hk
        · intro j hj; rw [hs_app, if_pos rfl]; split; exact Or.inl rfl; rw [hcp_o _ _ _ _ _ _ _ (by decide)]; exact hg.2.2.1 j hj
        · intro k hk h4
          rw [hs_o _ _ _ _ _ (show (3 : Nat) ≠ 4 by decide), hs_o _ _ _ _ _ (show (2 : Nat) ≠ 4 by decide), v3, hcp_o _ _ _ _ _ _ _ (by decide)]
          rw [hs_app, if_pos rfl] at h4
          split at h4
          · rw [if_pos (by omega)]
          · rw [hcp_o _ _ _ _ _ _ _ (by decide)] at h4
            split
            · rfl
            · exact hg.2.2.2 k hk h4
        · intro k hk
          rw [hs_o _ _ _ _ _ (show (3 : Nat) ≠ 4 by decide), hs_o _ _ _ _ _ (show (2 : Nat) ≠ 4 by decide), v3, hcp_o _ _ _ _ _ _ _ (by decide)]
          split
          · rfl
          · exact e3 k (by omega)
        · rw [hs_o _ _ _ _ _ (by decide), hcp_o _ _ _ _ _ _ _ (by decide)]; exact e2
        · intro j hj; rw [hs_app, if_pos rfl]; split; rfl; rw [hcp_o _ _ _ _ _ _ _ (by decide)]; exact e4 j (by omega)
        · rw [hs_o _ _ _ _ _ (by decide), hcp_o _ _ _ _ _ _ _ (by decide)]; exact f3
        · intro k hk; rw [hs_o _ _ _ _ _ (by decide), hcp_o _ _ _ _ _ _ _ (by decide)]; exact fr k hk
        · intro o o1 o3 o4; rw [hs_o _ _ _ _ _ o4, hcp_o _ _ _ _ _ _ _ o3]; exact fo o o1 o3 o4
  refine key 216 0 _ rfl ⟨?_, ?_, ?_, ?_⟩ (fun k hk => by omega) ?_ (fun j hj => by omega) (hs_same _ _ _ _) ?_ ?_
  · rw [hs_o _ _ _ _ _ (by decide)]; exact hd.1
  · rw [hs_o _ _ _ _ _ (by decide)]; exact hd.2.1
  · rw [hs_o _ _ _ _ _ (by decide)]; exact hd.2.2.1
  · rw [hs_o _ _ _ _ _ (show (4 : Nat) ≠ 1 by decide), hs_o _ _ _ _ _ (show (3 : Nat) ≠ 1 by decide), hs_o _ _ _ _ _ (show (2 : Nat) ≠ 1 by decide)]; exact hd.2.2.2
  · rw [hs_o _ _ _ _ _ (by decide)]
  · intro k hk; rw [hs_k _ _ _ _ _ hk]
  · intro o o1 _ _; rw [hs_o _ _ _ _ _ o1]
end FLUSH
