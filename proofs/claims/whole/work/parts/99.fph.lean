/-! phases, one behind another -/
def Ph : (Nat → Int) → List (Nat → Int) → Int → Int → Int → (Nat → Int) → Int → Int → Prop
  | f, [], fi, ni, r, d', f', n' => r = 1 ∧ (∀ k, k < 13824 → d' k = f k) ∧ f' = fi ∧ n' = ni
  | f, w :: ws, fi, ni, r, d', f', n' => (r = 0 ∧ Fl 216 f w fi ni 0 d' f' n') ∨ ∃ d1 f1 n1, Fl 216 f w fi ni 1 d1 f1 n1 ∧ Ph w ws f1 n1 r d' f' n'
theorem Ph_f : ∀ {ws : List (Nat → Int)} {f : Nat → Int} {fi ni r f' n' : Int} {d' : Nat → Int}, (0 ≤ fi ∧ fi ≤ 1000) → Ph f ws fi ni r d' f' n' → (0 ≤ f' ∧ f' ≤ 1000) ∧ (r = 0 ∨ r = 1)
  | [], _, _, _, _, _, _, _, hf, p => by
    obtain ⟨a, _, b, _⟩ := p
    exact ⟨by rw [b]; exact hf, Or.inr a⟩
  | _ :: _, _, _, _, _, _, _, _, hf, p => by
    rcases p with ⟨a, b⟩ | ⟨_, _, _, a, b⟩
    · exact ⟨Fl_f hf b, Or.inl a⟩
    · exact Ph_f (Fl_f hf a) b
section PH
variable {G : GG} {h : AH}
theorem D_step {P : Int → AH → Prop} {f w : Nat → Int} {ws : List (Nat → Int)} {Q : Int → (Nat → Int) → Int → Int → Prop} (hd : Dk h) (bd : ∀ k, k < 13824 → h 2 k = f k) (h3 : h 3 = w) (hf : 0 ≤ h 1 3 ∧ h 1 3 ≤ 1000) (pc : ∀ r d' f' n', Ph f (w :: ws) (h 1 3) (h 1 4) r d' f' n' → Q r d' f' n')
    (H0 : ∀ h', Q 0 (h' 2) (h' 1 3) (h' 1 4) → Syn h' → (∀ o, ¬ (1 ≤ o ∧ o ≤ 4) → h' o = h o) → P 0 h')
    (H1 : ∀ h', (∀ r d' f' n', Ph w ws (h' 1 3) (h' 1 4) r d' f' n' → Q r d' f' n') → Syn h' → h' 3 = w → (∀ k, k < 13824 → h' 2 k = w k) → (0 ≤ h' 1 3 ∧ h' 1 3 ≤ 1000) → (∀ o, ¬ (1 ≤ o ∧ o ≤ 4) → h' o = h o) → P 1 h') : RunsI G 64 [vR 1] h P := by
  refine D_flush hd hf (fun r c fl r01 syc e3 kc oc => ?_)
  rw [h3] at fl e3
  have fl' := Fl_cg (Nat.le_refl _) bd (fun _ _ => rfl) fl
  have oo : ∀ o, ¬ (1 ≤ o ∧ o ≤ 4) → c o = h o := fun o p => oc o (by omega) (by omega) (by omega) (by omega)
  rcases r01 with z | z
  · subst z
    exact H0 c (pc _ _ _ _ (Or.inl ⟨rfl, fl'⟩)) syc oo
  · subst z
    exact H1 c (fun r d' f' n' p => pc _ _ _ _ (Or.inr ⟨_, _, _, fl', p⟩)) syc (e3 rfl) (Fl_1 fl') (Fl_f hf fl') oo
theorem A_soilS {P : Int → AH → Prop} {f : Nat → Int} {ws : List (Nat → Int)} {Q : Int → (Nat → Int) → Int → Int → Prop} (sy : Syn h) (h3 : h 3 = f) (hf : 0 ≤ h 1 3 ∧ h 1 3 ≤ 1000) (pc : ∀ r d' f' n', Ph f (so1 f :: ws) (h 1 3) (h 1 4) r d' f' n' → Q r d' f' n')
    (H0 : ∀ h', Q 0 (h' 2) (h' 1 3) (h' 1 4) → Syn h' → (∀ o, ¬ (1 ≤ o ∧ o ≤ 4) → h' o = h o) → P 0 h')
    (H1 : ∀ h', (∀ r d' f' n', Ph (so1 f) ws (h' 1 3) (h' 1 4) r d' f' n' → Q r d' f' n') → Syn h' → h' 3 = so1 f → (∀ k, k < 13824 → h' 2 k = so1 f k) → (0 ≤ h' 1 3 ∧ h' 1 3 ≤ 1000) → (∀ o, ¬ (1 ≤ o ∧ o ≤ 4) → h' o = h o) → P 1 h') : RunsI G 12 [vR 26] h P := by
  refine A_soil sy hf (fun r c fl r01 syc e3 kc oc => ?_)
  rw [h3] at fl e3
  have oo : ∀ o, ¬ (1 ≤ o ∧ o ≤ 4) → c o = h o := fun o p => oc o (by omega) (by omega) (by omega) (by omega)
  rcases r01 with z | z
  · subst z
    exact H0 c (pc _ _ _ _ (Or.inl ⟨rfl, fl⟩)) syc oo
  · subst z
    exact H1 c (fun r d' f' n' p => pc _ _ _ _ (Or.inr ⟨_, _, _, fl, p⟩)) syc (e3 rfl) (Fl_1 fl) (Fl_f hf fl) oo
theorem M_flS {P : Int → AH → Prop} {f w d' : Nat → Int} {ws : List (Nat → Int)} {r f' n' : Int} (h5 : Sb (h 35)) (h6 : Sb (h 36)) (hE : E (ub (h 35)) f) (hW : E (ub (h 36)) w) (hf : 0 ≤ h 34 5 ∧ h 34 5 ≤ 1000) (ph : Ph f (w :: ws) (h 34 5) (h 34 6) r d' f' n')
    (H0 : ∀ b, r = 0 → Sb (b 35) → b 36 = h 36 → (∀ k, k < 13824 → ub (b 35) k = d' k) → b 34 5 = f' → b 34 6 = n' → b 34 3 = 0 → (∀ k, k ≠ 3 → k ≠ 5 → k ≠ 6 → b 34 k = h 34 k) → (∀ o, o ≠ 34 → o ≠ 35 → b o = h o) → P 0 b)
    (H1 : ∀ b, Ph w ws (b 34 5) (b 34 6) r d' f' n' → Sb (b 35) → b 36 = h 36 → E (ub (b 35)) w → (0 ≤ b 34 5 ∧ b 34 5 ≤ 1000) → (∀ k, k ≠ 5 → k ≠ 6 → b 34 k = h 34 k) → (∀ o, o ≠ 34 → o ≠ 35 → b o = h o) → P 1 b) : RunsI G 178 [vR 34] h P := by
  refine M_flush h5 h6 hf (fun r1 c fl r01 c5 c6 c3 ck oc => ?_)
  rcases ph with ⟨rv, fl0⟩ | ⟨d1, f1, n1, fl1, ph⟩
  · obtain ⟨t1, t2, t3, t4⟩ := Fl_det (Nat.le_refl _) hE hW fl fl0
    subst t1
    exact H0 c rv c5 c6 t2 t3 t4 (by rw [c3, if_neg (by decide)]) ck oc
  · obtain ⟨t1, t2, t3, t4⟩ := Fl_det (Nat.le_refl _) hE hW fl fl1
    subst t1
    refine H1 c (by rw [t3, t4]; exact ph) c5 c6 (fun k hk => (t2 k hk).trans (Fl_1 fl1 k hk)) (by rw [t3]; exact Fl_f hf fl1) (fun k p q => ?_) oc
    by_cases z : k = 3
    · rw [z, c3, if_pos rfl]
    · exact ck k z p q
theorem M_dirtyS {P : Int → AH → Prop} {f d' : Nat → Int} {ws : List (Nat → Int)} {r f' n' : Int} (h5 : Sb (h 35)) (h6 : Sb (h 36)) (hE : E (ub (h 35)) f) (hW : E (ub (h 36)) f) (hf : 0 ≤ h 34 5 ∧ h 34 5 ≤ 1000) (ph : Ph f (so1 f :: ws) (h 34 5) (h 34 6) r d' f' n')
    (H0 : ∀ b, r = 0 → Sb (b 35) → Sb (b 36) → (∀ k, k < 13824 → ub (b 35) k = d' k) → b 34 5 = f' → b 34 6 = n' → b 34 3 = 0 → (∀ k, k ≠ 3 → k ≠ 5 → k ≠ 6 → b 34 k = h 34 k) → (∀ o, o ≠ 34 → o ≠ 35 → o ≠ 36 → b o = h o) → P 0 b)
    (H1 : ∀ b, Ph (so1 f) ws (b 34 5) (b 34 6) r d' f' n' → Sb (b 35) → Sb (b 36) → E (ub (b 35)) (so1 f) → E (ub (b 36)) (so1 f) → (0 ≤ b 34 5 ∧ b 34 5 ≤ 1000) → (∀ k, k ≠ 5 → k ≠ 6 → b 34 k = h 34 k) → (∀ o, o ≠ 34 → o ≠ 35 → o ≠ 36 → b o = h o) → P 1 b) : RunsI G 179 [vR 34] h P := by
  refine M_dirty h5 h6 hE hW hf (fun r1 c fl r01 c5 c6 cW c3 ck oc => ?_)
  rcases ph with ⟨rv, fl0⟩ | ⟨d1, f1, n1, fl1, ph⟩
  · obtain ⟨t1, t2, t3, t4⟩ := Fl_det (Nat.le_refl _) (fun _ _ => rfl) (fun _ _ => rfl) fl fl0
    subst t1
    exact H0 c rv c5 c6 t2 t3 t4 (by rw [c3, if_neg (by decide)]) ck oc
  · obtain ⟨t1, t2, t3, t4⟩ := Fl_det (Nat.le_refl _) (fun _ _ => rfl) (fun _ _ => rfl) fl fl1
    subst t1
    refine H1 c (by rw [t3, t4]; exact ph) c5 c6 (fun k hk => (t2 k hk).trans (Fl_1 fl1 k hk)) cW (by rw [t3]; exact Fl_f hf fl1) (fun k p q => ?_) oc
    by_cases z : k = 3
    · rw [z, c3, if_pos rfl]
    · exact ck k z p q
/-- what a call leaves is right -/
theorem Inv_fin {b c : AH} {ws : List (Nat → Int)} {rr : Int} (hI : Inv Mo h) (sy : Syn b) (ph : Ph (h 3) ws (h 1 3) (h 1 4) rr (b 2) (b 1 3) (b 1 4)) (c5 : Sb (c 35)) (c6 : Sb (c 36)) (cd : ∀ k, k < 13824 → ub (c 35) k = b 2 k) (cf : c 34 5 = b 1 3) (cn' : c 34 6 = b 1 4) (c0 : c 0 8 = rr) (cm : c 34 3 = rr) (cl : ∀ o, 1 ≤ o → o ≤ 4 → c o = b o) (c26 : c 26 5 = h 26 5) (c32 : c 32 1 = h 32 1) (c33 : c 33 = h 33) (c52 : c 52 = h 52) (c17 : c 17 = h 17) (ck : ∀ k, (k = 4 ∨ (9 ≤ k ∧ k ≤ 11) ∨ k = 41) → c 34 k = h 34 k) (M : rr = 1 → Mo c) : Inv Mo c := by
  have q := Ph_f hI.1.2.1.2.1 ph
  refine Inv_mk hI ?_ c5 c6 (fun k hk => ?_) (by rw [cl 1 (by omega) (by omega), cf]) (by rw [cl 1 (by omega) (by omega)]; exact q.1) (by rw [cl 1 (by omega) (by omega), cn']) (by rw [c0, cm]) (by rw [c0]; exact q.2) c26 c32 c33 c52 c17 ck (fun z => M (by rw [← c0]; exact z))
  · unfold Syn Dk at *
    rw [cl 2 (by omega) (by omega), cl 3 (by omega) (by omega), cl 4 (by omega) (by omega)]
    exact sy
  · rw [cl 2 (by omega) (by omega)]; exact (cd k hk).symm
end PH
