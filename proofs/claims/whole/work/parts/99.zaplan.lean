/-! where a SET goes: the class plans -/
def mks (w r : Nat → Int) : Nat → Nat → Int
  | 0 => w
  | q + 1 => if rd (mks w r q) (ea r (q : Int)) = 0 then wb (mks w r q) (ea r (q : Int)) 1 1 else mks w r q
theorem By_mks {w r : Nat → Int} (h : By w) : ∀ q, By (mks w r q)
  | 0 => h
  | q + 1 => by
    rw [mks]
    split
    · exact By_wb (By_mks h q)
    · exact By_mks h q
theorem mks_or {w r : Nat → Int} {x : Int} (x0 : 0 ≤ x) : ∀ q : Nat, (∀ i : Nat, i < q → 0 ≤ ea r (i : Int)) → rd (mks w r q) x = rd w x ∨ ((∃ i : Nat, i < q ∧ x = ea r (i : Int)) ∧ rd w x = 0 ∧ rd (mks w r q) x = 1)
  | 0, _ => Or.inl rfl
  | q + 1, h => by
    have ih := mks_or (w := w) x0 q (fun i hi => h i (by omega))
    rw [mks]
    by_cases c : rd (mks w r q) (ea r (q : Int)) = 0
    · rw [if_pos c]
      by_cases z : x = ea r (q : Int)
      · rcases ih with y | ⟨_, y1, y2⟩
        · refine Or.inr ⟨⟨q, by omega, z⟩, ?_, ?_⟩
          · rw [← y, z]; exact c
          · rw [z, rd_wb1 (by rw [← z]; exact x0)]; rfl
        · rw [z] at y2
          rw [y2] at c
          exact absurd c (by decide)
      · rw [rd_wb_ne (h q (by omega)) x0 (by omega)]
        rcases ih with y | ⟨⟨i, i1, i2⟩, y⟩
        · exact Or.inl y
        · exact Or.inr ⟨⟨i, by omega, i2⟩, y⟩
    · rw [if_neg c]
      rcases ih with y | ⟨⟨i, i1, i2⟩, y⟩
      · exact Or.inl y
      · exact Or.inr ⟨⟨i, by omega, i2⟩, y⟩
def FRw (w r : Nat → Int) (m p : Int) : Prop := ∀ i : Int, 0 ≤ i → i < m → rd w (ea r (p + i)) < 128
def FRt (w r : Nat → Int) (K : Nat) (m p : Int) : Prop := ∀ q : Int, p ≤ q → q < p + m → q < 4 * (K : Int) → rd w (ea r q) < 128
def Spc (w r : Nat → Int) (K : Nat) (m e : Int) (k : Nat) : Prop := 0 ≤ e ∧ e % 2 = 0 ∧ ((k = 0 ∧ e + m ≤ 4 * (K : Int) ∧ FRw w r m e ∧ ∀ p' : Int, 0 ≤ p' → p' % 2 = 0 → p' < e → ¬ FRw w r m p') ∨ (k = 1 ∧ (∀ p' : Int, 0 ≤ p' → p' % 2 = 0 → p' + m ≤ 4 * (K : Int) → ¬ FRw w r m p') ∧ e ≤ 4 * (K : Int) ∧ FRt w r K m e ∧ ∀ p' : Int, 0 ≤ p' → p' % 2 = 0 → p' < e → ¬ FRt w r K m p'))
theorem Spc_ex {w r : Nat → Int} {K : Nat} {m : Int} (no : ∀ p' : Int, 0 ≤ p' → p' % 2 = 0 → p' + m ≤ 4 * (K : Int) → ¬ FRw w r m p') : ∃ e, Spc w r K m e 1 := by
  have key : ∀ d : Nat, d ≤ 2 * K → (∃ e : Int, 0 ≤ e ∧ e % 2 = 0 ∧ e ≤ 4 * (K : Int) ∧ FRt w r K m e ∧ ∀ p' : Int, 0 ≤ p' → p' % 2 = 0 → p' < e → ¬ FRt w r K m p') ∨ ∀ p' : Int, 0 ≤ p' → p' % 2 = 0 → p' < 2 * (d : Int) → ¬ FRt w r K m p' := by
    intro d
    induction d with
    | zero => intro _; exact Or.inr (fun p' a b c => by omega)
    | succ d ih =>
      intro hd
      rcases ih (by omega) with y | y
      · exact Or.inl y
      · by_cases z : FRt w r K m (2 * (d : Int))
        · exact Or.inl ⟨2 * (d : Int), by omega, by omega, by omega, z, y⟩
        · refine Or.inr (fun p' a b c => ?_)
          by_cases x : p' = 2 * (d : Int)
          · rw [x]; exact z
          · exact y p' a b (by omega)
  rcases key (2 * K) (Nat.le_refl _) with ⟨e, e0, e1, e2, e3, e4⟩ | y
  · exact ⟨e, e0, e1, Or.inr ⟨rfl, no, e2, e3, e4⟩⟩
  · exact ⟨4 * (K : Int), by omega, by omega, Or.inr ⟨rfl, no, by omega, fun q a b c => by omega, fun p' a b c => y p' a b (by omega)⟩⟩
theorem Spc_det {w r : Nat → Int} {K k k' : Nat} {m e e' : Int} (a : Spc w r K m e k) (b : Spc w r K m e' k') : e = e' ∧ k = k' := by
  obtain ⟨a0, a1, a2⟩ := a
  obtain ⟨b0, b1, b2⟩ := b
  rcases a2 with ⟨p1, p2, p3, p4⟩ | ⟨p1, p2, p3, p4, p5⟩
  · rcases b2 with ⟨q1, q2, q3, q4⟩ | ⟨q1, q2, q3, q4, q5⟩
    · rcases Int.lt_trichotomy e e' with y | y | y
      · exact absurd p3 (q4 e a0 a1 y)
      · exact ⟨y, by rw [p1, q1]⟩
      · exact absurd q3 (p4 e' b0 b1 y)
    · exact absurd p3 (q2 e a0 a1 p2)
  · rcases b2 with ⟨q1, q2, q3, q4⟩ | ⟨q1, q2, q3, q4, q5⟩
    · exact absurd q3 (p2 e' b0 b1 q2)
    · rcases Int.lt_trichotomy e e' with y | y | y
      · exact absurd p4 (q5 e a0 a1 y)
      · exact ⟨y, by rw [p1, q1]⟩
      · exact absurd q4 (p5 e' b0 b1 y)
/-- the place of the second look, with the CLUSTER that came -/
theorem Spc_two {w w' r r' : Nat → Int} {K k : Nat} {m e p : Int} (m34 : m = 3 ∨ m = 4) (sp : Spc w r K m e k) (old : ∀ q : Int, 0 ≤ q → q < 4 * (K : Int) → rd w' (ea r' q) = rd w (ea r q)) (new : ∀ q : Int, 4 * (K : Int) ≤ q → q < 4 * ((K + k : Nat) : Int) → rd w' (ea r' q) = 0) (p0 : 0 ≤ p) (p2 : p % 2 = 0) (pm : p + m ≤ 4 * ((K + k : Nat) : Int)) (fp : FRw w' r' m p) (lp : ∀ p' : Int, 0 ≤ p' → p' % 2 = 0 → p' < p → ¬ FRw w' r' m p') : p = e := by
  obtain ⟨a0, a1, a2⟩ := sp
  rcases a2 with ⟨k0, p2', p3, p4⟩ | ⟨k1, q2, q3, q4, q5⟩
  · subst k0
    have eq : ∀ x : Int, 0 ≤ x → x + m ≤ 4 * (K : Int) → (FRw w' r' m x ↔ FRw w r m x) := fun x x0 x1 => ⟨fun y i i0 i1 => by rw [← old _ (by omega) (by omega)]; exact y i i0 i1, fun y i i0 i1 => by rw [old _ (by omega) (by omega)]; exact y i i0 i1⟩
    rcases Int.lt_trichotomy p e with y | y | y
    · exact absurd ((eq p p0 (by omega)).mp fp) (p4 p p0 p2 y)
    · exact y
    · exact absurd ((eq e a0 p2').mpr p3) (lp e a0 a1 y)
  · subst k1
    have eq : ∀ x : Int, 0 ≤ x → x + m ≤ 4 * ((K + 1 : Nat) : Int) → (FRw w' r' m x ↔ FRt w r K m x) := fun x x0 x1 => ⟨fun y q h0 h1 h2 => by
      have := y (q - x) (by omega) (by omega)
      rw [show x + (q - x) = q by omega, old _ (by omega) h2] at this
      exact this, fun y i i0 i1 => by
      by_cases z : x + i < 4 * (K : Int)
      · rw [old _ (by omega) z]; exact y _ (by omega) (by omega) z
      · rw [new _ (by omega) (by omega)]; decide⟩
    rcases Int.lt_trichotomy p e with y | y | y
    · exact absurd ((eq p p0 pm).mp fp) (q5 p p0 p2 y)
    · exact y
    · exact absurd ((eq e a0 (by omega)).mpr q4) (lp e a0 a1 y)
section PLANR
variable {f g w r : Nat → Int} {n root mp X m : Int} {t R : AH} {G : GG} {h : AH}
theorem A_freeRow {P : Int → AH → Prop} {K : Nat} (b3 : h 3 = w) (hb : By w) (ro : Ro h 28 29 K r) (rr : ∀ i, i < K → 2 ≤ r i ∧ r i ≤ 101) (m34 : m = 3 ∨ m = 4) (H1 : ∀ p : Int, 0 ≤ p → p % 2 = 0 → p + m ≤ 4 * (K : Int) → FRw w r m p → (∀ p' : Int, 0 ≤ p' → p' % 2 = 0 → p' < p → ¬ FRw w r m p') → P p h) (H0 : (∀ p' : Int, 0 ≤ p' → p' % 2 = 0 → p' + m ≤ 4 * (K : Int) → ¬ FRw w r m p') → P (-1) h) : RunsI G 3 [vR 26, vI m] h P := by
  have rl := ro.2.1
  have key : ∀ (z : Nat) (p : Int), 2 * (z : Int) + p = 4 * (K : Int) + 2 → 0 ≤ p → p % 2 = 0 → (∀ p' : Int, 0 ≤ p' → p' % 2 = 0 → p' < p → ¬ FRw w r m p') → Go G (pI P) 3 10 [some (vR 26), some (vI m), some (vR 28), some (vI p), none, none] [] h := by
    intro z
    induction z with
    | zero =>
      intro p hz p0 p2 no
      apply q_A_freeRow_c10
      apply q_C_places_28
      rw [ro.1, wI_id (z := 4 * (K : Int)) (by omega) (by omega), wI_id (z := p + m) (by omega) (by omega)]
      exact ⟨fun _ => H0 (fun p' a b c => no p' a b (by omega)), fun y => by omega⟩
    | succ z ih =>
      intro p hz p0 p2 no
      apply q_A_freeRow_c10
      apply q_C_places_28
      rw [ro.1, wI_id (z := 4 * (K : Int)) (by omega) (by omega), wI_id (z := p + m) (by omega) (by omega)]
      refine ⟨fun y => H0 (fun p' a b c => no p' a b (by omega)), fun y => ?_⟩
      have nx : ¬ FRw w r m p → Go G (pI P) 3 10 [some (vR 26), some (vI m), some (vR 28), some (vI (p + 2)), none, none] [] h := fun nf => ih (p + 2) (by omega) (by omega) (by omega) (fun p' a b c => by
        by_cases x : p' = p
        · rw [x]; exact nf
        · exact no p' a b (by omega))
      have inn : ∀ (d : Nat) (i fl : Int), i + d = m → 0 ≤ i → (fl = 1 ∧ (∀ j : Int, 0 ≤ j → j < i → rd w (ea r (p + j)) < 128) ∨ fl = 0 ∧ ¬ FRw w r m p) → Go G (pI P) 3 26 [some (vR 26), some (vI m), some (vR 28), some (vI p), some (vI fl), some (vI i)] [] h := by
        intro d
        induction d with
        | zero =>
          intro i fl hd i0 cs
          apply q_A_freeRow_c26
          rw [wI_id (z := m) (by omega) (by omega), wI_id (z := i) (by omega) (by omega)]
          refine ⟨fun _ => ?_, fun x => by omega⟩
          rcases cs with ⟨f1, all⟩ | ⟨f0, nf⟩
          · rw [f1]
            exact ⟨fun x => absurd x (by decide), fun _ => H1 p p0 p2 (by omega) (fun j j0 j1 => all j j0 (by omega)) no⟩
          · rw [f0]
            exact ⟨fun _ => nx nf, fun x => absurd wI_0 x⟩
        | succ d id' =>
          intro i fl hd i0 cs
          apply q_A_freeRow_c26
          rw [wI_id (z := m) (by omega) (by omega), wI_id (z := i) (by omega) (by omega)]
          refine ⟨fun x => by omega, fun _ => ?_⟩
          rcases cs with ⟨f1, all⟩ | ⟨f0, nf⟩
          · rw [f1]
            refine ⟨fun x => absurd x (by decide), fun _ => ?_⟩
            have c := rr ((p + i) / 4).toNat (by omega)
            have er := ea_rng (r := r) (e := p + i) (by omega) c
            have hv := hb.rd (show 0 ≤ ea r (p + i) by omega) (show ea r (p + i) < 13824 by omega)
            refine C_entry_28 ro (by omega) (by omega) (D_get (by omega) (by omega) ?_)
            rw [b3, wI_id (z := rd w (ea r (p + i))) (by omega) (by omega)]
            refine ⟨fun x => id' (i + 1) 0 (by omega) (by omega) (Or.inr ⟨rfl, fun a => by have := a i i0 (by omega); omega⟩), fun x => id' (i + 1) 1 (by omega) (by omega) (Or.inl ⟨rfl, fun j j0 j1 => ?_⟩)⟩
            by_cases y : j = i
            · rw [y]; omega
            · exact all j j0 (by omega)
          · rw [f0]
            exact ⟨fun _ => id' (i + 1) 0 (by omega) (by omega) (Or.inr ⟨rfl, nf⟩), fun x => absurd wI_0 x⟩
      exact inn m.toNat 0 1 (by omega) (by omega) (Or.inl ⟨rfl, fun j a b => by omega⟩)
  apply q_A_freeRow
  exact key (2 * K + 1) 0 (by omega) (by omega) rfl (fun p' a b c => by omega)
theorem A_planRow {P : Int → AH → Prop} {jd : Nat} (v : V f g n root mp t R) (h3 : h 3 = f) (h71 : h 7 1 = n) (h72 : h 7 2 = root) (h73 : h 7 3 = mp) (h74 : h 7 4 = X) (a : al t jd) (dd : dirT f t jd) (px : PX f mp n X) (szr : 1 ≤ h 32 1 ∧ h 32 1 ≤ 30) (em : m = 2 + (h 32 1 + 14) / 15)
    (HF : (∀ p' : Int, 0 ≤ p' → p' % 2 = 0 → p' + m ≤ 4 * (Kt t jd : Int) → ¬ FRw f (R jd) m p') → cf f mp n X n.toNat < 1 → ∀ b, (∀ o, ¬ (27 ≤ o ∧ o ≤ 31) → b o = h o) → P 0 b)
    (H1 : ∀ e k, Spc f (R jd) (Kt t jd) m e k → (0 < k → k ≤ cf f mp n X n.toNat) → ∀ b, Ro b 28 29 (Kt t jd) (R jd) → Ro b 30 31 k (dSq f n mp X t R jd k) → b 27 4 = dWr f t jd → b 27 5 = dRn f n mp X t R jd k → (∀ o, ¬ (27 ≤ o ∧ o ≤ 31) → b o = h o) → P 1 b) : RunsI G 2 [vR 26, vI (t 1 jd), vR 32] h P := by
  have nn := V_n v
  have hb := V_by v
  have mpc := V_mp v
  unfold clu at mpc
  have Kpos := V_Kd v a dd
  have kn := V_K v a
  have rr := V_rr v a
  have xr := PX_rng v px
  have m34 : m = 3 ∨ m = 4 := (by omega)
  have pz : t 1 jd = 0 ↔ jd = 0 := ⟨fun z => V_inj v a v.1.1.1 (by rw [v.1.1.2.1]; exact z), fun z => by rw [z]; exact v.1.1.2.1⟩
  have pr : 0 ≤ t 1 jd ∧ t 1 jd ≤ 407 := by
    by_cases z : jd = 0
    · rw [pz.mpr z]; decide
    · have := V_cl v (show 1 ≤ jd by omega) a
      omega
  apply q_A_planRow
  refine T_openV_28 v h3 h71 h72 a (fun b ro fr => ?_)
  have b3 : b 3 = f := (fr 3 (by decide) (by decide)).trans h3
  have b7 : b 7 = h 7 := fr 7 (by decide) (by decide)
  have c42 : ∀ s1, s1 = dWr f t jd → Go G (pI P) 2 42 [some (vR 26), none, some (vR 32)] [vI s1, vR 27] b := by
    intro s1 es
    have s01 : s1 = 0 ∨ s1 = 1 := by rw [es]; exact dWr_01
    apply q_A_planRow_c42
    apply q_G_begin
    refine ⟨s01, s01, ?_⟩
    generalize eg : hs (hs (hs b 27 4 s1) 27 5 s1) 30 1 0 = c
    have c4 : c 27 4 = s1 := by rw [← eg, hs_o _ _ _ _ _ (by decide), hs_k _ _ _ _ _ (by decide), hs_same]
    have c5 : c 27 5 = s1 := by rw [← eg, hs_o _ _ _ _ _ (by decide), hs_same]
    have c30 : c 30 1 = 0 := by rw [← eg, hs_same]
    have oc : ∀ o, o ≠ 27 → o ≠ 30 → c o = b o := fun o p q => by rw [← eg, hs_o _ _ _ _ _ q, hs_o _ _ _ _ _ p, hs_o _ _ _ _ _ p]
    clear eg
    have roc : Ro c 28 29 (Kt t jd) (R jd) := by unfold Ro; rw [oc 28 (by decide) (by decide), oc 29 (by decide) (by decide)]; exact ro
    have co : ∀ o, ¬ (27 ≤ o ∧ o ≤ 31) → c o = h o := fun o p => (oc o (by omega) (by omega)).trans (fr o (by omega) (by omega))
    apply q_N_entriesOf
    rw [co 32 (by decide), wI_id (z := h 32 1 + 14) (by omega) (by omega), tdiv_pos (by omega), ← em]
    refine ⟨by decide, A_freeRow ((oc 3 (by decide) (by decide)).trans b3) hb roc rr m34 (fun p p0 p2 pm fp lp => ?_) (fun no => ?_)⟩
    · rw [wI_id (z := p) (by omega) (by omega)]
      refine ⟨fun _ => ⟨Or.inr rfl, H1 p 0 ⟨p0, p2, Or.inl ⟨rfl, pm, fp, lp⟩⟩ (fun z => absurd z (by decide)) c roc ⟨c30, Nat.zero_le _, fun i hi => absurd hi (Nat.not_lt_zero _)⟩ (c4.trans es) ?_ co⟩, fun y => absurd p0 y⟩
      rw [c5, es]
      unfold dRn
      rw [if_pos rfl]
    · refine ⟨fun y => absurd y (by decide), fun _ => ?_⟩
      have gc := G_choose (G := G) (P := fun r4 h4 => ((wI r4 = 0 → (((0 : Int) = 0 ∨ (0 : Int) = 1) ∧ P 0 h4)) ∧ (¬ wI r4 = 0 → (((1 : Int) = 0 ∨ (1 : Int) = 1) ∧ P 1 h4)))) (h := c) (f := f) (n := n) (mp := mp) (X := X) (k := 1) (wr' := s1) ((oc 3 (by decide) (by decide)).trans b3) (by rw [co 7 (by decide)]; exact h71) (by rw [co 7 (by decide)]; exact h73) (by rw [co 7 (by decide)]; exact h74) hb nn (by omega) (by omega) roc rr c4 s01 (fun z => by omega) c30 (by decide) (fun full b2 ob2 => ⟨fun _ => ⟨Or.inl rfl, HF no full b2 (fun o p => (ob2 o (by omega) (by omega) (by omega)).trans (co o p))⟩, fun y => absurd wI_0 y⟩) (fun kc b2 rf b5 b4 ob2 => ⟨fun y => absurd y (by decide), fun _ => ⟨Or.inr rfl, ?_⟩⟩)
      · exact gc
      · obtain ⟨e, sp⟩ := Spc_ex no
        refine H1 e 1 sp (fun _ => kc) b2 (by unfold Ro; rw [ob2 28 (by decide) (by decide) (by decide), ob2 29 (by decide) (by decide) (by decide)]; exact roc) ?_ (b4.trans es) ?_ (fun o p => (ob2 o (by omega) (by omega) (by omega)).trans (co o p))
        · rw [es] at rf
          exact rf
        · rw [b5, es]
          unfold dRn
          rw [if_neg (by decide)]
  rw [wI_id (z := t 1 jd) (by omega) (by omega)]
  refine ⟨fun z => c42 0 (by unfold dWr; rw [if_pos (pz.mp z)]), fun z => ?_⟩
  have j0 : ¬ jd = 0 := fun y => z (pz.mpr y)
  have wa := V_at v (show 1 ≤ jd by omega) a
  have wz : dWr f t jd = bR f (t 1 jd) := by unfold dWr; rw [if_neg j0]
  apply q_T_headOf
  show RunsI G 85 [vR 10, vI (ha (t 1 jd))] b _
  refine E_isRun (by rw [b3]; exact hb) wa.1 wa.2.1 (fun q => ⟨fun y => absurd y (by decide), fun _ => c42 1 ?_⟩) (fun q => ⟨fun _ => c42 0 ?_, fun y => absurd wI_0 y⟩)
  · rw [wz]
    unfold bR
    unfold isR at q
    rw [b3] at q
    rw [if_pos q]
  · rw [wz]
    unfold bR
    unfold isR at q
    rw [b3] at q
    rw [if_neg q]
end PLANR
