/-! CLUSTERS that come: which -/
section ALLOC
variable (f : Nat → Int) (mp n X : Int)
abbrev fre (c : Int) : Prop := (2 ≤ c ∧ c ≤ n + 1) ∧ tb f mp c = 0 ∧ c ≠ X
def rw0 (k : Nat) (c : Int) : Prop := ∀ i : Nat, i < k → fre f mp n X (c + i)
/-- how many are free among the first m -/
def cf : Nat → Nat
  | 0 => 0
  | m + 1 => if fre f mp n X ((m : Int) + 2) then cf m + 1 else cf m
/-- the i-th free one -/
def fi : Nat → Nat → Int
  | 0, _ => 0
  | m + 1, i => if fre f mp n X ((m : Int) + 2) ∧ i = cf f mp n X m then (m : Int) + 2 else fi m i
/-- the first row of k, from behind; -9: none -/
noncomputable def rf (k : Nat) : Nat → Int
  | 0 => -9
  | m + 1 => @ite Int (rw0 f mp n X k (n + 1 - (m : Int))) (Classical.propDecidable _) (n + 1 - (m : Int)) (rf k m)
noncomputable def atF (K : Nat) (last wr' : Int) (k : Nat) : Int := if K = 0 then rf f mp n X k n.toNat else @ite Int (wr' = 1 ∧ rw0 f mp n X k (last + 1)) (Classical.propDecidable _) (last + 1) (-9)
noncomputable def frs (K : Nat) (last wr' : Int) (k : Nat) : Nat → Int := fun i => if atF f mp n X K last wr' k = -9 then fi f mp n X n.toNat i else atF f mp n X K last wr' k + i
noncomputable def rnF (K : Nat) (last wr' : Int) (k : Nat) : Int := if atF f mp n X K last wr' k = -9 then 0 else 1
end ALLOC
section ALLOC1
variable {f : Nat → Int} {mp n X : Int}
theorem cf_le : ∀ m : Nat, cf f mp n X m ≤ m
  | 0 => Nat.le_refl _
  | m + 1 => by
    have := cf_le m
    rw [cf]
    split <;> omega
theorem cf_mono {m : Nat} : ∀ m' : Nat, m ≤ m' → cf f mp n X m ≤ cf f mp n X m'
  | 0, h => by rw [show m = 0 by omega]; exact Nat.le_refl _
  | m' + 1, h => by
    by_cases z : m = m' + 1
    · rw [z]; exact Nat.le_refl _
    · have := cf_mono m' (show m ≤ m' by omega)
      rw [cf]
      split <;> omega
theorem fi_s {m i : Nat} (h : i < cf f mp n X m) : fi f mp n X (m + 1) i = fi f mp n X m i := by rw [fi, if_neg (fun z => by omega)]
theorem fi_up {m i : Nat} (h : i < cf f mp n X m) : ∀ d : Nat, fi f mp n X (m + d) i = fi f mp n X m i
  | 0 => rfl
  | d + 1 => by
    rw [← Nat.add_assoc, fi_s (Nat.lt_of_lt_of_le h (cf_mono (m + d) (by omega)))]
    exact fi_up h d
theorem fi_fre : ∀ (m : Nat) {i : Nat}, i < cf f mp n X m → fre f mp n X (fi f mp n X m i) ∧ fi f mp n X m i ≤ (m : Int) + 1
  | 0, i, h => absurd h (Nat.not_lt_zero _)
  | m + 1, i, h => by
    rw [fi]
    by_cases c : fre f mp n X ((m : Int) + 2) ∧ i = cf f mp n X m
    · rw [if_pos c]
      exact ⟨c.1, by omega⟩
    · rw [if_neg c]
      have h' : i < cf f mp n X m := by
        rw [cf] at h
        by_cases z : fre f mp n X ((m : Int) + 2)
        · rw [if_pos z] at h
          by_cases y : i = cf f mp n X m
          · exact absurd ⟨z, y⟩ c
          · omega
        · rw [if_neg z] at h
          exact h
      have := fi_fre m h'
      exact ⟨this.1, by omega⟩
theorem fi_lt : ∀ (m : Nat) {i j : Nat}, i < j → j < cf f mp n X m → fi f mp n X m i < fi f mp n X m j
  | 0, i, j, _, h => absurd h (Nat.not_lt_zero _)
  | m + 1, i, j, ij, h => by
    rw [cf] at h
    by_cases z : fre f mp n X ((m : Int) + 2)
    · rw [if_pos z] at h
      rw [fi_s (show i < cf f mp n X m by omega)]
      have fm := fi_fre (f := f) (mp := mp) (n := n) (X := X) m (show i < cf f mp n X m by omega)
      rw [fi]
      by_cases y : j = cf f mp n X m
      · rw [if_pos ⟨z, y⟩]
        omega
      · rw [if_neg (fun q => y q.2)]
        exact fi_lt m ij (by omega)
    · rw [if_neg z] at h
      rw [fi_s h, fi_s (show i < cf f mp n X m by omega)]
      exact fi_lt m ij h
theorem fi_all : ∀ (m : Nat) {c : Int}, fre f mp n X c → c ≤ (m : Int) + 1 → ∃ i, i < cf f mp n X m ∧ fi f mp n X m i = c
  | 0, c, h, l => by have := h.1; omega
  | m + 1, c, h, l => by
    by_cases y : c = (m : Int) + 2
    · have z : fre f mp n X ((m : Int) + 2) := by rw [← y]; exact h
      refine ⟨cf f mp n X m, ?_, ?_⟩
      · rw [cf, if_pos z]; omega
      · rw [fi, if_pos ⟨z, rfl⟩, y]
    · obtain ⟨i, i1, i2⟩ := fi_all m h (by omega)
      exact ⟨i, Nat.lt_of_lt_of_le i1 (cf_mono (m + 1) (by omega)), by rw [fi_s i1]; exact i2⟩
theorem rw_cf {c : Int} (c2 : 2 ≤ c) : ∀ k : Nat, rw0 f mp n X k c → cf f mp n X (c - 2).toNat + k ≤ cf f mp n X ((c - 2).toNat + k)
  | 0, _ => Nat.le_refl _
  | k + 1, h => by
    have ih := rw_cf c2 k (fun i hi => h i (by omega))
    have z := h k (by omega)
    rw [show c + (k : Int) = (((c - 2).toNat + k : Nat) : Int) + 2 by omega] at z
    rw [← Nat.add_assoc, ← Nat.add_assoc, cf, if_pos z]
    omega
theorem rw_le {k : Nat} {c : Int} (k1 : 1 ≤ k) (h : rw0 f mp n X k c) : k ≤ cf f mp n X n.toNat ∧ 2 ≤ c ∧ c + k ≤ n + 2 := by
  have h0 := (h 0 (by omega)).1
  have h1 := (h (k - 1) (by omega)).1
  have r := rw_cf (show 2 ≤ c by omega) k h
  have m := cf_mono (f := f) (mp := mp) (n := n) (X := X) (m := (c - 2).toNat + k) n.toNat (by omega)
  exact ⟨by omega, by omega, by omega⟩
theorem rf_0 {k : Nat} (m : Nat) : (rf f mp n X k m = -9 ∧ ∀ c : Int, n + 1 - (m : Int) < c → c ≤ n + 1 → ¬ rw0 f mp n X k c) ∨ (rw0 f mp n X k (rf f mp n X k m) ∧ n + 1 - (m : Int) < rf f mp n X k m ∧ rf f mp n X k m ≤ n + 1 ∧ ∀ c : Int, n + 1 - (m : Int) < c → c < rf f mp n X k m → ¬ rw0 f mp n X k c) := by
  induction m with
  | zero => exact Or.inl ⟨rfl, fun c a b => by omega⟩
  | succ m ih =>
    rw [rf]
    by_cases z : rw0 f mp n X k (n + 1 - (m : Int))
    · rw [if_pos z]
      exact Or.inr ⟨z, by omega, by omega, fun c a b => by omega⟩
    · rw [if_neg z]
      rcases ih with ⟨a, b⟩ | ⟨a, b, c, d⟩
      · refine Or.inl ⟨a, fun c p q => ?_⟩
        by_cases y : c = n + 1 - (m : Int)
        · rw [y]; exact z
        · exact b c (by omega) q
      · refine Or.inr ⟨a, by omega, c, fun c p q => ?_⟩
        by_cases y : c = n + 1 - (m : Int)
        · rw [y]; exact z
        · exact d c (by omega) q
/-- the least row -/
theorem rf_is {k : Nat} {c0 : Int} (k1 : 1 ≤ k) (h : rw0 f mp n X k c0) (l : ∀ c : Int, 2 ≤ c → c < c0 → ¬ rw0 f mp n X k c) : rf f mp n X k n.toNat = c0 := by
  have w := rw_le k1 h
  rcases rf_0 (f := f) (mp := mp) (n := n) (X := X) (k := k) n.toNat with ⟨_, b⟩ | ⟨a, b, c, d⟩
  · exact absurd h (b c0 (by omega) (by omega))
  · have w2 := rw_le k1 a
    rcases Int.lt_trichotomy (rf f mp n X k n.toNat) c0 with y | y | y
    · exact absurd a (l _ (by omega) y)
    · exact y
    · exact absurd h (d c0 (by omega) y)
theorem rf_no {k : Nat} (l : ∀ c : Int, 2 ≤ c → c ≤ n + 1 → ¬ rw0 f mp n X k c) : rf f mp n X k n.toNat = -9 := by
  rcases rf_0 (f := f) (mp := mp) (n := n) (X := X) (k := k) n.toNat with ⟨a, b⟩ | ⟨a, b, c, d⟩
  · exact a
  · exact absurd a (l _ (by omega) (by omega))
theorem atF_row {K k : Nat} {last wr' : Int} (h : atF f mp n X K last wr' k ≠ -9) : rw0 f mp n X k (atF f mp n X K last wr' k) := by
  unfold atF at h ⊢
  by_cases z : K = 0
  · rw [if_pos z] at h ⊢
    rcases rf_0 (f := f) (mp := mp) (n := n) (X := X) (k := k) n.toNat with ⟨a, b⟩ | ⟨a, b, c, d⟩
    · exact absurd a h
    · exact a
  · rw [if_neg z] at h ⊢
    by_cases y : wr' = 1 ∧ rw0 f mp n X k (last + 1)
    · rw [if_pos y]; exact y.2
    · rw [if_neg y] at h; exact absurd rfl h
theorem frs_fre {K k : Nat} {last wr' : Int} (kc : k ≤ cf f mp n X n.toNat) : ∀ i : Nat, i < k → fre f mp n X (frs f mp n X K last wr' k i) := by
  intro i hi
  unfold frs
  split
  · exact (fi_fre _ (by omega)).1
  · rename_i c; exact atF_row c i hi
theorem frs_ne {K k : Nat} {last wr' : Int} (kc : k ≤ cf f mp n X n.toNat) : ∀ i j : Nat, i < j → j < k → frs f mp n X K last wr' k i < frs f mp n X K last wr' k j := by
  intro i j ij hj
  unfold frs
  split
  · exact fi_lt _ ij (by omega)
  · omega
section
variable {G : GG} {h : AH}
theorem S_isFree {P : Int → AH → Prop} {c : Int} (hb : By (h 3)) (hn : 16 ≤ h 7 1 ∧ h 7 1 ≤ 100) (hm : 2 ≤ h 7 3 ∧ h 7 3 ≤ 101) (hx : 0 ≤ h 7 4 ∧ h 7 4 ≤ 101) (hc : 0 ≤ c ∧ c ≤ 1000) (H1 : fre (h 3) (h 7 3) (h 7 1) (h 7 4) c → P 1 h) (H0 : ¬ fre (h 3) (h 7 3) (h 7 1) (h 7 4) c → P 0 h) : RunsI G 115 [vR 7, vI c] h P := by
  apply q_S_isFree
  refine S_isCluster hn (by omega) (fun k => ⟨fun z => absurd z (by decide), fun _ => ?_⟩) (fun k => ⟨fun _ => ⟨Or.inl rfl, H0 (fun z => k z.1)⟩, fun z => absurd wI_0 z⟩)
  unfold clu at k
  rw [wI_id (z := c) (by omega) (by omega), wI_id (z := h 7 4) (by omega) (by omega)]
  refine ⟨fun z => ⟨Or.inl rfl, H0 (fun y => y.2.2 z)⟩, fun z => ?_⟩
  refine S_isTaken hb hm (by omega) ?_
  rcases tb_01 (h 3) (h 7 3) c with y | y
  · rw [y]
    exact ⟨fun _ => ⟨Or.inr rfl, H1 ⟨k, y, z⟩⟩, fun x => absurd wI_0 x⟩
  · rw [y]
    exact ⟨fun x => absurd x (by decide), fun _ => ⟨Or.inl rfl, H0 (fun x => by have := x.2.1; omega)⟩⟩
theorem S_isFreeRow {P : Int → AH → Prop} {c : Int} {k : Nat} (hb : By (h 3)) (hn : 16 ≤ h 7 1 ∧ h 7 1 ≤ 100) (hm : 2 ≤ h 7 3 ∧ h 7 3 ≤ 101) (hx : 0 ≤ h 7 4 ∧ h 7 4 ≤ 101) (hc : 0 ≤ c ∧ c ≤ 200) (hk : k ≤ 200) (H1 : rw0 (h 3) (h 7 3) (h 7 1) (h 7 4) k c → P 1 h) (H0 : ¬ rw0 (h 3) (h 7 3) (h 7 1) (h 7 4) k c → P 0 h) : RunsI G 117 [vR 7, vI c, vI (k : Int)] h P := by
  have key : ∀ (m i : Nat), i + m = k → (∀ j : Nat, j < i → fre (h 3) (h 7 3) (h 7 1) (h 7 4) (c + j)) → Go G (pI P) 117 2 [some (vR 7), some (vI c), some (vI (k : Int)), some (vI (i : Int))] [] h := by
    intro m
    induction m with
    | zero =>
      intro i hi a
      apply q_S_isFreeRow_c2
      rw [wI_id (z := (k : Int)) (by omega) (by omega), wI_id (z := (i : Int)) (by omega) (by omega)]
      exact ⟨fun _ => ⟨Or.inr rfl, H1 (fun j hj => a j (by omega))⟩, fun z => by omega⟩
    | succ m ih =>
      intro i hi a
      apply q_S_isFreeRow_c2
      rw [wI_id (z := (k : Int)) (by omega) (by omega), wI_id (z := (i : Int)) (by omega) (by omega)]
      refine ⟨fun z => by omega, fun _ => S_isFree hb hn hm hx (by omega) (fun y => ⟨fun z => absurd z (by decide), fun _ => ?_⟩) (fun y => ⟨fun _ => ⟨Or.inl rfl, H0 (fun z => y (z i (by omega)))⟩, fun z => absurd wI_0 z⟩)⟩
      rw [show (i : Int) + 1 = ((i + 1 : Nat) : Int) by omega]
      refine ih (i + 1) (by omega) (fun j hj => ?_)
      by_cases z : j = i
      · rw [z]; exact y
      · exact a j (by omega)
  apply q_S_isFreeRow
  exact key k 0 (by omega) (fun j hj => by omega)
theorem S_firstRow {P : Int → AH → Prop} {k : Nat} (hb : By (h 3)) (hn : 16 ≤ h 7 1 ∧ h 7 1 ≤ 100) (hm : 2 ≤ h 7 3 ∧ h 7 3 ≤ 101) (hx : 0 ≤ h 7 4 ∧ h 7 4 ≤ 101) (hk : 1 ≤ k ∧ k ≤ 200) (H1 : ∀ c, 2 ≤ c → c ≤ 101 → rf (h 3) (h 7 3) (h 7 1) (h 7 4) k (h 7 1).toNat = c → P c h) (H0 : rf (h 3) (h 7 3) (h 7 1) (h 7 4) k (h 7 1).toNat = -9 → P 0 h) : RunsI G 118 [vR 7, vI (k : Int)] h P := by
  have key : ∀ (m l : Nat) (c : Int), c + m = h 7 1 + 2 → 2 ≤ c → l < k → (∀ i : Nat, i < l → fre (h 3) (h 7 3) (h 7 1) (h 7 4) (c - 1 - i)) → ((l : Int) = c - 2 ∨ ((l : Int) < c - 2 ∧ ¬ fre (h 3) (h 7 3) (h 7 1) (h 7 4) (c - 1 - l))) → (∀ c' : Int, 2 ≤ c' → c' + k ≤ c → ¬ rw0 (h 3) (h 7 3) (h 7 1) (h 7 4) k c') → Go G (pI P) 118 4 [some (vR 7), some (vI (k : Int)), some (vI (l : Int)), some (vI c)] [] h := by
    intro m
    induction m with
    | zero =>
      intro l c hc c2 lk a b no
      apply q_S_firstRow_c4
      rw [wI_id (z := h 7 1 + 1) (by omega) (by omega), wI_id (z := c) (by omega) (by omega)]
      refine ⟨fun _ => H0 (rf_no (fun c' p q r => ?_)), fun z => by omega⟩
      have := rw_le hk.1 r
      exact no c' p (by omega) r
    | succ m ih =>
      intro l c hc c2 lk a b no
      apply q_S_firstRow_c4
      rw [wI_id (z := h 7 1 + 1) (by omega) (by omega), wI_id (z := c) (by omega) (by omega), wI_id (z := (k : Int)) (by omega) (by omega), wI_id (z := (l : Int) + 1) (by omega) (by omega)]
      refine ⟨fun z => by omega, fun _ => S_isFree hb hn hm hx (by omega) (fun y => ⟨fun z => absurd z (by decide), fun _ => ?_⟩) (fun y => ⟨fun _ => ?_, fun z => absurd wI_0 z⟩)⟩
      · refine ⟨fun e => ?_, fun e => ?_⟩
        · have row : rw0 (h 3) (h 7 3) (h 7 1) (h 7 4) k (c - k + 1) := fun i hi => by
            by_cases z : i + 1 = k
            · rw [show c - (k : Int) + 1 + (i : Int) = c by omega]; exact y
            · have := a (l - 1 - i) (by omega)
              rw [show c - 1 - (((l - 1 - i : Nat)) : Int) = c - (k : Int) + 1 + (i : Int) by omega] at this
              exact this
          have w := rw_le hk.1 row
          exact H1 _ (by omega) (by omega) (rf_is hk.1 row (fun c' p q => no c' p (by omega)))
        · rw [show (l : Int) + 1 = ((l + 1 : Nat) : Int) by omega]
          refine ih (l + 1) (c + 1) (by omega) (by omega) (by omega) (fun i hi => ?_) ?_ (fun c' p q r => ?_)
          · by_cases z : i = 0
            · rw [z, show c + 1 - 1 - ((0 : Nat) : Int) = c by omega]; exact y
            · have := a (i - 1) (by omega)
              rw [show c - 1 - (((i - 1 : Nat)) : Int) = c + 1 - 1 - (i : Int) by omega] at this
              exact this
          · rw [show c + 1 - 1 - ((l + 1 : Nat) : Int) = c - 1 - (l : Int) by omega]
            rcases b with b | b
            · exact Or.inl (by omega)
            · exact Or.inr ⟨by omega, b.2⟩
          · by_cases z : c' + k ≤ c
            · exact no c' p z r
            · rcases b with b | b
              · omega
              · have := r (c - 1 - (l : Int) - c').toNat (by omega)
                rw [show c' + (((c - 1 - (l : Int) - c').toNat : Nat) : Int) = c - 1 - (l : Int) by omega] at this
                exact b.2 this
      · refine ⟨fun z => by omega, fun _ => ?_⟩
        refine ih 0 (c + 1) (by omega) (by omega) (by omega) (fun i hi => by omega) (Or.inr ⟨by omega, ?_⟩) (fun c' p q r => ?_)
        · rw [show c + 1 - 1 - ((0 : Nat) : Int) = c by omega]; exact y
        · by_cases z : c' + k ≤ c
          · exact no c' p z r
          · have := r (c - c').toNat (by omega)
            rw [show c' + (((c - c').toNat : Nat) : Int) = c by omega] at this
            exact y this
  apply q_S_firstRow
  exact key (h 7 1).toNat 0 2 (by omega) (by omega) (by omega) (fun i hi => by omega) (Or.inl (by omega)) (fun c' p q => by omega)
end
end ALLOC1
