/-! the index of the class -/
def dn (t : AH) (κ : Nat → Nat) (i c : Nat) (j i2 : Nat) : Prop := (∃ i', i' < i ∧ κ i' = j ∧ i2 < Kt t j) ∨ (κ i = j ∧ i2 < c)
/-- holder and behind are told -/
def Hd (f : Nat → Int) (t R : AH) (h : AH) : Prop := (∀ c : Nat, c < 102 → h 12 c = -1 ∨ ∃ j i, al t j ∧ dirT f t j ∧ i < Kt t j ∧ R j i = (c : Int)) ∧ ∀ j i, al t j → dirT f t j → i < Kt t j → h 12 (R j i).toNat = t 1 j ∧ h 13 (R j i).toNat = (if i + 1 < Kt t j then R j (i + 1) else 0)
def IX (f : Nat → Int) (t R : AH) (κ : Nat → Nat) (i c Q : Nat) (h : AH) : Prop :=
  (h 11 6 = (Q : Int) ∧ 1 ≤ Q ∧ κ 0 = 0) ∧ (∀ x, x < Q → al t (κ x) ∧ dirT f t (κ x) ∧ h 14 x = t 1 (κ x)) ∧ (∀ x y, x < y → y < Q → κ x ≠ κ y) ∧ (∀ x, 1 ≤ x → x < Q → 1 ≤ κ x ∧ dn t κ i c (pt t (κ x)) (t 3 (κ x) / 4).toNat) ∧ (∀ j, 1 ≤ j → al t j → dirT f t j → dn t κ i c (pt t j) (t 3 j / 4).toNat → ∃ x, x < Q ∧ κ x = j) ∧ (∀ c' : Nat, c' < 102 → h 12 c' = -1 ∨ ∃ j i2, al t j ∧ dirT f t j ∧ i2 < Kt t j ∧ R j i2 = (c' : Int)) ∧ (∀ j i2, al t j → dirT f t j → i2 < Kt t j → dn t κ i c j i2 → h 12 (R j i2).toNat = t 1 j ∧ h 13 (R j i2).toNat = (if i2 + 1 < Kt t j then R j (i2 + 1) else 0))
section INDEX
variable {G : GG} {h : AH} {f g : Nat → Int} {n root mp : Int} {t R : AH}
theorem T_indexCluster {P : AH → Prop} {j i : Nat} {x : Int} (v : V f g n root mp t R) (h3 : h 3 = f) (a : al t j) (d : dirT f t j) (hi : i < Kt t j) (hQ : 0 ≤ h 11 6 ∧ h 11 6 < 102)
    (HA : ∀ h', (∀ j', 1 ≤ j' → al t j' → dirT f t j' → pt t j' = j → (t 3 j' / 4).toNat = i → False) → h' 12 = st (h 12) (R j i).toNat (t 1 j) → h' 13 = st (h 13) (R j i).toNat x → (∀ o, o ≠ 12 → o ≠ 13 → h' o = h o) → P h')
    (HB : ∀ h' j', 1 ≤ j' → al t j' → dirT f t j' → pt t j' = j → (t 3 j' / 4).toNat = i → h' 12 = st (h 12) (R j i).toNat (t 1 j) → h' 13 = st (h 13) (R j i).toNat x → h' 11 6 = h 11 6 + 1 → h' 14 = st (h 14) (h 11 6).toNat (t 1 j') → (∀ o, ¬ (11 ≤ o ∧ o ≤ 14) → h' o = h o) → P h') : RunsV G 126 [vR 11, vI (t 1 j), vI (R j i), vI x] h P := by
  have nn := V_n v
  have cl := (v.1.2.1 j a i hi).1
  unfold clu at cl
  have hst : ∀ (h : AH) (o k : Nat) (v : Int), hs h o k v o = st (h o) k v := fun h o k v => by
    funext y
    rw [hs_app, if_pos rfl]
    rfl
  apply q_T_indexCluster
  rw [wI_id (z := R j i) (by omega) (by omega)]
  refine ⟨fun z => by omega, fun _ => ⟨fun _ => ⟨by omega, by omega, ?_⟩, fun z => by omega⟩⟩
  generalize eg : hs (hs h 12 (R j i).toNat (t 1 j)) 13 (R j i).toNat x = b
  have b12 : b 12 = st (h 12) (R j i).toNat (t 1 j) := by rw [← eg, hs_o _ _ _ _ _ (by decide), hst]
  have b13 : b 13 = st (h 13) (R j i).toNat x := by rw [← eg, hst, hs_o _ _ _ _ _ (by decide)]
  have bo : ∀ o, o ≠ 12 → o ≠ 13 → b o = h o := fun o p q => by rw [← eg, hs_o _ _ _ _ _ q, hs_o _ _ _ _ _ p]
  clear eg
  have it : ∀ (b : AH) (o : Int), (o = 0 ∨ o = 2) → b 3 = f → (0 ≤ b 11 6 ∧ b 11 6 ≤ 200) → (∀ j', 1 ≤ j' → al t j' → dirT f t j' → t 1 j' = 4 * R j i + o → b 11 6 < 102) → ((∀ j', 1 ≤ j' → al t j' → dirT f t j' → t 1 j' = 4 * R j i + o → False) → Go G (pV P) 126 33 [some (vR 11), none, some (vI (R j i)), none, some (vI (4 * R j i + o + 2)), none] [] b) → (∀ j', 1 ≤ j' → al t j' → dirT f t j' → t 1 j' = 4 * R j i + o → ∀ b2, b2 11 6 = b 11 6 + 1 → b2 14 = st (b 14) (b 11 6).toNat (t 1 j') → (∀ o, o ≠ 11 → o ≠ 14 → b2 o = b o) → Go G (pV P) 126 33 [some (vR 11), none, some (vI (R j i)), none, some (vI (4 * R j i + o + 2)), none] [] b2) → Go G (pV P) 126 33 [some (vR 11), none, some (vI (R j i)), none, some (vI (4 * R j i + o)), none] [] b := by
    intro b o o02 b3 bQ bP k1 k2
    have hp : clu n ((4 * R j i + o) / 4) := by unfold clu; omega
    have r1 := ha_rng hp nn.2
    have r2 := ha_rng2 hp nn.2 (by omega)
    have by' := (V_by v).rd (show 0 ≤ ha (4 * R j i + o) by omega) (show ha (4 * R j i + o) < 13824 by omega)
    apply q_T_indexCluster_c33
    rw [wI_id (z := 4 * R j i + 4) (by omega) (by omega), wI_id (z := 4 * R j i + o) (by omega) (by omega)]
    refine ⟨fun z => by omega, fun _ => ?_⟩
    apply q_T_headOf
    show RunsI G 54 [vR 1, vI (ha (4 * R j i + o))] b _
    refine D_get (by omega) (by omega) ?_
    rw [b3, wI_id (z := rd f (ha (4 * R j i + o))) (by omega) (by omega)]
    refine ⟨fun ty => ?_, fun ty => ?_⟩
    · obtain ⟨j', q1, q2, q3, q4, q5⟩ := V_ty v a d hi (o := o) (by omega) (by omega) ty
      have at' := (V_ln v q1 q2).1.2.2.1
      rw [q5] at at'
      apply q_T_headOf
      show RunsI G 83 [vR 10, vI (ha (4 * R j i + o))] b _
      refine E_isDirectory (by rw [b3]; exact V_by v) (by omega) (by omega) (by rw [b3]; exact at') (fun dd => ?_) (fun dd => ?_)
      · refine ⟨fun z => absurd z (by decide), fun _ => ?_⟩
        rw [b3] at dd
        have bQ2 := bP j' q1 q2 (Or.inr (by rw [q5]; exact dd)) q5
        apply q_T_indexCluster_c81
        rw [wI_id (z := b 11 6) (by omega) (by omega)]
        refine ⟨fun z => absurd z (by decide), fun _ => ⟨fun z => by omega, fun _ => ⟨by omega, ?_⟩⟩⟩
        refine k2 j' q1 q2 (Or.inr (by rw [q5]; exact dd)) q5 _ ?_ ?_ (fun o p q => by rw [hs_o _ _ _ _ _ q, hs_o _ _ _ _ _ p])
        · rw [hs_o _ _ _ _ _ (by decide), hs_same]
        · rw [hst, hs_o _ _ _ _ _ (by decide), q5]
      · refine ⟨fun _ => ?_, fun z => absurd wI_0 z⟩
        rw [b3] at dd
        apply q_T_indexCluster_c81
        refine ⟨fun _ => k1 (fun j2 p1 p2 p3 p4 => ?_), fun z => absurd wI_0 z⟩
        have : j2 = j' := V_inj v p2 q2 (by rw [p4, q5])
        subst this
        rcases p3 with z | z
        · omega
        · rw [q5] at z; exact dd z
    · apply q_T_indexCluster_c81
      refine ⟨fun _ => k1 (fun j2 p1 p2 p3 p4 => ?_), fun z => absurd wI_0 z⟩
      have := (V_ln v p1 p2).1.1
      rw [p4] at this
      exact ty this
  have fin : ∀ b : AH, P b → Go G (pV P) 126 33 [some (vR 11), none, some (vI (R j i)), none, some (vI (4 * R j i + 2 + 2)), none] [] b := by
    intro b pb
    apply q_T_indexCluster_c33
    rw [wI_id (z := 4 * R j i + 4) (by omega) (by omega), wI_id (z := 4 * R j i + 2 + 2) (by omega) (by omega)]
    exact ⟨fun _ => pb, fun z => by omega⟩
  have two : ∀ j', 1 ≤ j' → al t j' → pt t j' = j → (t 3 j' / 4).toNat = i → t 1 j' = 4 * R j i + 0 ∨ t 1 j' = 4 * R j i + 2 := fun j' q1 q2 q3 q4 => by
    have w := v.1.2.2.2.1 j' q1 q2
    rw [q3, q4] at w
    have := w.2.1
    have := w.2.2.1
    omega
  have bk : ∀ j' o, (o = 0 ∨ o = 2) → 1 ≤ j' → al t j' → t 1 j' = 4 * R j i + o → pt t j' = j ∧ (t 3 j' / 4).toNat = i := fun j' o o02 q1 q2 q3 => by
    have c := V_cl v q1 q2
    have e := V_e v q1 q2
    have w := v.1.2.2.2.1 j' q1 q2
    exact v.1.2.2.1 _ _ _ _ w.1 a (by omega) hi (by omega)
  have o34 : b 3 = f := (bo 3 (by decide) (by decide)).trans h3
  have o11 : b 11 = h 11 := bo 11 (by decide) (by decide)
  have i0 := it b 0 (Or.inl rfl) o34 (by rw [o11]; omega) (fun _ _ _ _ _ => by rw [o11]; exact hQ.2)
  rw [show 4 * R j i + 0 + 2 = 4 * R j i + 2 by omega] at i0
  have goal := i0 (fun n0 => it b 2 (Or.inr rfl) o34 (by rw [o11]; omega) (fun _ _ _ _ _ => by rw [o11]; exact hQ.2) (fun n2 => fin b (HA b (fun j' q1 q2 q3 q4 q5 => ?_) b12 b13 bo)) (fun j' q1 q2 q3 q4 b2 c1 c2 c3 => fin b2 (HB b2 j' q1 q2 q3 (bk j' 2 (Or.inr rfl) q1 q2 q4).1 (bk j' 2 (Or.inr rfl) q1 q2 q4).2 ((c3 12 (by decide) (by decide)).trans b12) ((c3 13 (by decide) (by decide)).trans b13) (by rw [c1, o11]) (by rw [c2, o11, bo 14 (by decide) (by decide)]) (fun o p => (c3 o (by omega) (by omega)).trans (bo o (by omega) (by omega)))))) (fun j' q1 q2 q3 q4 b2 c1 c2 c3 => it b2 2 (Or.inr rfl) ((c3 3 (by decide) (by decide)).trans o34) (by rw [c1, o11]; omega) (fun j2 p1 p2 p3 p4 => ?_) (fun n2 => fin b2 (HB b2 j' q1 q2 q3 (bk j' 0 (Or.inl rfl) q1 q2 q4).1 (bk j' 0 (Or.inl rfl) q1 q2 q4).2 ((c3 12 (by decide) (by decide)).trans b12) ((c3 13 (by decide) (by decide)).trans b13) (by rw [c1, o11]) (by rw [c2, o11, bo 14 (by decide) (by decide)]) (fun o p => (c3 o (by omega) (by omega)).trans (bo o (by omega) (by omega))))) (fun j2 p1 p2 p3 p4 => ?_))
  · rw [show 4 * R j i + 0 = 4 * R j i by omega] at goal
    exact goal
  · rcases two j' q1 q2 q4 q5 with z | z
    · exact n0 j' q1 q2 q3 z
    · exact n2 j' q1 q2 q3 z
  · have := V_c1 v q1 q2 p1 p2 (by omega)
    subst this
    omega
  · have := V_c1 v q1 q2 p1 p2 (by omega)
    subst this
    omega
theorem dn_c {κ : Nat → Nat} {i c j i2 : Nat} : dn t κ i (c + 1) j i2 ↔ (dn t κ i c j i2 ∨ (κ i = j ∧ i2 = c)) := by
  unfold dn
  constructor
  · rintro (q | ⟨q1, q2⟩)
    · exact Or.inl (Or.inl q)
    · by_cases z : i2 = c
      · exact Or.inr ⟨q1, z⟩
      · exact Or.inl (Or.inr ⟨q1, by omega⟩)
  · rintro ((q | ⟨q1, q2⟩) | ⟨q1, q2⟩)
    · exact Or.inl q
    · exact Or.inr ⟨q1, by omega⟩
    · exact Or.inr ⟨q1, by omega⟩
theorem dn_i {κ : Nat → Nat} {i j i2 : Nat} : dn t κ (i + 1) 0 j i2 ↔ dn t κ i (Kt t (κ i)) j i2 := by
  unfold dn
  constructor
  · rintro (⟨i', q1, q2, q3⟩ | ⟨q1, q2⟩)
    · by_cases z : i' = i
      · subst z
        exact Or.inr ⟨q2, by rw [q2]; exact q3⟩
      · exact Or.inl ⟨i', by omega, q2, q3⟩
    · omega
  · rintro (⟨i', q1, q2, q3⟩ | ⟨q1, q2⟩)
    · exact Or.inl ⟨i', by omega, q2, q3⟩
    · exact Or.inl ⟨i, by omega, q1, by rw [← q1]; exact q2⟩
def stN (a : Nat → Nat) (j v : Nat) : Nat → Nat := fun x => if x = j then v else a x
theorem stN_s (a : Nat → Nat) (j v : Nat) : stN a j v j = v := if_pos rfl
theorem stN_n (a : Nat → Nat) {j x : Nat} (v : Nat) (h : x ≠ j) : stN a j v x = a x := if_neg h
theorem dn_st {κ : Nat → Nat} {Q j' i c j i2 : Nat} (hi : i < Q) : dn t (stN κ Q j') i c j i2 ↔ dn t κ i c j i2 := by
  unfold dn
  rw [stN_n _ _ (show i ≠ Q by omega)]
  constructor
  · rintro (⟨i', q1, q2, q3⟩ | q)
    · exact Or.inl ⟨i', q1, by rw [stN_n _ _ (show i' ≠ Q by omega)] at q2; exact q2, q3⟩
    · exact Or.inr q
  · rintro (⟨i', q1, q2, q3⟩ | q)
    · exact Or.inl ⟨i', q1, by rw [stN_n _ _ (show i' ≠ Q by omega)]; exact q2, q3⟩
    · exact Or.inr q
/-- one CLUSTER is done -/
theorem IX_mark (v : V f g n root mp t R) {κ : Nat → Nat} {i c Q : Nat} {h h' : AH} (X : IX f t R κ i c Q h) (hi : i < Q) (hc : c < Kt t (κ i)) (b12 : h' 12 = st (h 12) (R (κ i) c).toNat (t 1 (κ i))) (b13 : h' 13 = st (h 13) (R (κ i) c).toNat (if c + 1 < Kt t (κ i) then R (κ i) (c + 1) else 0)) : (∀ c' : Nat, c' < 102 → h' 12 c' = -1 ∨ ∃ j i2, al t j ∧ dirT f t j ∧ i2 < Kt t j ∧ R j i2 = (c' : Int)) ∧ (∀ j i2, al t j → dirT f t j → i2 < Kt t j → dn t κ i (c + 1) j i2 → h' 12 (R j i2).toNat = t 1 j ∧ h' 13 (R j i2).toNat = (if i2 + 1 < Kt t j then R j (i2 + 1) else 0)) := by
  obtain ⟨x1, x2, x3, x4, x5, x6, x7⟩ := X
  obtain ⟨a, d, _⟩ := x2 i hi
  have nn := V_n v
  have cl := (v.1.2.1 _ a c hc).1
  unfold clu at cl
  refine ⟨fun c' hc' => ?_, fun j i2 aj dj hi2 dd => ?_⟩
  · rw [b12]
    by_cases z : c' = (R (κ i) c).toNat
    · exact Or.inr ⟨κ i, c, a, d, hc, by omega⟩
    · rw [st_n _ _ z]; exact x6 c' hc'
  · rw [b12, b13]
    by_cases z : (R j i2).toNat = (R (κ i) c).toNat
    · have cj := (v.1.2.1 _ aj i2 hi2).1
      unfold clu at cj
      have o := v.1.2.2.1 j (κ i) i2 c aj a hi2 hc (by omega)
      have o1 := o.1
      have o2 := o.2
      rw [z, st_s, st_s, o1, o2]
      exact ⟨rfl, rfl⟩
    · rw [st_n _ _ z, st_n _ _ z]
      rcases dn_c.mp dd with q | ⟨q1, q2⟩
      · exact x7 j i2 aj dj hi2 q
      · exact absurd (by rw [← q1, q2]) z
theorem T_index {P : AH → Prop} (v : V f g n root mp t R) (h3 : h 3 = f) (h71 : h 7 1 = n) (h72 : h 7 2 = root) (H : ∀ h', Hd f t R h' → (∀ o, ¬ (11 ≤ o ∧ o ≤ 16) → h' o = h o) → P h') : RunsV G 125 [vR 11] h P := by
  have nn := V_n v
  apply q_T_index
  refine J_fill_12 (fun b1 e1 o1 => J_fill_13 (fun b2 e2 o2 => ⟨by omega, ?_⟩))
  have outer : ∀ (m i Q : Nat) (κ : Nat → Nat) (b : AH), i + m = 102 → i ≤ Q → IX f t R κ i 0 Q b → (∀ o, ¬ (11 ≤ o ∧ o ≤ 16) → b o = h o) → Go G (pV P) 125 30 [some (vR 11), some (vI (i : Int)), none] [] b := by
    intro m
    induction m with
    | zero =>
      intro i Q κ b hm iq X ob
      have := V_cnt v (Q := Q - 1) (κ := fun x => κ (x + 1)) (fun x hx => ⟨(X.2.2.2.1 (x + 1) (by omega) (by omega)).1, (X.2.1 (x + 1) (by omega)).1⟩) (fun x y p q => X.2.2.1 (x + 1) (y + 1) (by omega) (by omega))
      have := X.1.2.1
      omega
    | succ m ih =>
      intro i Q κ b hm iq X ob
      have cnt := V_cnt v (Q := Q - 1) (κ := fun x => κ (x + 1)) (fun x hx => ⟨(X.2.2.2.1 (x + 1) (by omega) (by omega)).1, (X.2.1 (x + 1) (by omega)).1⟩) (fun x y p q => X.2.2.1 (x + 1) (y + 1) (by omega) (by omega))
      have Q1 := X.1.2.1
      apply q_T_index_c30
      rw [X.1.1, wI_id (z := (Q : Int)) (by omega) (by omega), wI_id (z := (i : Int)) (by omega) (by omega)]
      refine ⟨fun z => H b ?_ ob, fun z => ⟨fun y => by omega, fun _ => ⟨by omega, ?_⟩⟩⟩
      · have ei : i = Q := (by omega)
        subst ei
        have all : ∀ (r : Nat) (j : Nat), al t j → dirT f t j → t 5 j ≤ r → ∃ x, x < i ∧ κ x = j := by
          intro r
          induction r with
          | zero =>
            intro j a d hr
            by_cases z : j = 0
            · exact ⟨0, by omega, by rw [z]; exact X.1.2.2⟩
            · have := v.1.2.2.2.1 j (by omega) a
              omega
          | succ r ihr =>
            intro j a d hr
            by_cases z : j = 0
            · exact ⟨0, by omega, by rw [z]; exact X.1.2.2⟩
            · have w := v.1.2.2.2.1 j (by omega) a
              have dp := (v.2.1 j (by omega) a).1
              have e := V_e v (j := j) (by omega) a
              obtain ⟨x, hx, ex⟩ := ihr (pt t j) w.1 dp (by omega)
              exact X.2.2.2.2.1 j (by omega) a d (Or.inl ⟨x, hx, ex, by omega⟩)
        refine ⟨X.2.2.2.2.2.1, fun j i2 a d hi2 => ?_⟩
        obtain ⟨x, hx, ex⟩ := all (t 5 j).toNat j a d (by omega)
        exact X.2.2.2.2.2.2 j i2 a d hi2 (Or.inl ⟨x, hx, ex, hi2⟩)
      · rw [show (i : Int).toNat = i by omega, (X.2.1 i (by omega)).2.2]
        obtain ⟨a, d, _⟩ := X.2.1 i (by omega)
        have kn := V_K v a
        refine T_openV_15 v ((ob 3 (by omega)).trans h3) (by rw [ob 7 (by omega)]; exact h71) (by rw [ob 7 (by omega)]; exact h72) a (fun b' ro fr => ?_)
        have inner : ∀ (m' c Q : Nat) (κ' : Nat → Nat) (b : AH), c + m' = Kt t (κ i) → i < Q → κ' i = κ i → IX f t R κ' i c Q b → Ro b 15 16 (Kt t (κ i)) (R (κ i)) → (∀ o, ¬ (11 ≤ o ∧ o ≤ 16) → b o = h o) → Go G (pV P) 125 63 [some (vR 11), some (vI (i : Int)), some (vI (c : Int))] [] b := by
          intro m'
          induction m' with
          | zero =>
            intro c Q κ' b hm' iq ek X ro ob
            apply q_T_index_c63
            rw [ro.1, wI_id (z := (Kt t (κ i) : Int)) (by omega) (by omega), wI_id (z := (c : Int)) (by omega) (by omega)]
            refine ⟨fun _ => ?_, fun z => by omega⟩
            rw [show (i : Int) + 1 = ((i + 1 : Nat) : Int) by omega]
            refine ih (i + 1) Q κ' b (by omega) (by omega) ?_ ob
            rw [show c = Kt t (κ i) by omega, ← ek] at X
            obtain ⟨x1, x2, x3, x4, x5, x6, x7⟩ := X
            exact ⟨x1, x2, x3, fun x p q => ⟨(x4 x p q).1, dn_i.mpr (x4 x p q).2⟩, fun j p q r s => x5 j p q r (dn_i.mp s), x6, fun j i2 p q r s => x7 j i2 p q r (dn_i.mp s)⟩
          | succ m' ih' =>
            intro c Q κ' b hm' iq ek X ro ob
            have cnt := V_cnt v (Q := Q - 1) (κ := fun x => κ' (x + 1)) (fun x hx => ⟨(X.2.2.2.1 (x + 1) (by omega) (by omega)).1, (X.2.1 (x + 1) (by omega)).1⟩) (fun x y p q => X.2.2.1 (x + 1) (y + 1) (by omega) (by omega))
            have Q1 := X.1.2.1
            apply q_T_index_c63
            rw [ro.1, wI_id (z := (Kt t (κ i) : Int)) (by omega) (by omega), wI_id (z := (c : Int)) (by omega) (by omega), wI_id (z := (i : Int)) (by omega) (by omega)]
            refine ⟨fun z => by omega, fun _ => ⟨by omega, ?_⟩⟩
            refine C_at_15 ro (by omega) (by omega) ?_
            rw [show (c : Int).toNat = c by omega, show (i : Int).toNat = i by omega, (X.2.1 i iq).2.2, ek]
            have body : ∀ x, x = (if c + 1 < Kt t (κ i) then R (κ i) (c + 1) else 0) → RunsV G 126 [vR 11, vI (t 1 (κ i)), vI (R (κ i) c), vI x] b (fun h3 => Go G (pV P) 125 63 [some (vR 11), some (vI (i : Int)), some (vI ((c : Int) + 1))] [] h3) := by
              intro x ex
              rw [show (c : Int) + 1 = ((c + 1 : Nat) : Int) by omega]
              refine T_indexCluster v ((ob 3 (by omega)).trans h3) a d (by omega) (by rw [X.1.1]; omega) (fun b3 no c12 c13 o3 => ?_) (fun b3 j' q1 q2 q3 q4 q5 c12 c13 c11 c14 o3 => ?_)
              · rw [ex] at c13
                have mk := IX_mark v (h' := b3) X iq (by rw [ek]; omega) (by rw [ek]; exact c12) (by rw [ek]; exact c13)
                obtain ⟨x1, x2, x3, x4, x5, x6, x7⟩ := X
                refine ih' (c + 1) Q κ' b3 (by omega) iq ek ⟨by rw [o3 11 (by decide) (by decide)]; exact x1, by rw [o3 14 (by decide) (by decide)]; exact x2, x3, fun y p q => ⟨(x4 y p q).1, dn_c.mpr (Or.inl (x4 y p q).2)⟩, fun j p q r s => ?_, mk.1, mk.2⟩ (by unfold Ro; rw [o3 15 (by decide) (by decide), o3 16 (by decide) (by decide)]; exact ro) (fun o p => (o3 o (by omega) (by omega)).trans (ob o p))
                rcases dn_c.mp s with s | ⟨s1, s2⟩
                · exact x5 j p q r s
                · exact (no j p q r (by rw [← s1, ek]) s2).elim
              · rw [ex] at c13
                have mk := IX_mark v (h' := b3) X iq (by rw [ek]; omega) (by rw [ek]; exact c12) (by rw [ek]; exact c13)
                obtain ⟨x1, x2, x3, x4, x5, x6, x7⟩ := id X
                rw [x1.1, show (Q : Int).toNat = Q by omega] at c14
                have dnew : dn t κ' i (c + 1) (pt t j') (t 3 j' / 4).toNat := dn_c.mpr (Or.inr ⟨by rw [ek, q4], q5⟩)
                have nold : ∀ x, x < Q → κ' x ≠ j' := fun x hx e => by
                  by_cases z : x = 0
                  · rw [z, x1.2.2] at e; omega
                  · have w := (x4 x (by omega) hx).2
                    rw [e, q4, q5] at w
                    rcases w with ⟨i', w1, w2, w3⟩ | ⟨w1, w2⟩
                    · exact x3 i' i w1 iq (by rw [w2, ek])
                    · omega
                refine ih' (c + 1) (Q + 1) (stN κ' Q j') b3 (by omega) (by omega) (by rw [stN_n _ _ (by omega)]; exact ek) ⟨⟨by rw [c11, x1.1]; omega, by omega, by rw [stN_n _ _ (by omega)]; exact x1.2.2⟩, fun y hy => ?_, fun y y' p q => ?_, fun y p q => ?_, fun j p q r s => ?_, mk.1, fun j i2 p q r s => mk.2 j i2 p q r ((dn_st iq).mp s)⟩ (by unfold Ro; rw [o3 15 (by decide), o3 16 (by decide)]; exact ro) (fun o p => (o3 o (by omega)).trans (ob o p))
                · by_cases z : y = Q
                  · rw [z, stN_s, c14, st_s]; exact ⟨q2, q3, rfl⟩
                  · rw [stN_n _ _ z, c14, st_n _ _ z]; exact x2 y (by omega)
                · by_cases z : y' = Q
                  · rw [z, stN_s, stN_n _ _ (by omega)]; exact nold y (by omega)
                  · rw [stN_n _ _ z, stN_n _ _ (by omega)]; exact x3 y y' p (by omega)
                · rw [dn_st iq]
                  by_cases z : y = Q
                  · rw [z, stN_s]; exact ⟨q1, dnew⟩
                  · rw [stN_n _ _ z]; exact ⟨(x4 y p (by omega)).1, dn_c.mpr (Or.inl (x4 y p (by omega)).2)⟩
                · rw [dn_st iq] at s
                  rcases dn_c.mp s with s | ⟨s1, s2⟩
                  · obtain ⟨y, y1, y2⟩ := x5 j p q r s
                    exact ⟨y, by omega, by rw [stN_n _ _ (by omega)]; exact y2⟩
                  · refine ⟨Q, by omega, ?_⟩
                    rw [stN_s]
                    refine V_c1 v q1 q2 p q ?_
                    have w1 := V_cl v p q
                    have w2 := V_cl v q1 q2
                    rw [w1.2.2.2.2.2, w2.2.2.2.2.2, q4, q5, ← s1, s2, ek]
            by_cases z : c + 1 < Kt t (κ i)
            · refine C_at_15 ro (by omega) (by omega) ?_
              rw [show ((c : Int) + 1).toNat = c + 1 by omega]
              exact body _ (by rw [if_pos z])
            · exact C_at0_15 ro (by omega) (by omega) (body 0 (by rw [if_neg z]))
        have X' : IX f t R κ i 0 Q b' := by
          obtain ⟨x1, x2, x3, x4, x5, x6, x7⟩ := X
          exact ⟨by rw [fr 11 (by decide) (by decide)]; exact x1, by rw [fr 14 (by decide) (by decide)]; exact x2, x3, x4, x5, by rw [fr 12 (by decide) (by decide)]; exact x6, by rw [fr 12 (by decide) (by decide), fr 13 (by decide) (by decide)]; exact x7⟩
        exact inner (Kt t (κ i)) 0 Q κ b' (by omega) (by omega) rfl X' ro (fun o p => (fr o (by omega) (by omega)).trans (ob o p))
  have eb : ∀ o, ¬ (11 ≤ o ∧ o ≤ 16) → (hs (hs b2 14 0 0) 11 6 1) o = h o := fun o p => by rw [hs_o _ _ _ _ _ (by omega), hs_o _ _ _ _ _ (by omega), o2 o (by omega), o1 o (by omega)]
  refine outer 102 0 1 (fun _ => 0) _ rfl (by omega) ⟨⟨hs_same _ _ _ _, by omega, rfl⟩, fun x hx => ⟨v.1.1.1, Or.inl rfl, ?_⟩, fun x y p q => by omega, fun x p q => by omega, fun j p q r s => ?_, fun c' hc' => Or.inl ?_, fun j i2 p q r s => ?_⟩ eb
  · rw [show x = 0 by omega, hs_o _ _ _ _ _ (by decide), hs_same]
    exact v.1.1.2.1.symm
  · rcases s with ⟨i', w, _⟩ | ⟨_, w⟩ <;> omega
  · rw [hs_o _ _ _ _ _ (by decide), hs_o _ _ _ _ _ (by decide), o2 12 (by decide), e1]
    unfold fil
    rw [if_pos (by omega)]
  · rcases s with ⟨i', w, _⟩ | ⟨_, w⟩ <;> omega
end INDEX
