/-! move: what is within what; the list is one -/
def pth (t : AH) : Nat → Nat → Nat
  | 0, j => j
  | i + 1, j => if j = 0 then 0 else pth t i (pt t j)
def Wn (t : AH) (jj j : Nat) : Prop := ∃ i, pth t i j = jj
theorem pth_0 (t : AH) (i : Nat) : pth t i 0 = 0 := by
  cases i with
  | zero => rfl
  | succ i => exact if_pos rfl
theorem pth_s {t : AH} {j : Nat} (j0 : j ≠ 0) (i : Nat) : pth t (i + 1) j = pth t i (pt t j) := if_neg j0
theorem Wn_0 {t : AH} {jj : Nat} (j1 : 1 ≤ jj) : ¬ Wn t jj 0 := fun ⟨i, e⟩ => by
  rw [pth_0] at e
  omega
theorem Wn_s {t : AH} {jj j : Nat} (j0 : j ≠ 0) : Wn t jj j ↔ (j = jj ∨ Wn t jj (pt t j)) := by
  constructor
  · intro ⟨i, e⟩
    cases i with
    | zero => exact Or.inl e
    | succ i => rw [pth_s j0] at e; exact Or.inr ⟨i, e⟩
  · intro h
    rcases h with h | ⟨i, e⟩
    · exact ⟨0, h⟩
    · exact ⟨i + 1, by rw [pth_s j0]; exact e⟩
theorem pth_add (t : AH) (d : Nat) : ∀ i j, pth t (i + d) j = pth t d (pth t i j) := by
  intro i
  induction i with
  | zero => intro j; rw [Nat.zero_add]; rfl
  | succ i ih =>
    intro j
    by_cases z : j = 0
    · rw [z, pth_0, pth_0, pth_0]
    · rw [show i + 1 + d = i + d + 1 by omega, pth_s z, pth_s z]; exact ih _
section WITHIN
variable {f g : Nat → Int} {n root mp : Int} {t R : AH} {G : GG} {h : AH}
theorem pth_al (v : V f g n root mp t R) : ∀ i j, al t j → al t (pth t i j) := by
  intro i
  induction i with
  | zero => intro j a; exact a
  | succ i ih =>
    intro j a
    by_cases z : j = 0
    · rw [z, pth_0]; exact v.1.1.1
    · rw [pth_s z]; exact ih _ (v.1.2.2.2.1 j (by omega) a).1
theorem pth_lt (v : V f g n root mp t R) : ∀ d j, al t j → j ≠ 0 → pth t (d + 1) j ≠ 0 → t 5 (pth t (d + 1) j) < t 5 j := by
  intro d
  induction d with
  | zero =>
    intro j a j0 _
    rw [pth_s j0]
    exact (v.1.2.2.2.1 j (by omega) a).2.2.2.1
  | succ d ih =>
    intro j a j0 ne
    have w := v.1.2.2.2.1 j (by omega) a
    rw [pth_s j0] at ne ⊢
    have p0 : pt t j ≠ 0 := fun y => by rw [y, pth_0] at ne; exact ne rfl
    have := ih _ w.1 p0 ne
    have := w.2.2.2.1
    omega
theorem pth_end (v : V f g n root mp t R) {j : Nat} (a : al t j) : ∃ s, s ≤ 100 ∧ pth t s j = 0 := Classical.byContradiction (fun no => by
  have nn := V_n v
  have all : ∀ s, s ≤ 100 → pth t s j ≠ 0 := fun s hs e => no ⟨s, hs, e⟩
  have := V_cnt v (Q := 101) (κ := fun i => pth t i j) (fun i hi => ⟨by have := all i (by omega); omega, pth_al v i j a⟩) (fun i i' p q e => by
    have e' : pth t i j = pth t i' j := e
    have x := pth_add t (i' - i - 1 + 1) i j
    rw [show i + (i' - i - 1 + 1) = i' by omega] at x
    have y := pth_lt v (i' - i - 1) (pth t i j) (pth_al v i j a) (all i (by omega)) (by rw [← x]; exact all i' (by omega))
    rw [← x, e'] at y
    omega)
  omega)
theorem T_isWithin {P : Int → AH → Prop} {jj jd : Nat} (v : V f g n root mp t R) (hd : Hd f t R h) (j1 : 1 ≤ jj) (aj : al t jj) (a : al t jd) (H1 : Wn t jj jd → P 1 h) (H0 : ¬ Wn t jj jd → P 0 h) : RunsI G 132 [vR 11, vI (t 1 jd), vI (t 1 jj)] h P := by
  have nn := V_n v
  have cj := V_cl v j1 aj
  have zro : ∀ c : Nat, (¬ Wn t jj 0 → P 0 h) → c ≤ 101 → Go G (pI P) 132 5 [some (vR 11), none, some (vI (t 1 jj)), some (vI (t 1 0)), some (vI (c : Int)), none] [] h := by
    intro c k0 hc
    apply q_T_isWithin_c5
    rw [v.1.1.2.1, wI_id (z := (c : Int)) (by omega) (by omega)]
    exact ⟨fun y => by omega, fun _ => ⟨fun _ => ⟨Or.inl rfl, k0 (Wn_0 j1)⟩, fun y => absurd (by decide) y⟩⟩
  have key : ∀ (s j c : Nat), al t j → pth t s j = 0 → c + s ≤ 101 → (Wn t jj j → P 1 h) → (¬ Wn t jj j → P 0 h) → Go G (pI P) 132 5 [some (vR 11), none, some (vI (t 1 jj)), some (vI (t 1 j)), some (vI (c : Int)), none] [] h := by
    intro s
    induction s with
    | zero =>
      intro j c a e0 cs k1 k0
      have z : j = 0 := e0
      subst z
      exact zro c k0 (by omega)
    | succ s ih =>
      intro j c a e0 cs k1 k0
      by_cases z : j = 0
      · subst z
        exact zro c k0 (by omega)
      · have cl := V_cl v (show 1 ≤ j by omega) a
        have w := v.1.2.2.2.1 j (by omega) a
        have ee := V_e v (show 1 ≤ j by omega) a
        have dp := (v.2.1 j (by omega) a).1
        have cc := cl.1
        unfold clu at cc
        rw [pth_s z] at e0
        rw [Wn_s z] at k1 k0
        apply q_T_isWithin_c5
        rw [wI_id (z := (c : Int)) (by omega) (by omega), wI_id (z := t 1 j) (by omega) (by omega), wI_id (z := t 1 jj) (by omega) (by omega), sRI_2 (by omega) (by omega), wI_id (z := t 1 j / 4) (by omega) (by omega)]
        refine ⟨fun y => by omega, fun _ => ⟨fun y => by omega, fun _ => ⟨fun y => ⟨Or.inr rfl, k1 (Or.inl (V_inj v a aj y))⟩, fun y => ⟨fun y2 => by omega, fun _ => ⟨by omega, ?_⟩⟩⟩⟩⟩
        rw [cl.2.2.2.2.2, (hd.2 _ _ w.1 dp (show (t 3 j / 4).toNat < Kt t (pt t j) by omega)).1, show (c : Int) + 1 = ((c + 1 : Nat) : Int) by omega]
        exact ih _ _ w.1 e0 (by omega) (fun x => k1 (Or.inr x)) (fun x => k0 (fun q => by
          rcases q with q | q
          · exact y (by rw [q])
          · exact x q))
  obtain ⟨s, s1, s2⟩ := pth_end v a
  apply q_T_isWithin
  exact key s jd 0 a s2 (by omega) H1 H0
theorem M_isWithin {P : Int → AH → Prop} {z : AH} {jj jd kj kd : Nat} (v : V f g n root mp t R) (Z : ZR f g n root t R z h) (j1 : 1 ≤ jj) (aj : al t jj) (hj : (kj : Int) < z 1 0) (ej : t 1 jj = z 2 kj) (a : al t jd) (hk : (kd : Int) < z 1 0) (ed : t 1 jd = z 2 kd) (H1 : Wn t jj jd → P 1 h) (H0 : ¬ Wn t jj jd → P 0 h) : RunsI G 268 [vR 34, vI (kj : Int), vI (kd : Int)] h P := by
  have nn := V_n v
  have NN : z 1 0 ≤ n + 1 := by obtain ⟨k', S, _⟩ := Z; exact SI_N S (by omega)
  have kj0 : kj = 0 ↔ jj = 0 := by obtain ⟨k', S, _⟩ := Z; exact SL_0 v S aj hj ej
  have h42 : h 42 0 = -9 := by obtain ⟨k', S, kl, L, A⟩ := id Z; exact A.2.2.1.1
  have zro : (¬ Wn t jj 0 → P 0 h) → Go G (pI P) 268 2 [some (vR 34), some (vI (kj : Int)), none, some (vI ((0 : Nat) : Int))] [] h := by
    intro k0
    apply q_M_isWithin_c2
    rw [wI_id (z := (kj : Int)) (by omega) (by omega), wI_id (z := ((0 : Nat) : Int)) (by omega) (by omega)]
    refine ⟨fun y => by omega, fun _ => ⟨fun y => by omega, fun _ => ⟨by omega, ?_⟩⟩⟩
    rw [show (((0 : Nat) : Int)).toNat = 0 by omega, h42]
    apply q_M_isWithin_c2
    rw [wI_id (z := (kj : Int)) (by omega) (by omega), wI_id (z := (-9 : Int)) (by omega) (by omega)]
    exact ⟨fun _ => ⟨fun y => by omega, fun _ => ⟨Or.inl rfl, k0 (Wn_0 j1)⟩⟩, fun y => absurd rfl y⟩
  have key : ∀ (s j k : Nat), al t j → (k : Int) < z 1 0 → t 1 j = z 2 k → pth t s j = 0 → (Wn t jj j → P 1 h) → (¬ Wn t jj j → P 0 h) → Go G (pI P) 268 2 [some (vR 34), some (vI (kj : Int)), none, some (vI (k : Int))] [] h := by
    intro s
    induction s with
    | zero =>
      intro j k a hk e e0 k1 k0
      have z' : j = 0 := e0
      subst z'
      have : k = 0 := by obtain ⟨k', S, _⟩ := Z; exact (SL_0 v S a hk e).mpr rfl
      rw [this]
      exact zro k0
    | succ s ih =>
      intro j k a hk e e0 k1 k0
      by_cases z' : j = 0
      · subst z'
        have : k = 0 := by obtain ⟨k', S, _⟩ := Z; exact (SL_0 v S a hk e).mpr rfl
        rw [this]
        exact zro k0
      · have kn : 1 ≤ k := by
          have : k = 0 ↔ j = 0 := by obtain ⟨k', S, _⟩ := Z; exact SL_0 v S a hk e
          omega
        obtain ⟨kp, p42, pk, pp, _⟩ := ZR_par v Z hk a e kn
        have w := v.1.2.2.2.1 j (by omega) a
        rw [pth_s z'] at e0
        rw [Wn_s z'] at k1 k0
        apply q_M_isWithin_c2
        rw [wI_id (z := (kj : Int)) (by omega) (by omega), wI_id (z := (k : Int)) (by omega) (by omega)]
        refine ⟨fun y => by omega, fun _ => ⟨fun y => ⟨fun _ => ⟨Or.inr rfl, k1 (Or.inl (V_inj v a aj ?_))⟩, fun y' => absurd y y'⟩, fun y => ⟨by omega, ?_⟩⟩⟩
        · rw [e, ej, show k = kj by omega]
        rw [show (k : Int).toNat = k by omega, p42]
        refine ih _ _ w.1 pk pp e0 (fun x => k1 (Or.inr x)) (fun x => k0 (fun q => ?_))
        rcases q with q | q
        · refine y ?_
          have : k = kj := by
            obtain ⟨k', S, _⟩ := Z
            have i5 := S.2.2.2.2.1
            rcases Nat.lt_trichotomy k kj with x' | x' | x'
            · exact absurd (by rw [← e, ← ej, q]) (i5 k kj x' hj)
            · exact x'
            · exact absurd (by rw [← e, ← ej, q]) (i5 kj k x' hk)
          omega
        · exact x q
  obtain ⟨s, s1, s2⟩ := pth_end v a
  apply q_M_isWithin
  exact key s jd kd a hk ed s2 H1 H0
theorem ZR_half (v : V f g n root mp t R) {z z' b b' : AH} (Z : ZR f g n root t R z b) (Z' : ZR f g n root t R z' b') {k : Nat} (k1 : 1 ≤ k) (hk : (k : Int) < z 1 0) (eq : ∀ i, i < k → z 2 i = z' 2 i) (ne : z 2 k ≠ z' 2 k) : z' 3 k ≤ z 3 k ∧ (z' 3 k = z 3 k → z' 4 k < z 4 k) := by
  obtain ⟨_, S, kl, L, A⟩ := id Z
  obtain ⟨_, S', kl', L', A'⟩ := id Z'
  obtain ⟨jj, a, e⟩ := L.1 k hk
  obtain ⟨j, hj, ej⟩ := SL_all v S' kl' L' jj a
  have jk : k < j := by
    rcases Nat.lt_trichotomy k j with x | x | x
    · exact x
    · rw [← x] at ej
      exact absurd (by rw [ej, e]) ne
    · exact absurd (by rw [eq j x, ej, e]) (S.2.2.2.2.1 j k x hk)
  obtain ⟨kp, p42, pk, pp, p43, _⟩ := ZR_par v Z hk a e k1
  obtain ⟨kq, q42, qk, qq, q43, _⟩ := ZR_par v Z' hj a ej.symm (by omega)
  have a1 := A.2.2.2 k k1 hk
  have a2 := A'.2.2.2 j (by omega) hj
  have l1 := L.2.2.2 k k1 hk
  have l2 := L'.2.2.1 k j k1 jk hj
  rw [p42, p43] at a1
  rw [q42, q43] at a2
  have same : kp = kq := by
    have x1 := eq kp (by omega)
    rw [← pp, qq] at x1
    rcases Nat.lt_trichotomy kp kq with x | x | x
    · exact absurd x1.symm (S'.2.2.2.2.1 kp kq x qk)
    · exact x
    · exact absurd x1 (S'.2.2.2.2.1 kq kp x (by omega))
  rw [← a2.1, ← a2.2.1, ← same, a1.1, a1.2.1] at l2
  exact l2
theorem ZR_eq (v : V f g n root mp t R) {z z' b b' : AH} (Z : ZR f g n root t R z b) (Z' : ZR f g n root t R z' b') : ∀ m k : Nat, k < m → (k : Int) < z 1 0 → (k : Int) < z' 1 0 ∧ z 2 k = z' 2 k := by
  obtain ⟨_, S, kl, L, A⟩ := id Z
  obtain ⟨_, S', kl', L', A'⟩ := id Z'
  have n1 := S.1.1
  have n1' := S'.1.1
  intro m
  induction m with
  | zero => intro k p; omega
  | succ m ih =>
    intro k p hk
    by_cases k0 : k = 0
    · subst k0
      rw [S.1.2.1, S'.1.2.1]
      exact ⟨by omega, rfl⟩
    · have eq : ∀ i, i < k → z 2 i = z' 2 i := fun i hi => (ih i (by omega) (by omega)).2
      have hk' : (k : Int) < z' 1 0 := Classical.byContradiction (fun y => by
        obtain ⟨jj, a, e⟩ := L.1 k hk
        obtain ⟨j, hj, ej⟩ := SL_all v S' kl' L' jj a
        exact absurd (by rw [eq j (by omega), ej, e]) (S.2.2.2.2.1 j k (by omega) hk))
      refine ⟨hk', Classical.byContradiction (fun ne => ?_)⟩
      have x1 := ZR_half v Z Z' (by omega) hk eq ne
      have x2 := ZR_half v Z' Z (by omega) hk' (fun i hi => (eq i hi).symm) (fun y => ne y.symm)
      omega
end WITHIN
