/-! the walk: what holds of it goes on to hold -/
theorem Lk_sy {f g : Nat → Int} {a b c d : Int} (h : Lk f g a b c d) : Lk f g c d a b := ⟨h.1.symm, fun i hi => (h.2 i (by rw [h.1]; exact hi)).symm⟩
theorem ea_al (r : Nat → Int) (e : Int) : ea r e % 32 = 0 := by unfold ea ca; omega
theorem ea_ne {r r' : Nat → Int} {q q' : Int} (h0 : 0 ≤ q) (h1 : 0 ≤ q') (h : r (q / 4).toNat ≠ r' (q' / 4).toNat ∨ q % 4 ≠ q' % 4) : ea r q ≠ ea r' q' := by unfold ea ca; omega
theorem ea_in {r : Nat → Int} {q : Int} : ca (r (q / 4).toNat) ≤ ea r q ∧ ea r q + 32 ≤ ca (r (q / 4).toNat) + 128 := by unfold ea; omega
theorem ca_ne {c c' a : Int} (h : c ≠ c') (h0 : ca c ≤ a) (h1 : a < ca c + 128) : ¬ (ca c' ≤ a ∧ a < ca c' + 128) := by unfold ca at *; omega
theorem tc_1 (f : Nat → Int) (c : Int) : ∀ i : Nat, tc f 1 c i = c + i
  | 0 => by simp only [tc]; omega
  | i + 1 => by rw [tc, nxt, if_pos rfl, tc_1 f c i]; omega
theorem tc_per {f : Nat → Int} {b c : Int} {i d : Nat} (h : tc f b c i = tc f b c (i + d)) : ∀ j : Nat, tc f b c (i + j) = tc f b c (i + d + j)
  | 0 => h
  | j + 1 => by
    have := tc_per h j
    show nxt f b (tc f b c (i + j)) = nxt f b (tc f b c (i + d + j))
    rw [this]
/-- a chain that has its END has no CLUSTER twice -/
theorem tc_inj {f : Nat → Int} {b c n : Int} {K : Nat} (hn : n ≤ 100) (hk : ∀ i, i < K → clu n (tc f b c i)) (he : tc f b c K = 4294967295) {i j : Nat} (hij : i < j) (hj : j < K) : tc f b c i ≠ tc f b c j := by
  intro h
  have p : ∀ m : Nat, tc f b c (i + m) = tc f b c (j + m) := fun m => by
    have := tc_per (f := f) (b := b) (c := c) (i := i) (d := j - i) (by rw [show i + (j - i) = j by omega]; exact h) m
    rw [show i + (j - i) + m = j + m by omega] at this
    exact this
  have q := p (K - j)
  rw [show j + (K - j) = K by omega, he] at q
  have r := hk (i + (K - j)) (by omega)
  unfold clu at r
  omega
theorem SetOK_3 {f g : Nat → Int} {n hd tl room : Int} (h : SetOK f g n hd tl room) : (rd f (hd + 1) = 2 ∨ rd f (hd + 1) = 3) ∧ 1 + rd f (hd + 1) ≤ room ∧ rd f hd = 133 ∧ rd f (hd + 32) = 192 ∧ rd f tl = 193 ∧ (rd f (hd + 1) = 3 → rd f (tl + 32) = 193) := by
  have s1 := h.2.2.2.1.2.2.1.1
  have s2 := h.2.2.2.1.1
  have s3 := h.2.2.2.1.2.1
  have k : rd f (hd + 1) = 2 ∨ rd f (hd + 1) = 3 := by omega
  have t := h.2.2.2.1.2.2.2.2.1
  have t0 := (t 0 (by omega) (by omega)).1
  rw [show tl + 32 * 0 = tl by omega] at t0
  refine ⟨k, h.1.2.1, h.1.1, h.2.1.1, t0, fun q => ?_⟩
  have := (t 1 (by omega) (by omega)).1
  rw [show tl + 32 * 1 = tl + 32 by omega] at this
  exact this
theorem ha_ea {r : Nat → Int} {e : Int} : ea r e = ha (4 * r (e / 4).toNat + e % 4) := by unfold ea ha ca; omega
section WALK2
variable {f g : Nat → Int} {n root : Int} {K0 : Nat} {md : Int} {s : AH} {k : Nat} {e : Int}
theorem SI_own (S : SI f g n root K0 md s k e) {j j' : Nat} (hj : (j : Int) < s 1 0) (hj' : (j' : Int) < s 1 0) {i i' : Nat} (hi : i < rkJ f K0 s j) (hi' : i' < rkJ f K0 s j') (h : rwJ f root s j i = rwJ f root s j' i') : j = j' ∧ i = i' := by
  obtain ⟨i1, i2, i3, i4, i5, _⟩ := S
  have a := (i2 j hj i hi).2
  have b := (i2 j' hj' i' hi').2
  rw [h, b] at a
  have e1 : j = j' := by
    rcases Nat.lt_trichotomy j j' with q | q | q
    · exact absurd a.symm (i5 j j' q hj')
    · exact q
    · exact absurd a (i5 j' j q hj)
  subst e1
  refine ⟨rfl, ?_⟩
  rcases Nat.lt_trichotomy i i' with q | q | q
  · exact absurd h (i3 j hj i i' q hi')
  · exact q
  · exact absurd h.symm (i3 j hj i' i q hi)
theorem SI_row (S : SI f g n root K0 md s k e) {j : Nat} (hj : (j : Int) < s 1 0) {q : Int} (h0 : 0 ≤ q) (h1 : q < 4 * (rkJ f K0 s j : Int)) : clu n (rwJ f root s j (q / 4).toNat) := (S.2.1 j hj _ (by omega)).1
theorem SI_ea (S : SI f g n root K0 md s k e) {j j' : Nat} (hj : (j : Int) < s 1 0) (hj' : (j' : Int) < s 1 0) {q q' : Int} (h0 : 0 ≤ q) (h1 : q < 4 * (rkJ f K0 s j : Int)) (h0' : 0 ≤ q') (h1' : q' < 4 * (rkJ f K0 s j' : Int)) (h : ¬ (j = j' ∧ q = q')) : ea (rwJ f root s j) q ≠ ea (rwJ f root s j') q' := by
  refine ea_ne h0 h0' ?_
  by_cases c : rwJ f root s j (q / 4).toNat = rwJ f root s j' (q' / 4).toNat
  · have o := SI_own S hj hj' (by omega) (by omega) c
    refine Or.inr (fun c2 => h ⟨o.1, ?_⟩)
    have := o.2
    omega
  · exact Or.inl c
/-- two SETS do not begin in one CLUSTER -/
theorem SI_c1 (S : SI f g n root K0 md s k e) (hn : n ≤ 100) {j j' : Nat} (a : 1 ≤ j) (hj : (j : Int) < s 1 0) (a' : 1 ≤ j') (hj' : (j' : Int) < s 1 0) (h : s 2 j / 4 = s 2 j' / 4) : j = j' := by
  obtain ⟨i1, i2, i3, i4, i5, i6, i7, i8, i9, i10⟩ := id S
  obtain ⟨p1, p2, p3, p4, p5⟩ := i4 j a hj
  obtain ⟨q1, q2, q3, q4, q5⟩ := i4 j' a' hj'
  have r1 := (SetOK_3 p5).2.1
  have r2 := (SetOK_3 q5).2.1
  have m1 := (SetOK_3 p5).1
  have m2 := (SetOK_3 q5).1
  have o := SI_own S (j := (s 3 j).toNat) (j' := (s 3 j').toNat) (i := (s 4 j / 4).toNat) (i' := (s 4 j' / 4).toNat) (by omega) (by omega) (by omega) (by omega) (by omega)
  have same : ∀ x y : Nat, 1 ≤ x → (x : Int) < s 1 0 → 1 ≤ y → (y : Int) < s 1 0 → (s 3 x).toNat = (s 3 y).toNat → s 4 y = s 4 x + 2 → False := by
    intro x y x1 x2 y1 y2 e1 e2
    have u := (i4 x x1 x2).2.2.2.2
    have v := (i4 y y1 y2).2.2.2.2
    rw [← e1, e2] at v
    have a1 := (SetOK_3 u).2.2.2.2.1
    have a2 := (SetOK_3 v).2.2.1
    omega
  rcases Nat.lt_trichotomy j j' with q | q | q
  · have ne := i5 j j' q hj'
    by_cases c : s 4 j' = s 4 j + 2
    · exact absurd (same j j' a hj a' hj' o.1 c) id
    · by_cases c' : s 4 j = s 4 j' + 2
      · exact absurd (same j' j a' hj' a hj o.1.symm c') id
      · have := o.2
        exfalso
        omega
  · exact q
  · have ne := i5 j' j q hj
    by_cases c : s 4 j' = s 4 j + 2
    · exact absurd (same j j' a hj a' hj' o.1 c) id
    · by_cases c' : s 4 j = s 4 j' + 2
      · exact absurd (same j' j a' hj' a hj o.1.symm c') id
      · have := o.2
        exfalso
        omega
theorem SI_N (S : SI f g n root K0 md s k e) (hn : 0 ≤ n ∧ n ≤ 100) : s 1 0 ≤ n + 1 := by
  have := php2 (m := (s 1 0 - 1).toNat) (n := n) (F := fun i => s 2 (i + 1) / 4) (fun i hi => by
    obtain ⟨p1, p2, p3, p4, p5⟩ := S.2.2.2.1 (i + 1) (by omega) (by omega)
    have r1 := (SetOK_3 p5).2.1
    have m1 := (SetOK_3 p5).1
    have c := SI_row S (j := (s 3 (i + 1)).toNat) (q := s 4 (i + 1)) (by omega) (by omega) (by omega)
    unfold clu at c
    show 2 ≤ s 2 (i + 1) / 4 ∧ s 2 (i + 1) / 4 ≤ n + 1
    omega) hn.1 (fun i j hij hj h => by
    have := SI_c1 S hn.2 (j := i + 1) (j' := j + 1) (by omega) (by omega) (by omega) (by omega) h
    omega)
  have := S.1.1
  omega
/-- the next DIRECTORY -/
theorem SI_next (S : SI f g n root K0 md s k e) (he : (k : Int) < s 1 0 → dirJ f s k → 4 * (rkJ f K0 s k : Int) ≤ e) : SI f g n root K0 md s (k + 1) 0 := by
  obtain ⟨i1, i2, i3, i4, i5, i6, i7, i8, ⟨w1, w2, w3, w4, w5, w6, w7⟩, i10⟩ := S
  refine ⟨i1, i2, i3, i4, i5, i6, i7, ⟨fun q a b => by omega, fun hm d hd hd2 hd3 q q0 q1 q2 => ?_⟩, ⟨w1, w2, w3, w4, w5, fun j a b c q q0 q1 q2 => w6 j (by omega) b c q q0 q1 (fun z => by omega), w7⟩, fun j a b => ?_⟩
  · by_cases c : d = k
    · subst c
      have := he hd2 hd3
      exact (i8.1 q q0 (by omega)).mp (by rw [w1 hm]; exact q2)
    · exact i8.2 hm d (by omega) hd2 hd3 q q0 q1 q2
  · have := i10 j a b
    omega
/-- an ENTRY that is passed by -/
theorem SI_pass (S : SI f g n root K0 md s k e) (hk : (k : Int) < s 1 0) (hd : dirJ f s k) (h0 : 0 ≤ e) (h1 : e < 4 * (rkJ f K0 s k : Int)) (ht : rd f (ea (rwJ f root s k) e) < 128) : SI f g n root K0 md s k (e + 1) := by
  obtain ⟨i1, i2, i3, i4, i5, i6, i7, i8, ⟨w1, w2, w3, w4, w5, w6, w7⟩, i10⟩ := S
  refine ⟨i1, i2, i3, i4, i5, i6, i7, ⟨fun q a b => ?_, i8.2⟩, ⟨w1, w2, w3, w4, w5, fun j a b c q q0 q1 q2 => w6 j a b c q q0 q1 (fun z => by have := q2 z; omega), w7⟩, fun j a b => ?_⟩
  · by_cases c : q = e
    · subst c
      rw [w6 k (Nat.le_refl k) hk hd q a h1 (fun _ => Int.le_refl _)]
      refine ⟨fun z => by omega, fun ⟨j, j1, j2, j3, j4⟩ => ?_⟩
      have := i10 j j1 j2
      omega
    · exact i8.1 q a (by omega)
  · have := i10 j a b
    omega
/-- ENTRIES of this DIRECTORY are changed -/
theorem SI_edt (S : SI f g n root K0 md s k e) (hk : (k : Int) < s 1 0) (hd : dirJ f s k) (h0 : 0 ≤ e) {m : Int} (m0 : 0 ≤ m) (h1 : e + m ≤ 4 * (rkJ f K0 s k : Int)) (hm : md = 1) {w : Nat → Int} {c : Int} (hb : By w) (hw : ∀ a : Int, 0 ≤ a → (∀ i : Int, 0 ≤ i → i < m → a ≠ ea (rwJ f root s k) (e + i)) → rd w a = rd (s 5) a) (ht : ∀ i : Int, 0 ≤ i → i < m → rd w (ea (rwJ f root s k) (e + i)) ≠ 133) : SI f g n root K0 md (edt s w c) k (e + m) := by
  have rw0 : ∀ i : Int, 0 ≤ i → i < m → clu n (rwJ f root s k ((e + i) / 4).toNat) := fun i a b => SI_row S hk (by omega) (by omega)
  obtain ⟨i1, i2, i3, i4, i5, i6, i7, i8, ⟨w1, w2, w3, w4, w5, w6, w7⟩, i10⟩ := id S
  have low : ∀ a : Int, 0 ≤ a → a < 1024 → rd w a = rd (s 5) a := fun a a0 a1 => hw a a0 (fun i p q z => by
    have := rw0 i p q
    have q2 := ea_in (r := rwJ f root s k) (q := e + i)
    unfold clu at this
    unfold ca at q2
    omega)
  refine ⟨i1, i2, i3, i4, i5, i6, i7, ⟨fun q a b => ?_, fun z => by omega⟩, ⟨fun z => by omega, hb, fun a ha => ?_, fun x x0 x1 => ?_, fun a a0 a1 a2 => ?_, fun j a b d q q0 q1 q2 => ?_, fun x x1 x2 a a0 a1 => ?_⟩, fun j a b => ?_⟩
  · show rd w (ea (rwJ f root s k) q) = 133 ↔ inS s k q
    by_cases z : e ≤ q
    · have := ht (q - e) (by omega) (by omega)
      rw [show e + (q - e) = q by omega] at this
      refine ⟨fun y => absurd y this, fun ⟨j, j1, j2, j3, j4⟩ => ?_⟩
      have := i10 j j1 j2
      omega
    · have cl := SI_row S hk (q := q) a (by omega)
      unfold clu at cl
      rw [hw _ (by have := ea_in (r := rwJ f root s k) (q := q); unfold ca at this; omega) (fun i p q2 y => SI_ea S hk hk a (by omega) (by omega) (by omega) (by omega) y)]
      exact i8.1 q a (by omega)
  · have := low (a : Int) (by omega) (by omega)
    unfold rd at this
    rw [show ((a : Int)).toNat = a by omega] at this
    show w a = f a
    rw [this]
    exact w3 a ha
  · rcases w4 x x0 x1 with y | y
    · exact Or.inl (fun j p q => by
        show rd w _ = _
        rw [low _ (by omega) (by omega)]
        exact y j p q)
    · exact Or.inr y
  · show rd w a = rd f a
    rw [hw a (by omega) (fun i p q y => by have := ea_al (rwJ f root s k) (e + i); omega)]
    exact w5 a a0 a1 a2
  · show rd w (ea (rwJ f root s j) q) = rd f (ea (rwJ f root s j) q)
    have cl := SI_row S (j := j) b (q := q) q0 q1
    unfold clu at cl
    rw [hw _ (by have := ea_in (r := rwJ f root s j) (q := q); unfold ca at this; omega) (fun i p q3 y => SI_ea S b hk q0 q1 (by omega) (by omega) (by omega) y)]
    exact w6 j a b d q q0 q1 (fun z => by have := q2 z; omega)
  · show rd w a = rd f a
    rw [hw a (by unfold clu at x1; unfold ca at a0; omega) (fun i p q y => ?_)]
    · exact w7 x x1 x2 a a0 a1
    · have o := (i2 k hk ((e + i) / 4).toNat (by omega)).2
      have ne : x ≠ rwJ f root s k ((e + i) / 4).toNat := fun z => by
        have x2' : s 0 x.toNat = -1 := x2
        rw [z, o] at x2'
        have := i1.2.1
        have := i1.2.2 k
        by_cases k0 : k = 0
        · rw [k0] at x2'; omega
        · have := this (by omega) hk
          omega
      have := ea_in (r := rwJ f root s k) (q := e + i)
      rw [← y] at this
      exact ca_ne ne a0 a1 ⟨this.1, by omega⟩
  · have := i10 j a b
    show s 3 j < k ∨ (s 3 j = k ∧ s 4 j + 3 ≤ e + m)
    omega
end WALK2
