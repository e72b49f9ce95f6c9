/-! the mounted volume -/
section VOL
variable (f g : Nat → Int) (n root mp : Int) (t R : AH)
def al (j : Nat) : Prop := t 0 j = 1
def Kt (j : Nat) : Nat := (t 4 j).toNat
def pt (j : Nat) : Nat := (t 2 j).toNat
def dirT (j : Nat) : Prop := j = 0 ∨ isD f (ha (t 1 j))
def VA : Prop := (al t 0 ∧ t 1 0 = 0 ∧ 1 ≤ Kt t 0) ∧ (∀ j, al t j → ∀ i, i < Kt t j → clu n (R j i) ∧ R j i ≠ mp) ∧ (∀ j j' i i', al t j → al t j' → i < Kt t j → i' < Kt t j' → R j i = R j' i' → j = j' ∧ i = i') ∧ (∀ j, 1 ≤ j → al t j → al t (pt t j) ∧ (0 ≤ t 3 j ∧ t 3 j % 2 = 0) ∧ t 1 j = 4 * R (pt t j) (t 3 j / 4).toNat + t 3 j % 4 ∧ t 5 (pt t j) < t 5 j ∧ 0 ≤ t 5 (pt t j)) ∧ (∀ j j', 1 ≤ j → 1 ≤ j' → al t j → al t j' → pt t j = pt t j' → t 3 j = t 3 j' → j = j')
def VS (j : Nat) : Prop := SetOK f g n (ea (R (pt t j)) (t 3 j)) (ea (R (pt t j)) (t 3 j + 2)) (4 * (Kt t (pt t j) : Int) - t 3 j)
def VR (j : Nat) : Prop := rkP f (Kt t 0) (t 1 j) = Kt t j ∧ (∀ i, i < Kt t j → rwP f root (t 1 j) i = R j i) ∧ ((j = 0 ∨ bR f (t 1 j) = 0) → 0 < Kt t j → rwP f root (t 1 j) (Kt t j) = 4294967295)
def VD : Prop := (∀ j, 1 ≤ j → al t j → dirT f t (pt t j) ∧ VS f g n t R j) ∧ (∀ j, al t j → VR f root t R j) ∧ (∀ j, al t j → dirT f t j → ∀ q : Int, 0 ≤ q → q < 4 * (Kt t j : Int) → rd f (ea (R j) q) = 133 → ∃ j', 1 ≤ j' ∧ al t j' ∧ pt t j' = j ∧ t 3 j' = q) ∧ (∀ j j', 1 ≤ j → 1 ≤ j' → al t j → al t j' → j ≠ j' → pt t j = pt t j' → ¬ Lk f g (ea (R (pt t j)) (t 3 j)) (ea (R (pt t j)) (t 3 j + 2)) (ea (R (pt t j)) (t 3 j')) (ea (R (pt t j)) (t 3 j' + 2))) ∧ (∀ j, al t j → ∀ i, i < Kt t j → tb f mp (R j i) = 1) ∧ tb f mp mp = 1 ∧ (rd f (ca root) = 129 ∧ rd f (ca root + 32) = 130) ∧ By f ∧ (16 ≤ n ∧ n ≤ 100) ∧ clu n mp
def V : Prop := VA n mp t R ∧ VD f g n root mp t R
end VOL
theorem bits8 {v0 v1 v2 v3 v4 v5 v6 v7 : Int} (h0 : 0 ≤ v0 ∧ v0 ≤ 1) (h1 : 0 ≤ v1 ∧ v1 ≤ 1) (h2 : 0 ≤ v2 ∧ v2 ≤ 1) (h3 : 0 ≤ v3 ∧ v3 ≤ 1) (h4 : 0 ≤ v4 ∧ v4 ≤ 1) (h5 : 0 ≤ v5 ∧ v5 ≤ 1) (h6 : 0 ≤ v6 ∧ v6 ≤ 1) (h7 : 0 ≤ v7 ∧ v7 ≤ 1) : (v0 + 2 * v1 + 4 * v2 + 8 * v3 + 16 * v4 + 32 * v5 + 64 * v6 + 128 * v7) / 1 % 2 = v0 ∧ (v0 + 2 * v1 + 4 * v2 + 8 * v3 + 16 * v4 + 32 * v5 + 64 * v6 + 128 * v7) / 2 % 2 = v1 ∧ (v0 + 2 * v1 + 4 * v2 + 8 * v3 + 16 * v4 + 32 * v5 + 64 * v6 + 128 * v7) / 4 % 2 = v2 ∧ (v0 + 2 * v1 + 4 * v2 + 8 * v3 + 16 * v4 + 32 * v5 + 64 * v6 + 128 * v7) / 8 % 2 = v3 ∧ (v0 + 2 * v1 + 4 * v2 + 8 * v3 + 16 * v4 + 32 * v5 + 64 * v6 + 128 * v7) / 16 % 2 = v4 ∧ (v0 + 2 * v1 + 4 * v2 + 8 * v3 + 16 * v4 + 32 * v5 + 64 * v6 + 128 * v7) / 32 % 2 = v5 ∧ (v0 + 2 * v1 + 4 * v2 + 8 * v3 + 16 * v4 + 32 * v5 + 64 * v6 + 128 * v7) / 64 % 2 = v6 ∧ (v0 + 2 * v1 + 4 * v2 + 8 * v3 + 16 * v4 + 32 * v5 + 64 * v6 + 128 * v7) / 128 % 2 = v7 := by
  refine ⟨?_, ?_, ?_, ?_, ?_, ?_, ?_, ?_⟩ <;> omega
theorem mo_S (M : Int → Prop) (n a : Int) (i : Nat) (c : Int) (hc : (2 : Int) ^ i = c) : ∃ v : Int, (0 ≤ v ∧ v ≤ 1) ∧ mo M n a (i + 1) = mo M n a i + c * v ∧ (v = 1 ↔ (8 * a + (i : Int) + 2 ≤ n + 1 ∧ M (8 * a + (i : Int) + 2))) := by
  by_cases q : 8 * a + (i : Int) + 2 ≤ n + 1 ∧ M (8 * a + (i : Int) + 2)
  · exact ⟨1, by decide, by rw [mo_y q, hc, Int.mul_one], ⟨fun _ => q, fun _ => rfl⟩⟩
  · exact ⟨0, by decide, by rw [mo_n q, Int.mul_zero, Int.add_zero], ⟨fun y => absurd y (by decide), fun y => absurd y q⟩⟩
theorem mo_bit {M : Int → Prop} {n a : Int} {j : Nat} (hj : j < 8) : (8 * a + (j : Int) + 2 ≤ n + 1 ∧ M (8 * a + (j : Int) + 2)) ↔ mo M n a 8 / p2 (j : Int) % 2 = 1 := by
  obtain ⟨v0, a0, e0, c0⟩ := mo_S M n a 0 1 rfl
  obtain ⟨v1, a1, e1, c1⟩ := mo_S M n a 1 2 rfl
  obtain ⟨v2, a2, e2, c2⟩ := mo_S M n a 2 4 rfl
  obtain ⟨v3, a3, e3, c3⟩ := mo_S M n a 3 8 rfl
  obtain ⟨v4, a4, e4, c4⟩ := mo_S M n a 4 16 rfl
  obtain ⟨v5, a5, e5, c5⟩ := mo_S M n a 5 32 rfl
  obtain ⟨v6, a6, e6, c6⟩ := mo_S M n a 6 64 rfl
  obtain ⟨v7, a7, e7, c7⟩ := mo_S M n a 7 128 rfl
  have s : mo M n a 8 = v0 + 2 * v1 + 4 * v2 + 8 * v3 + 16 * v4 + 32 * v5 + 64 * v6 + 128 * v7 := by
    have z : mo M n a 0 = 0 := rfl
    have f0 : mo M n a 1 = mo M n a 0 + 1 * v0 := e0
    have f1 : mo M n a 2 = mo M n a 1 + 2 * v1 := e1
    have f2 : mo M n a 3 = mo M n a 2 + 4 * v2 := e2
    have f3 : mo M n a 4 = mo M n a 3 + 8 * v3 := e3
    have f4 : mo M n a 5 = mo M n a 4 + 16 * v4 := e4
    have f5 : mo M n a 6 = mo M n a 5 + 32 * v5 := e5
    have f6 : mo M n a 7 = mo M n a 6 + 64 * v6 := e6
    have f7 : mo M n a 8 = mo M n a 7 + 128 * v7 := e7
    rw [f7, f6, f5, f4, f3, f2, f1, f0, z, Int.one_mul, Int.zero_add]
  have b := bits8 a0 a1 a2 a3 a4 a5 a6 a7
  rw [← s] at b
  rcases (show j = 0 ∨ j = 1 ∨ j = 2 ∨ j = 3 ∨ j = 4 ∨ j = 5 ∨ j = 6 ∨ j = 7 by omega) with y | y | y | y | y | y | y | y <;> subst y
  · rw [← c0, show p2 ((0 : Nat) : Int) = 1 from rfl, b.1]
  · rw [← c1, show p2 ((1 : Nat) : Int) = 2 from rfl, b.2.1]
  · rw [← c2, show p2 ((2 : Nat) : Int) = 4 from rfl, b.2.2.1]
  · rw [← c3, show p2 ((3 : Nat) : Int) = 8 from rfl, b.2.2.2.1]
  · rw [← c4, show p2 ((4 : Nat) : Int) = 16 from rfl, b.2.2.2.2.1]
  · rw [← c5, show p2 ((5 : Nat) : Int) = 32 from rfl, b.2.2.2.2.2.1]
  · rw [← c6, show p2 ((6 : Nat) : Int) = 64 from rfl, b.2.2.2.2.2.2.1]
  · rw [← c7, show p2 ((7 : Nat) : Int) = 128 from rfl, b.2.2.2.2.2.2.2]
theorem Bmp_tb {f : Nat → Int} {mp n : Int} {M : Int → Prop} (h : Bmp f mp M n) {c : Int} (hc : clu n c) (hm : M c) : tb f mp c = 1 := by
  unfold clu at hc
  have e := h ((c - 2) / 8).toNat (by omega)
  have b := (mo_bit (M := M) (n := n) (a := (c - 2) / 8) (j := ((c - 2) % 8).toNat) (by omega)).mp (by
    rw [show 8 * ((c - 2) / 8) + ((((c - 2) % 8).toNat : Nat) : Int) + 2 = c by omega]
    exact ⟨by omega, hm⟩)
  unfold tb
  rw [show ((((c - 2) / 8).toNat : Nat) : Int) = (c - 2) / 8 by omega] at e
  rw [show ((((c - 2) % 8).toNat : Nat) : Int) = (c - 2) % 8 by omega] at b
  rw [e]
  exact b
section TOV
variable {f g : Nat → Int} {n root mp : Int} {K0 : Nat} {md : Int} {s : AH} {k : Nat} {e : Int}
/-- what the walk keeps besides -/
def WK (o : Nat → Int) (s : AH) : Prop := (∀ j : Nat, 1 ≤ j → (j : Int) < s 1 0 → 0 ≤ s 3 j ∧ s 3 j < j) ∧ ∀ c, o c ≠ -1 → s 0 c = o c
theorem DG_WK {o : Nat → Int} {ov e' ov' : Int} {s' : AH} (D : DG f g n root K0 md k e ov s e' ov' s') (hk : (k : Int) < s 1 0) (w : WK o s) : WK o s' ∧ (k : Int) < s' 1 0 := by
  have ac : ∀ (P m : Int) (w' : Nat → Int), ¬ brk f n root K0 P → ¬ mtd f root K0 s P → WK o (acc s (rkP f K0 P) (rwP f root P) P k e w' m) ∧ (k : Int) < acc s (rkP f K0 P) (rwP f root P) P k e w' m 1 0 := by
    intro P m w' nb nm
    refine ⟨⟨fun j j1 hj => ?_, fun c hc => ?_⟩, by rw [acc_1]; omega⟩
    · rw [acc_1] at hj
      rw [acc_3]
      by_cases z : j = (s 1 0).toNat
      · rw [z, st_s]; omega
      · rw [st_n _ _ z]; exact w.1 j j1 (by omega)
    · rw [acc_0]
      have q := w.2 c hc
      rw [owr_n (fun ⟨i, i1, i2⟩ => nm ⟨i, i1, by rw [i2, show (((c : Nat) : Int)).toNat = c by omega, q]; exact hc⟩)]
      exact q
  obtain ⟨_, _, D⟩ := D
  rcases D with ⟨d1, d2, d3, d4, d5⟩ | ⟨d1, d2, d3, d4, d5, d6⟩ | ⟨d1, d2, d3, D⟩
  · subst d5; exact ⟨w, hk⟩
  · subst d6; exact ⟨w, hk⟩
  · rcases D with ⟨d4, d5, d6, d7⟩ | ⟨d4, d5, d6, F, d7, D⟩
    · subst d7; exact ⟨w, hk⟩
    · rcases D with ⟨d8, d9, d10⟩ | ⟨d8, d9, d10⟩ | ⟨d8, d9, d10⟩
      · subst d10; exact ⟨w, hk⟩
      · rw [d8] at d7
        have z := FCA_0 d7
        subst d10
        exact ac _ _ _ z.1 z.2.2.1
      · rw [d8] at d7
        have z := FCA_0 d7
        subst d10
        exact ac _ _ _ z.1 z.2.2.1
theorem DW_WK {o : Nat → Int} {x y ov : Int} {z : AH} (D : DW f g n root K0 md k 0 x y z e ov s) (hk : (k : Int) < s 1 0) (w : WK o s) : WK o z :=
  D (fun _ _ s => (k : Int) < s 1 0 → WK o s → WK o z) (fun _ _ s _ _ _ ez _ w => by rw [← ez]; exact w) (fun _ _ _ _ F0 => absurd rfl F0) (fun _ _ _ _ _ _ d ih hk w => ih (DG_WK d hk w).2 (DG_WK d hk w).1) hk w
theorem TW_WK {o : Nat → Int} {x y : Int} {z : AH} (T : TW f g n root K0 md 0 x y z k s) (w : WK o s) : WK o z :=
  T (fun _ s => WK o s → WK o z) (fun _ s _ _ _ ez w => by rw [← ez]; exact w) (fun _ _ _ _ _ ih => ih) (fun _ _ _ _ _ F0 => absurd rfl F0) (fun _ _ _ hk _ d ih w => ih (DW_WK d hk w)) w
noncomputable def tz (f : Nat → Int) (K0 : Nat) (z : AH) : AH := up (up (up (up (up (up (fun _ _ => 0) 0 (fun j => if (j : Int) < z 1 0 then 1 else 0)) 1 (z 2)) 2 (z 3)) 3 (z 4)) 4 (fun j => (rkJ f K0 z j : Nat))) 5 (fun j => (j : Nat))
theorem tz_0 {z : AH} (j : Nat) : al (tz f K0 z) j ↔ (j : Int) < z 1 0 := by
  unfold al tz
  rw [up_n _ _ (by decide), up_n _ _ (by decide), up_n _ _ (by decide), up_n _ _ (by decide), up_n _ _ (by decide), up_s]
  split
  · rename_i c; exact ⟨fun _ => c, fun _ => rfl⟩
  · rename_i c; exact ⟨fun q => absurd q (by decide), fun q => absurd q c⟩
theorem tz_1 {z : AH} : tz f K0 z 1 = z 2 := by unfold tz; rw [up_n _ _ (by decide), up_n _ _ (by decide), up_n _ _ (by decide), up_n _ _ (by decide), up_s]
theorem tz_2 {z : AH} : tz f K0 z 2 = z 3 := by unfold tz; rw [up_n _ _ (by decide), up_n _ _ (by decide), up_n _ _ (by decide), up_s]
theorem tz_3 {z : AH} : tz f K0 z 3 = z 4 := by unfold tz; rw [up_n _ _ (by decide), up_n _ _ (by decide), up_s]
theorem tz_4 {z : AH} (j : Nat) : Kt (tz f K0 z) j = rkJ f K0 z j := by unfold Kt tz; rw [up_n _ _ (by decide), up_s]; omega
theorem tz_5 {z : AH} (j : Nat) : tz f K0 z 5 j = (j : Int) := by unfold tz; rw [up_s]
theorem V_of {z : AH} {k' : Nat} {o : Nat → Int} (hf : By f) (hn : 16 ≤ n ∧ n ≤ 100) (S : SI f g n root K0 0 z k' 0) (hN : z 1 0 ≤ (k' : Int)) (hK : 1 ≤ K0) (w : WK o z) (om : o mp.toNat = -2) (cm : clu n mp) (bm : Bmp f mp (fun x => z 0 x.toNat ≠ -1) n) (t0 : rd f (ca root) = 129) (t1 : rd f (ca root + 32) = 130) : V f g n root mp (tz f K0 z) (rwJ f root z) := by
  obtain ⟨i1, i2, i3, i4, i5, i6, i7, i8, i9, i10⟩ := id S
  have N1 := i1.1
  have k0 : rkJ f K0 z 0 = K0 := by unfold rkJ rkP; rw [i1.2.1, if_pos rfl]
  have pT : ∀ j, pt (tz f K0 z) j = (z 3 j).toNat := fun j => by unfold pt; rw [tz_2]
  have dT : ∀ j, dirT f (tz f K0 z) j ↔ dirJ f z j := fun j => by unfold dirT dirJ; rw [tz_1]
  have mpo : z 0 mp.toNat = -2 := by rw [w.2 _ (by rw [om]; decide), om]
  have own' : ∀ j : Nat, (j : Int) < z 1 0 → ∀ i, i < rkJ f K0 z j → 0 ≤ z 0 (rwJ f root z j i).toNat := fun j hj i hi => by
    rw [(i2 j hj i hi).2]
    exact (SI_P0 S hj).1
  refine ⟨⟨⟨(tz_0 0).mpr (by omega), by rw [tz_1]; exact i1.2.1, by rw [tz_4, k0]; exact hK⟩, fun j a i hi => ?_, fun j j' i i' a a' hi hi' eq => ?_, fun j j1 a => ?_, fun j j' j1 j1' a a' e1 e2 => ?_⟩, fun j j1 a => ?_, fun j a => ?_, fun j a d q q0 q1 ty => ?_, fun j j' j1 j1' a a' ne e1 => ?_, fun j a i hi => ?_, ?_, ⟨t0, t1⟩, hf, hn, cm⟩
  · rw [tz_4] at hi
    rw [tz_0] at a
    refine ⟨(i2 j a i hi).1, fun q => ?_⟩
    have := own' j a i hi
    rw [q, mpo] at this
    exact absurd this (by decide)
  · rw [tz_0] at a a'
    rw [tz_4] at hi hi'
    exact SI_own S a a' hi hi' eq
  · rw [tz_0] at a
    obtain ⟨p1, p2, p3, p4, p5⟩ := i4 j j1 a
    have wk := w.1 j j1 a
    rw [pT, tz_1, tz_3, tz_0, tz_5, tz_5]
    exact ⟨by omega, p3, p4, by omega, by omega⟩
  · rw [tz_0] at a a'
    rw [pT, pT] at e1
    rw [tz_3] at e2
    obtain ⟨p1, p2, p3, p4, p5⟩ := i4 j j1 a
    obtain ⟨q1, q2, q3, q4, q5⟩ := i4 j' j1' a'
    have eq : z 2 j = z 2 j' := by rw [p4, q4, e1, e2]
    rcases Nat.lt_trichotomy j j' with c | c | c
    · exact absurd eq (i5 j j' c a')
    · exact c
    · exact absurd eq.symm (i5 j' j c a)
  · rw [tz_0] at a
    obtain ⟨p1, p2, p3, p4, p5⟩ := i4 j j1 a
    unfold VS
    rw [pT, dT, tz_3, tz_4]
    exact ⟨p2, p5⟩
  · rw [tz_0] at a
    unfold VR
    rw [tz_1, tz_4, tz_4, k0]
    refine ⟨rfl, fun _ _ => rfl, fun b kp => i6 j a (Or.inl rfl) b kp⟩
  · rw [tz_0] at a
    rw [tz_4] at q1
    rw [dT] at d
    obtain ⟨j', j1', j2', j3', j4'⟩ := i8.2 rfl j (by omega) a d q q0 q1 ty
    refine ⟨j', j1', (tz_0 j').mpr j2', by rw [pT]; omega, by rw [tz_3]; exact j4'⟩
  · rw [tz_0] at a a'
    rw [pT, pT] at e1
    rw [pT, tz_3]
    obtain ⟨p1, _⟩ := i4 j j1 a
    obtain ⟨q1, _⟩ := i4 j' j1' a'
    rcases Nat.lt_trichotomy j j' with c | c | c
    · exact i7 j j' j1 c a' (by omega)
    · exact absurd c ne
    · have := i7 j' j j1' c a (by omega)
      rw [← e1] at this
      exact fun q => this (Lk_sy q)
  · rw [tz_0] at a
    rw [tz_4] at hi
    refine Bmp_tb bm (i2 j a i hi).1 ?_
    have := own' j a i hi
    show z 0 _ ≠ -1
    omega
  · refine Bmp_tb bm cm ?_
    show z 0 _ ≠ -1
    rw [mpo]
    decide
end TOV
