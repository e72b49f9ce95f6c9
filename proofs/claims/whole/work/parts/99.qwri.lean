/-! write: the disk, the class -/
/-- OCTETS of a file -/
def dat (u row : Nat → Int) (a v : Int) : Nat → Nat → Int
  | 0 => u
  | m + 1 => wb (dat u row a v m) (ca (row ((a + m) / 128).toNat) + (a + m) % 128) 1 (v + m)
theorem By_dat {u row : Nat → Int} {a v : Int} (h : By u) : ∀ m, By (dat u row a v m)
  | 0 => h
  | m + 1 => By_wb (By_dat h m)
theorem dat_ne {u row : Nat → Int} {a v x : Int} {N : Nat} (a0 : 0 ≤ a) (x0 : 0 ≤ x) (rr : ∀ i, i < N → 2 ≤ row i ∧ row i ≤ 101) (no : ∀ i, i < N → x < ca (row i) ∨ ca (row i) + 128 ≤ x) : ∀ m : Nat, a + m ≤ 128 * (N : Int) → rd (dat u row a v m) x = rd u x
  | 0, _ => rfl
  | m + 1, h => by
    have q := no ((a + m) / 128).toNat (by omega)
    have c := rr ((a + m) / 128).toNat (by omega)
    rw [dat, rd_wb_ne (by unfold ca; omega) x0 (by omega)]
    exact dat_ne a0 x0 rr no m (by omega)
section WRI
variable {f g : Nat → Int} {n root mp : Int} {t R : AH}
theorem V_run (v : V f g n root mp t R) {jj : Nat} (q1 : 1 ≤ jj) (q : al t jj) (b : bR f (t 1 jj) = 1) : ∀ i, i + 1 < Kt t jj → R jj (i + 1) = R jj i + 1 := fun i hi => by
  obtain ⟨r1, r2, r3⟩ := v.2.2.1 jj q
  have p0 : t 1 jj ≠ 0 := by have := V_cl v q1 q; omega
  rw [rwP_n f root p0] at r2
  have e := r2 (i + 1) hi
  have e2 : nxt f (bR f (t 1 jj)) (tc f (bR f (t 1 jj)) (u4 f (ha (t 1 jj) + 52)) i) = R jj (i + 1) := e
  rw [r2 i (by omega)] at e2
  unfold nxt at e2
  rw [if_pos b] at e2
  exact e2.symm
/-- a row in one run stays so -/
theorem app_con {r : Nat → Int} {K k : Nat} {X wr' run : Int} (kz : k = 0 → run = wr') (kp : 0 < k → run = rnF f mp n X K (r (K - 1)) wr' k) (old : wr' = 1 → ∀ i, i + 1 < K → r (i + 1) = r i + 1) (rz : run = 1) : ∀ i, i + 1 < K + k → app r K (frs f mp n X K (r (K - 1)) wr' k) (i + 1) = app r K (frs f mp n X K (r (K - 1)) wr' k) i + 1 := by
  intro i hi
  by_cases k0 : k = 0
  · have wz : wr' = 1 := by rw [← kz k0]; exact rz
    unfold app
    rw [if_pos (by omega), if_pos (by omega)]
    exact old wz i (by omega)
  · have rn := kp (by omega)
    rw [rz] at rn
    unfold rnF at rn
    by_cases a9 : atF f mp n X K (r (K - 1)) wr' k = -9
    · rw [if_pos a9] at rn
      exact absurd rn (by decide)
    · have fe : ∀ j, frs f mp n X K (r (K - 1)) wr' k j = atF f mp n X K (r (K - 1)) wr' k + j := fun j => by unfold frs; rw [if_neg a9]
      unfold app
      by_cases y : i + 1 < K
      · rw [if_pos y, if_pos (by omega)]
        unfold atF at a9
        rw [if_neg (by omega)] at a9
        by_cases w : wr' = 1 ∧ rw0 f mp n X k (r (K - 1) + 1)
        · exact old w.1 i y
        · rw [if_neg w] at a9; exact absurd rfl a9
      · rw [if_neg y]
        by_cases x : i < K
        · rw [if_pos x, fe]
          unfold atF at a9 ⊢
          rw [if_neg (by omega)] at a9 ⊢
          by_cases w : wr' = 1 ∧ rw0 f mp n X k (r (K - 1) + 1)
          · rw [if_pos w, show i = K - 1 by omega]
            omega
          · rw [if_neg w] at a9; exact absurd rfl a9
        · rw [if_neg x, fe, fe]
          omega
section
variable (f) (n mp) (t R)
noncomputable def wSq (jj k : Nat) : Nat → Int := frs f mp n 0 (Kt t jj) (R jj (Kt t jj - 1)) (bR f (t 1 jj)) k
noncomputable def wRn (jj k : Nat) : Int := if k = 0 then bR f (t 1 jj) else rnF f mp n 0 (Kt t jj) (R jj (Kt t jj - 1)) (bR f (t 1 jj)) k
noncomputable def wRo (jj k : Nat) : Nat → Int := app (R jj) (Kt t jj) (wSq f n mp t R jj k)
noncomputable def wD (jj k : Nat) (a v : Int) (m : Nat) : Nat → Int := dat (so1 f) (wRo f n mp t R jj k) a v m
noncomputable def w1D (jj k : Nat) (a v : Int) (m : Nat) : Nat → Int := tk1 (wD f n mp t R jj k a v m) (R jj) (Kt t jj) (bR f (t 1 jj)) (wSq f n mp t R jj k) k (wRn f n mp t R jj k)
noncomputable def w2D (jj k : Nat) (a v : Int) (m : Nat) : Nat → Int := tk2 (w1D f n mp t R jj k a v m) (R jj) (Kt t jj) (wSq f n mp t R jj k) k (wRn f n mp t R jj k)
noncomputable def w3D (jj k : Nat) (a v : Int) (m : Nat) : Nat → Int := tkX (tbm (w2D f n mp t R jj k a v m) mp (wSq f n mp t R jj k) k) mp 0
noncomputable def w4D (jj k : Nat) (a v : Int) (m : Nat) (ln tm : Int) : Nat → Int := rly (w3D f n mp t R jj k a v m) (ha (t 1 jj)) (ea (R (pt t jj)) (t 3 jj + 2)) (wRn f n mp t R jj k) (wRo f n mp t R jj k 0) ln tm
noncomputable def wWs (jj k : Nat) (a v : Int) (m : Nat) (ln tm : Int) : List (Nat → Int) := [so1 f, wD f n mp t R jj k a v m, w1D f n mp t R jj k a v m, w2D f n mp t R jj k a v m, w3D f n mp t R jj k a v m, w4D f n mp t R jj k a v m ln tm]
end
theorem so1_tb (v : V f g n root mp t R) {c : Int} (hc : 2 ≤ c ∧ c ≤ 101) : tb (so1 f) mp c = tb f mp c := by
  have nn := V_n v
  have m := V_mp v
  unfold clu at m
  unfold tb
  rw [so1_hi f (by unfold ca; omega)]
theorem wRn_01 {jj k : Nat} : wRn f n mp t R jj k = 0 ∨ wRn f n mp t R jj k = 1 := by
  unfold wRn rnF
  split
  · exact bR_01 _ _
  · split
    · exact Or.inl rfl
    · exact Or.inr rfl
/-- what holds of the row -/
theorem wRo_ok (v : V f g n root mp t R) {jj k : Nat} (q : al t jj) (kc : 0 < k → k ≤ cf f mp n 0 n.toNat) : (∀ i, i < k → clu n (wSq f n mp t R jj k i) ∧ tb f mp (wSq f n mp t R jj k i) = 0) ∧ (∀ i j, i < j → j < k → wSq f n mp t R jj k i ≠ wSq f n mp t R jj k j) ∧ (∀ i, i < Kt t jj + k → (2 ≤ wRo f n mp t R jj k i ∧ wRo f n mp t R jj k i ≤ 101) ∧ wRo f n mp t R jj k i ≠ mp ∧ ∀ j, al t j → j ≠ jj → ∀ i', i' < Kt t j → R j i' ≠ wRo f n mp t R jj k i) := by
  have nn := V_n v
  have a1 : ∀ i, i < k → clu n (wSq f n mp t R jj k i) ∧ tb f mp (wSq f n mp t R jj k i) = 0 := fun i hi => by
    have := frs_fre (f := f) (mp := mp) (n := n) (X := 0) (K := Kt t jj) (last := R jj (Kt t jj - 1)) (wr' := bR f (t 1 jj)) (kc (by omega)) i hi
    exact ⟨this.1, this.2.1⟩
  refine ⟨a1, fun i j ij hj => ?_, fun i hi => ?_⟩
  · have := frs_ne (f := f) (mp := mp) (n := n) (X := 0) (K := Kt t jj) (last := R jj (Kt t jj - 1)) (wr' := bR f (t 1 jj)) (kc (by omega)) i j ij hj
    unfold wSq
    omega
  · unfold wRo app
    split
    · rename_i y
      have c := v.1.2.1 jj q i y
      have c1 := c.1
      unfold clu at c1
      exact ⟨by omega, c.2, fun j a nj i' hi' z => nj (v.1.2.2.1 j jj i' i a q hi' y z).1⟩
    · have c := a1 (i - Kt t jj) (by omega)
      have fr := V_fresh v c.2
      have c1 := c.1
      unfold clu at c1
      exact ⟨by omega, fr.1, fun j a _ i' hi' => fr.2 j a i' hi'⟩
theorem V_wri (v : V f g n root mp t R) {jj k m : Nat} (q1 : 1 ≤ jj) (q : al t jj) (nd : ¬ dirT f t jj) (kc : 0 < k → k ≤ cf f mp n 0 n.toNat) {a x ln tm : Int} (a0 : 0 ≤ a) (am : a + m ≤ 128 * ((Kt t jj + k : Nat) : Int)) (l0 : 0 < ln ∧ ln ≤ 128 * n) (lk : (ln + 127) / 128 = ((Kt t jj + k : Nat) : Int)) : V (w4D f n mp t R jj k a x m ln tm) g n root mp (tk t jj (Kt t jj + k)) (up R jj (wRo f n mp t R jj k)) := by
  have nn := V_n v
  have v1 := V_so1 v
  have mpc := V_mp v
  unfold clu at mpc
  have caM : 1024 ≤ ca mp ∧ ca mp + 128 ≤ 13824 := by unfold ca; omega
  obtain ⟨o1, o2, o3⟩ := wRo_ok v (jj := jj) (k := k) q kc
  have rg := V_rng v q1 q
  have e4 : u2 (so1 f) (ha (t 1 jj) + 4) = u2 f (ha (t 1 jj) + 4) := u2_cg (so1_hi f (by omega)) (so1_hi f (by omega))
  have nd1 : ¬ isD (so1 f) (ha (t 1 jj)) := fun z => nd (Or.inr (by unfold isD at z ⊢; rw [← e4]; exact z))
  have dn : ∀ y, 0 ≤ y → (∀ i, i < Kt t jj + k → y < ca (wRo f n mp t R jj k i) ∨ ca (wRo f n mp t R jj k i) + 128 ≤ y) → rd (wD f n mp t R jj k a x m) y = rd (so1 f) y := fun y y0 no => dat_ne a0 y0 (fun i hi => (o3 i hi).1) no m am
  have bas : Bas (so1 f) (wD f n mp t R jj k a x m) mp t R := by
    refine ⟨By_dat (By_wb (V_by v)) _, fun y y0 y1 => dn y (by omega) (fun i hi => ?_), fun j aj d i hi y y0 y1 => dn y ?_ (fun i' hi' => ?_), fun y y0 y1 => dn y (by omega) (fun i hi => ?_)⟩
    · have := (o3 i hi).1
      unfold ca
      omega
    · have := (v.1.2.1 j aj i hi).1
      unfold clu at this
      unfold ca at y0
      omega
    · have nj : j ≠ jj := fun z => by
        rw [z] at d
        rcases d with d | d
        · omega
        · exact nd1 d
      have ne := (o3 i' hi').2.2 j aj nj i hi
      unfold ca at *
      omega
    · have := (o3 i hi).2.1
      unfold ca at *
      omega
  have kz : k = 0 → wRn f n mp t R jj k = bR (so1 f) (t 1 jj) := fun z => by
    rw [so1_bR v q1 q]
    unfold wRn
    rw [if_pos z]
  have c := V_gro (X := 0) (tm := tm) (ln := ln) v1 bas q1 q (Or.inl rfl) (s := wSq f n mp t R jj k) (k := k) (run := wRn f n mp t R jj k) (fun i hi => ⟨(o1 i hi).1, by
    have c1 := (o1 i hi).1
    unfold clu at c1
    rw [so1_tb v (by omega)]
    exact (o1 i hi).2⟩) o2 wRn_01 kz (fun rz i hi => app_con (f := f) (mp := mp) (n := n) (X := 0) (K := Kt t jj) (k := k) (r := R jj) (wr' := bR f (t 1 jj)) (run := wRn f n mp t R jj k) (fun z => by unfold wRn; rw [if_pos z]) (fun z => by unfold wRn; rw [if_neg (by omega)]) (fun b => V_run v q1 q b) rz i hi) (by omega) l0 lk (fun z => absurd z nd1)
  rw [so1_bR v q1 q] at c
  exact c
/-- nothing else of a DIRECTORY changes -/
theorem w4D_hi (v : V f g n root mp t R) {jj k m : Nat} (q1 : 1 ≤ jj) (q : al t jj) (kc : 0 < k → k ≤ cf f mp n 0 n.toNat) {a x ln tm : Int} (a0 : 0 ≤ a) (am : a + m ≤ 128 * ((Kt t jj + k : Nat) : Int)) {y : Int} (y0 : 1024 ≤ y) (ym : y < ca mp ∨ ca mp + 128 ≤ y) (no : ∀ i, i < Kt t jj + k → y < ca (wRo f n mp t R jj k i) ∨ ca (wRo f n mp t R jj k i) + 128 ≤ y) (yh : y < ha (t 1 jj) ∨ ha (t 1 jj) + 64 ≤ y ∨ y = ha (t 1 jj) + 4 ∨ y = ha (t 1 jj) + 5) : rd (w4D f n mp t R jj k a x m ln tm) y = rd f y := by
  have nn := V_n v
  have mpc := V_mp v
  have rg := (V_rng v q1 q).1
  unfold clu at mpc
  obtain ⟨o1, o2, o3⟩ := wRo_ok v (jj := jj) (k := k) q kc
  have e3 : ∀ z, 1024 ≤ z → (z < ca mp ∨ ca mp + 128 ≤ z) → (∀ i, i < Kt t jj + k → z < ca (wRo f n mp t R jj k i) ∨ ca (wRo f n mp t R jj k i) + 128 ≤ z) → rd (w3D f n mp t R jj k a x m) z = rd f z := fun z z0 zm zn => by
    have := tkA_hi (u := wD f n mp t R jj k a x m) (X := 0) (r := R jj) (s := wSq f n mp t R jj k) (K := Kt t jj) (k := k) (wr' := bR f (t 1 jj)) (run := wRn f n mp t R jj k) (show 2 ≤ mp ∧ mp ≤ 101 by omega) (Or.inl rfl) (V_rr v q) (fun i hi => by have := (o1 i hi).1; unfold clu at this; omega) z0 zm
    have e : rd (w3D f n mp t R jj k a x m) z = rd (wD f n mp t R jj k a x m) z := this
    rw [e]
    unfold wD
    rw [dat_ne a0 (by omega) (fun i hi => (o3 i hi).1) zn m am]
    exact so1_hi f (by omega)
  unfold w4D
  rcases yh with z | z | z | z
  · rw [rly_ne (by omega) (by omega) (by omega)]; exact e3 y y0 ym no
  · rw [rly_ne (by omega) (by omega) (by omega)]; exact e3 y y0 ym no
  · rw [z, rly_in (by omega) (by omega) (by omega) (by omega), ← z]; exact e3 y y0 ym no
  · rw [z, rly_in (by omega) (by omega) (by omega) (by omega), ← z]; exact e3 y y0 ym no
end WRI
