/-! the scan of the reference, on a mounted volume -/
def SA (f : Nat → Int) (root : Int) (s h : AH) : Prop := h 34 34 = s 1 0 ∧ (∀ j : Nat, (j : Int) < s 1 0 → h 41 j = s 2 j ∧ (dirJ f s j → h 45 j = 1) ∧ (¬ dirJ f s j → h 45 j = 0)) ∧ (h 42 0 = -9 ∧ h 46 0 = 0 ∧ h 48 0 = root ∧ h 49 0 = 16) ∧ ∀ j : Nat, 1 ≤ j → (j : Int) < s 1 0 → h 42 j = s 3 j ∧ h 43 j = s 4 j ∧ h 44 j = 1 + rd f (ha (s 2 j) + 1) ∧ h 46 j = bR f (s 2 j) ∧ h 47 j = u4 f (ha (s 2 j) + 56) ∧ h 48 j = u4 f (ha (s 2 j) + 52) ∧ h 49 j = u2 f (ha (s 2 j) + 4)
theorem SA_congr {f : Nat → Int} {root : Int} {s h h' : AH} (A : SA f root s h) (b : h' 34 34 = h 34 34) (c : ∀ o, 41 ≤ o → o ≤ 49 → h' o = h o) : SA f root s h' := by
  unfold SA at *
  rw [b, c 41 (by omega) (by omega), c 42 (by omega) (by omega), c 43 (by omega) (by omega), c 44 (by omega) (by omega), c 45 (by omega) (by omega), c 46 (by omega) (by omega), c 47 (by omega) (by omega), c 48 (by omega) (by omega), c 49 (by omega) (by omega)]
  exact A
def FN (h h' : AH) : Prop := (∀ o, ¬ (o = 34 ∨ (39 ≤ o ∧ o ≤ 49)) → h' o = h o) ∧ ∀ k, ¬ ((17 ≤ k ∧ k ≤ 24) ∨ k = 34) → h' 34 k = h 34 k
theorem FN.rf (h : AH) : FN h h := ⟨fun _ _ => rfl, fun _ _ => rfl⟩
theorem FN.tr {h h1 h2 : AH} (a : FN h h1) (b : FN h1 h2) : FN h h2 := ⟨fun o p => (b.1 o p).trans (a.1 o p), fun o p => (b.2 o p).trans (a.2 o p)⟩
theorem FN_z {h h' : AH} (z : FZ h h') : FN h h' := ⟨fun o p => z.2 o (by omega) (by omega), fun k p => z.1 k (by omega) (by omega) (by omega) (by omega) (by omega) (by omega)⟩
theorem FN_17 {h h' : AH} (a : ∀ k, k ≠ 17 → h' 34 k = h 34 k) (b : ∀ o, o ≠ 34 → o ≠ 39 → h' o = h o) : FN h h' := ⟨fun o p => b o (by omega) (by omega), fun k p => a k (by omega)⟩
/-- what the reference knows of a mounted volume -/
def RX (f g : Nat → Int) (n root : Int) (h : AH) : Prop := Sb (h 35) ∧ E (ub (h 35)) f ∧ h 34 0 = n ∧ h 34 1 = root ∧ E2 (h 38) g ∧ Gr (h 38)
theorem RX_congr {f g : Nat → Int} {n root : Int} {h h' : AH} (a : FN h h') (X : RX f g n root h) : RX f g n root h' := by unfold RX at *; rw [a.1 35 (by decide), a.1 38 (by decide), a.2 0 (by decide), a.2 1 (by decide)]; exact X
section SCAN
variable {f g : Nat → Int} {n root mp : Int} {t R : AH} {s : AH} {k : Nat} {e : Int}
/-- the listed SETS are SETS of the volume -/
def SL (f : Nat → Int) (root : Int) (K0 : Nat) (t : AH) (s : AH) : Prop := (∀ j : Nat, (j : Int) < s 1 0 → ∃ jj, al t jj ∧ t 1 jj = s 2 j) ∧ (∀ c : Nat, s 0 c ≠ -1 → ∃ (j i : Nat), (j : Int) < s 1 0 ∧ i < rkJ f K0 s j ∧ rwJ f root s j i = (c : Int)) ∧ (∀ i j : Nat, 1 ≤ i → i < j → (j : Int) < s 1 0 → s 3 i ≤ s 3 j ∧ (s 3 i = s 3 j → s 4 i < s 4 j)) ∧ ∀ j : Nat, 1 ≤ j → (j : Int) < s 1 0 → s 3 j < (j : Int)
theorem V_find (v : V f g n root mp t R) {jk jj i : Nat} {o : Int} (a : al t jk) (hi : i < Kt t jk) (j1 : 1 ≤ jj) (aj : al t jj) (o0 : 0 ≤ o) (o1 : o < 4) (h : t 1 jj = 4 * R jk i + o) : pt t jj = jk ∧ t 3 jj = 4 * (i : Int) + o := by
  have w := v.1.2.2.2.1 jj j1 aj
  have c := V_cl v j1 aj
  have e := V_e v j1 aj
  have q := v.1.2.2.1 (pt t jj) jk (t 3 jj / 4).toNat i w.1 a (by omega) hi (by omega)
  have q2 := q.2
  exact ⟨q.1, by omega⟩
theorem SL_row (v : V f g n root mp t R) {jj j : Nat} (a : al t jj) (h : t 1 jj = s 2 j) : rkJ f (Kt t 0) s j = Kt t jj ∧ (∀ i, i < Kt t jj → rwJ f root s j i = R jj i) ∧ ((j = 0 ↔ jj = 0) → (dirJ f s j ↔ dirT f t jj)) := by
  obtain ⟨r1, r2, r3⟩ := v.2.2.1 jj a
  unfold rkJ rwJ dirJ dirT
  rw [← h]
  exact ⟨r1, r2, fun q => by rw [q]⟩
theorem SL_0 (v : V f g n root mp t R) (S : SI f g n root (Kt t 0) 0 s k e) {jj j : Nat} (a : al t jj) (hj : (j : Int) < s 1 0) (h : t 1 jj = s 2 j) : j = 0 ↔ jj = 0 := by
  constructor
  · intro q
    rw [q, S.1.2.1] at h
    exact V_inj v a v.1.1.1 (by rw [h, v.1.1.2.1])
  · intro q
    rw [q, v.1.1.2.1] at h
    exact (SI_P0 S hj).2 h.symm
/-- a SET of the volume that comes next is sound -/
theorem SL_set (v : V f g n root mp t R) (S : SI f g n root (Kt t 0) 0 s k e) (L : SL f root (Kt t 0) t s) (hk : (k : Int) < s 1 0) (hd : dirJ f s k) (h0 : 0 ≤ e) (h1 : e < 4 * (rkJ f (Kt t 0) s k : Int)) (ty : rd f (ea (rwJ f root s k) e) = 133) : e % 2 = 0 ∧ SetOK f g n (ea (rwJ f root s k) e) (ea (rwJ f root s k) (e + 2)) (4 * (rkJ f (Kt t 0) s k : Int) - e) ∧ ¬ opn f root (Kt t 0) (4 * rwJ f root s k (e / 4).toNat + e % 4) ∧ ¬ brk f n root (Kt t 0) (4 * rwJ f root s k (e / 4).toNat + e % 4) ∧ ¬ mtd f root (Kt t 0) s (4 * rwJ f root s k (e / 4).toNat + e % 4) ∧ ¬ lik f g root s k e ∧ ∃ j', 1 ≤ j' ∧ al t j' ∧ t 1 j' = (4 * rwJ f root s k (e / 4).toNat + e % 4) := by
  obtain ⟨jk, ak, ek⟩ := L.1 k hk
  obtain ⟨r1, r2, r3⟩ := SL_row v ak ek
  have dk := (r3 (SL_0 v S ak hk ek)).mp hd
  have ei : rwJ f root s k (e / 4).toNat = R jk (e / 4).toNat := r2 _ (by omega)
  have eh : ea (rwJ f root s k) e = ha (4 * R jk (e / 4).toNat + e % 4) := by rw [ha_ea, ei]
  rw [eh] at ty
  obtain ⟨j', q1, q2, q3, q4, q5⟩ := V_ty v ak dk (i := (e / 4).toNat) (by omega) (o := e % 4) (by omega) (by omega) ty
  have q4' : t 3 j' = e := (by omega)
  have PP : t 1 j' = (4 * rwJ f root s k (e / 4).toNat + e % 4) := by rw [ei]; exact q5
  have ev := (v.1.2.2.2.1 j' q1 q2).2.1.2
  rw [q4'] at ev
  have st' := (v.2.1 j' q1 q2).2
  unfold VS at st'
  rw [q3, q4'] at st'
  have ok : SetOK f g n (ea (rwJ f root s k) e) (ea (rwJ f root s k) (e + 2)) (4 * (rkJ f (Kt t 0) s k : Int) - e) := by
    rw [r1]
    exact (SetOK_row r2 h0 (by rw [← r1]; exact h1)).mpr st'
  obtain ⟨w1, w2, w3⟩ := v.2.2.1 j' q2
  rw [PP] at w1 w2 w3
  have ent : ∀ j : Nat, 1 ≤ j → (j : Int) < s 1 0 → s 2 j = (4 * rwJ f root s k (e / 4).toNat + e % 4) → False := fun j j1 hj eq => by
    obtain ⟨p1, p2, p3, p4, p5⟩ := S.2.2.2.1 j j1 hj
    have s3 := SetOK_3 p5
    have o := SI_own S (j := (s 3 j).toNat) (j' := k) (i := (s 4 j / 4).toNat) (i' := (e / 4).toNat) (by omega) hk (by omega) (by omega) (by omega)
    have o1 := o.1
    have o2 := o.2
    have := S.2.2.2.2.2.2.2.2.2 j j1 hj
    omega
  refine ⟨ev, ok, fun ⟨b, kp, ne⟩ => ?_, fun ⟨i, hi, nc⟩ => ?_, fun ⟨i, hi, no⟩ => ?_, fun ⟨j, j1, hj, e3, lk⟩ => ?_, j', q1, q2, PP⟩
  · rw [w1] at kp ne
    exact ne (w3 (Or.inr b) kp)
  · rw [w1] at hi
    rw [w2 i hi] at nc
    exact nc (v.1.2.1 j' q2 i hi).1
  · rw [w1] at hi
    rw [w2 i hi] at no
    have cj := (v.1.2.1 j' q2 i hi).1
    unfold clu at cj
    obtain ⟨j, i2, hj, hi2, er⟩ := L.2.1 _ no
    obtain ⟨jj, aj, ej⟩ := L.1 j hj
    obtain ⟨t1, t2, _⟩ := SL_row v aj ej
    rw [t1] at hi2
    rw [t2 i2 hi2] at er
    have o := v.1.2.2.1 jj j' i2 i aj q2 hi2 hi (by omega)
    have o1 := o.1
    subst o1
    have s0' := SL_0 v S aj hj ej
    exact ent j (by omega) hj (by rw [← ej, PP])
  · obtain ⟨jj, aj, ej⟩ := L.1 j hj
    have s0' := SL_0 v S aj hj ej
    obtain ⟨p1, p2, p3, p4, p5⟩ := S.2.2.2.1 j j1 hj
    have s3 := SetOK_3 p5
    rw [show (s 3 j).toNat = k by omega] at p4 s3
    have qr : s 4 j < 4 * (rkJ f (Kt t 0) s k : Int) := (by omega)
    have fd := V_find v ak (i := (s 4 j / 4).toNat) (o := s 4 j % 4) (by omega) (jj := jj) (by omega) aj (by omega) (by omega) (by rw [ej, p4, r2 _ (by omega)])
    have t3 : t 3 jj = s 4 j := by have := fd.2; omega
    have ne : j' ≠ jj := fun z => by
      subst z
      exact ent j j1 hj (by rw [← ej, PP])
    have nl := v.2.2.2.2.1 j' jj q1 (by omega) q2 aj ne (by rw [q3, fd.1])
    rw [q3, q4', t3] at nl
    have i10 := S.2.2.2.2.2.2.2.2.2 j j1 hj
    have s3k := SetOK_3 ok
    have kr : ∀ q : Int, 0 ≤ q → q < 4 * (rkJ f (Kt t 0) s k : Int) → ea (rwJ f root s k) q = ea (R jk) q := fun q a b => ea_cg r2 a (by rw [← r1]; exact b)
    rw [kr e h0 h1, kr (e + 2) (by omega) (by omega), kr (s 4 j) p3.1 qr, kr (s 4 j + 2) (by omega) (by omega)] at lk
    exact nl lk
theorem SL_acc (S : SI f g n root (Kt t 0) 0 s k e) (L : SL f root (Kt t 0) t s) (hk : (k : Int) < s 1 0) {j' : Nat} {P : Int} (a : al t j') (ep : t 1 j' = P) : SL f root (Kt t 0) t (acc s (rkP f (Kt t 0) P) (rwP f root P) P k e (s 5) (s 6 0)) := by
  have N1 := S.1.1
  have keep : ∀ j : Nat, (j : Int) < s 1 0 → acc s (rkP f (Kt t 0) P) (rwP f root P) P k e (s 5) (s 6 0) 2 j = s 2 j := fun j hj => acc_w2 hj
  refine ⟨fun j hj => ?_, fun c hc => ?_, fun i j i1 ij hj => ?_, fun j j1 hj => ?_⟩
  · rw [acc_1] at hj
    by_cases z : (j : Int) < s 1 0
    · rw [keep j z]; exact L.1 j z
    · rw [show j = (s 1 0).toNat by omega, acc_2, st_s]
      exact ⟨j', a, ep⟩
  · rw [acc_0] at hc
    by_cases z : ∃ i, i < rkP f (Kt t 0) P ∧ rwP f root P i = (c : Int)
    · obtain ⟨i, i1, i2⟩ := z
      refine ⟨(s 1 0).toNat, i, by rw [acc_1]; omega, ?_, ?_⟩
      · unfold rkJ; rw [acc_2, st_s]; exact i1
      · unfold rwJ; rw [acc_2, st_s]; exact i2
    · rw [owr_n z] at hc
      obtain ⟨j, i, hj, hi, er⟩ := L.2.1 c hc
      refine ⟨j, i, by rw [acc_1]; omega, ?_, ?_⟩
      · unfold rkJ at hi ⊢; rw [keep j hj]; exact hi
      · unfold rwJ at er ⊢; rw [keep j hj]; exact er
  · rw [acc_1] at hj
    rw [acc_3, st_n _ _ (show i ≠ (s 1 0).toNat by omega), acc_4, st_n _ _ (show i ≠ (s 1 0).toNat by omega)]
    by_cases z : j = (s 1 0).toNat
    · rw [z, st_s, st_s]
      have := S.2.2.2.2.2.2.2.2.2 i i1 (by omega)
      omega
    · rw [st_n _ _ z, st_n _ _ z]
      exact L.2.2.1 i j i1 ij (by omega)
  · rw [acc_1] at hj
    rw [acc_3]
    by_cases z : j = (s 1 0).toNat
    · rw [z, st_s]
      omega
    · rw [st_n _ _ z]
      exact L.2.2.2 j j1 (by omega)
/-- all SETS of the volume are listed -/
theorem SL_all (v : V f g n root mp t R) {k' : Nat} (S : SI f g n root (Kt t 0) 0 s k' 0) (kl : s 1 0 ≤ (k' : Int)) (L : SL f root (Kt t 0) t s) : ∀ jj, al t jj → ∃ j : Nat, (j : Int) < s 1 0 ∧ s 2 j = t 1 jj := by
  have N1 := S.1.1
  have key : ∀ (r : Nat) (jj : Nat), al t jj → t 5 jj ≤ r → ∃ j : Nat, (j : Int) < s 1 0 ∧ s 2 j = t 1 jj := by
    intro r
    induction r with
    | zero =>
      intro jj a hr
      by_cases z : jj = 0
      · exact ⟨0, by omega, by rw [z, S.1.2.1, v.1.1.2.1]⟩
      · have := v.1.2.2.2.1 jj (by omega) a
        omega
    | succ r ih =>
      intro jj a hr
      by_cases z : jj = 0
      · exact ⟨0, by omega, by rw [z, S.1.2.1, v.1.1.2.1]⟩
      · have w := v.1.2.2.2.1 jj (by omega) a
        have dp := (v.2.1 jj (by omega) a).1
        have e := V_e v (j := jj) (by omega) a
        obtain ⟨d, hd, ed⟩ := ih (pt t jj) w.1 (by omega)
        obtain ⟨r1, r2, r3⟩ := SL_row v w.1 ed.symm
        have dj := (r3 (SL_0 v S w.1 hd ed.symm)).mpr dp
        have ty := (V_ln v (j := jj) (by omega) a).1.1
        rw [(V_cl v (j := jj) (by omega) a).2.2.1] at ty
        have q := S.2.2.2.2.2.2.2.1.2 rfl d (by omega) hd dj (t 3 jj) w.2.1.1 (by rw [r1]; omega) (by rw [ea_cg r2 w.2.1.1 (by omega)]; exact ty)
        obtain ⟨j, j1, hj, e3, e4⟩ := q
        obtain ⟨p1, p2, p3, p4, p5⟩ := S.2.2.2.1 j j1 hj
        refine ⟨j, hj, ?_⟩
        rw [p4, show (s 3 j).toNat = d by omega, e4, w.2.2.1, r2 _ (by omega)]
  intro jj a
  by_cases z : t 5 jj < 0
  · exact key 0 jj a (by omega)
  · exact key (t 5 jj).toNat jj a (by omega)
section SCN
variable {G : GG} {h : AH}
theorem M_rowS {Q : AH → Prop} {e' : Int} {k' : Nat} (v : V f g n root mp t R) (S : SI f g n root (Kt t 0) 0 s k' e') (X : RX f g n root h) (A : SA f root s h) (hk : (k : Int) < s 1 0) (H : ∀ h', Rm h' (rkJ f (Kt t 0) s k) (rwJ f root s k) → (∀ k, k ≠ 17 → h' 34 k = h 34 k) → (∀ o, o ≠ 34 → o ≠ 39 → h' o = h o) → Q h') : RunsV G 210 [vR 34, vI (k : Int)] h Q := by
  have x5 := V_n v
  have hf := V_by v
  have kn := SI_K S (by omega) hk
  by_cases z : k = 0
  · subst z
    have r0 : rwJ f root s 0 = tc f 0 root := by unfold rwJ rwP; rw [S.1.2.1, if_pos rfl]
    have k0 : rkJ f (Kt t 0) s 0 = Kt t 0 := by unfold rkJ rkP; rw [S.1.2.1, if_pos rfl]
    have K1 := v.1.1.2.2
    have en := S.2.2.2.2.2.1 0 hk (Or.inr rfl) (Or.inl rfl) (by omega)
    have cl : ∀ i, i < Kt t 0 → clu n (tc f 0 root i) := fun i hi => by rw [← r0]; exact (S.2.1 0 hk i (by omega)).1
    have c0 := cl 0 (by omega)
    rw [k0, r0] at en
    apply q_M_rowOfSet
    refine ⟨fun _ => ?_, fun c => absurd wI_0 c⟩
    refine M_rowOfRoot (K := Kt t 0) (f := f) X.2.1 (by omega) (fun i hi => ?_) (by rw [X.2.2.2.1]; exact en) ?_ (fun h' rm p q => H h' ?_ p q)
    · rw [X.2.2.2.1]
      have := cl i hi
      unfold clu at this
      omega
    · rw [X.2.2.2.1]
      unfold clu at c0
      simp only [tc] at c0
      omega
    · rw [k0, r0]; rw [X.2.2.2.1] at rm; exact rm
  · have k1 : 1 ≤ k := (by omega)
    obtain ⟨cl, ev⟩ := SI_even S k1 hk
    obtain ⟨p1, p2, p3, p4, p5⟩ := S.2.2.2.1 k k1 hk
    have p5' := p5.2.2.1
    rw [ha_ea, ← p4] at p5'
    have ra := ha_rng cl x5.2
    have rb := ha_rng2 cl x5.2 ev
    have u5 := u4_rng hf (show 0 ≤ ha (s 2 k) + 56 by omega) (show ha (s 2 k) + 56 + 3 < 13824 by omega)
    have P0 : s 2 k ≠ 0 := (by omega)
    have r0 : rwJ f root s k = tc f (bR f (s 2 k)) (u4 f (ha (s 2 k) + 52)) := by unfold rwJ rwP; rw [if_neg P0]
    have k0 : rkJ f (Kt t 0) s k = ((u4 f (ha (s 2 k) + 56) + 127) / 128).toNat := by unfold rkJ rkP; rw [if_neg P0]
    have NN := SI_N S (by omega)
    obtain ⟨q1, q2, q3, q4, q5, q6, q7⟩ := A.2.2.2 k k1 hk
    have c52 : 0 ≤ u4 f (ha (s 2 k) + 52) ∧ u4 f (ha (s 2 k) + 52) ≤ 101 := by
      by_cases y : u4 f (ha (s 2 k) + 56) = 0
      · rw [(p5'.2.2.2.2.2.1 y).1]; omega
      · have := p5'.2.2.2.2.2.2 y
        omega
    refine M_rowOfSet (f := f) (K := rkJ f (Kt t 0) s k) X.2.1 (by omega) ⟨u5.1, by have := p5'.1; omega⟩ k0 q5 q6 q4 ?_ c52 (fun i hi => ?_) (fun h' rm p q => H h' (by rw [r0]; exact rm) p q)
    · unfold bR
      split
      · exact Or.inr rfl
      · exact Or.inl rfl
    · have := (S.2.1 k hk i hi).1
      rw [r0] at this
      unfold clu at this
      omega
theorem M_scan {Q : AH → Prop} (v : V f g n root mp t R) (X : RX f g n root h) (H : ∀ h' z k', SI f g n root (Kt t 0) 0 z k' 0 → z 1 0 ≤ (k' : Int) → SL f root (Kt t 0) t z → SA f root z h' → FN h h' → Q h') : RunsV G 211 [vR 34] h Q := by
  have x5 := V_n v
  have hf := V_by v
  have K1 := v.1.1.2.2
  have rr := v.2.2.1 0 v.1.1.1
  have w0 : RWok f n root (Kt t 0) := by
    obtain ⟨r1, r2, r3⟩ := rr
    rw [v.1.1.2.1] at r2 r3
    unfold rwP at r2 r3
    rw [if_pos rfl] at r2 r3
    refine ⟨⟨K1, fun i hi => by rw [r2 i hi]; exact (v.1.2.1 0 v.1.1.1 i hi).1, fun i j p q z => ?_⟩, r3 (Or.inl rfl) K1⟩
    rw [r2 i (by omega), r2 j q] at z
    have := (v.1.2.2.1 0 0 i j v.1.1.1 v.1.1.1 (by omega) q z).2
    omega
  apply q_M_scan
  refine M_beginSets (fun b b34 k4 b41 b42 b45 b46 b48 b49 ob => ?_)
  have inner : ∀ (k : Nat), (∀ (s b : AH), (k : Int) < s 1 0 → SI f g n root (Kt t 0) 0 s (k + 1) 0 → SL f root (Kt t 0) t s → SA f root s b → FN h b → Go G (pV Q) 211 6 [some (vR 34), some (vI ((k : Int) + 1)), none, none] [] b) → ∀ (m : Nat) (e : Int) (s b : AH), 0 ≤ e → e ≤ 410 → 4 * (rkJ f (Kt t 0) s k : Int) ≤ e + m → (k : Int) < s 1 0 → dirJ f s k → SI f g n root (Kt t 0) 0 s k e → SL f root (Kt t 0) t s → SA f root s b → Rm b (rkJ f (Kt t 0) s k) (rwJ f root s k) → FN h b → Go G (pV Q) 211 38 [some (vR 34), some (vI (k : Int)), some (vI e), none] [] b := by
    intro k nxt' m
    induction m with
    | zero =>
      intro e s b e0 e4 hm hk hd S L A rm fr
      have kn := SI_K S (by omega) hk
      apply q_M_scan_c38
      apply q_M_entries
      rw [rm.1, wI_id (z := 4 * (rkJ f (Kt t 0) s k : Int)) (by omega) (by omega), wI_id (z := e) (by omega) (by omega)]
      exact ⟨fun _ => nxt' s b hk (SI_next S (fun _ _ => by omega)) L A fr, fun z => by omega⟩
    | succ m ih =>
      intro e s b e0 e4 hm hk hd S L A rm fr
      have kn := SI_K S (by omega) hk
      have Xb := RX_congr fr X
      apply q_M_scan_c38
      apply q_M_entries
      rw [rm.1, wI_id (z := 4 * (rkJ f (Kt t 0) s k : Int)) (by omega) (by omega), wI_id (z := e) (by omega) (by omega)]
      refine ⟨fun _ => nxt' s b hk (SI_next S (fun _ _ => by omega)) L A fr, fun lt' => ?_⟩
      have h1 : e < 4 * (rkJ f (Kt t 0) s k : Int) := (by omega)
      have re := SI_ear S x5.2 hk e0 h1
      have bf := hf.rd (show 0 ≤ ea (rwJ f root s k) e by omega) (show ea (rwJ f root s k) e < 13824 by omega)
      have ea0 : ea (b 39) e = ea (rwJ f root s k) e := ea_cg rm.2.2 e0 h1
      have r101 := rw_101 S x5.2 rm hk e0 h1
      refine M_typeOf (f := f) Xb.2.1 e0 (by omega) r101 ?_
      rw [ea0, wI_id (z := rd f (ea (rwJ f root s k) e)) (by omega) (by omega)]
      refine ⟨fun ty => ?_, fun ty => ?_⟩
      · obtain ⟨ev, ok, nopn, nbrk, nmtd, nlik, j', j1', aj', ej'⟩ := SL_set v S L hk hd e0 h1 ty
        have sok : SetOK f (b 38) (b 34 0) (ea (b 39) e) (ea (b 39) (e + 2)) (4 * b 34 17 - e) := by
          rw [Xb.2.2.1, rm.1]
          exact (SetOK_row rm.2.2 e0 h1).mpr (SetOK_g Xb.2.2.2.2.1.sm ok)
        have s3 := SetOK_3 ok
        have ea2 : ea (b 39) (e + 2) = ea (rwJ f root s k) (e + 2) := ea_cg rm.2.2 (by omega) (by omega)
        refine M_isSet (f := f) Xb.1 Xb.2.1 (by rw [Xb.2.2.1]; exact x5) e0 (by rw [rm.1]; omega) (by rw [rm.1]; exact h1) (fun i hi => ?_) Xb.2.2.2.2.2 (fun b2 _ _ rs fz => ?_) (fun b2 no fz => absurd ⟨ev, sok⟩ no)
        · have := rw_101 S x5.2 rm hk (q := 4 * (i : Int)) (by omega) (by rw [rm.1] at hi; omega)
          rw [show (4 * (i : Int) / 4).toNat = i by omega] at this
          exact this
        · refine ⟨fun z => absurd z (by decide), fun _ => ?_⟩
          rw [ea0, ea2] at rs
          apply q_M_scan_c70
          refine ⟨fun z => absurd z (by decide), fun _ => ?_⟩
          have NN := SI_N S (by omega)
          have N1 := S.1.1
          have A2 : SA f root s b2 := SA_congr A (fz.1 34 (by decide) (by decide) (by decide) (by decide) (by decide) (by decide)) (fun o p q => fz.2 o (by omega) (by omega))
          have hPa : ea (rwJ f root s k) e = ha (4 * rwJ f root s k (e / 4).toNat + e % 4) := ha_ea
          have clP : clu n ((4 * rwJ f root s k (e / 4).toNat + e % 4) / 4) := by
            rw [show (4 * rwJ f root s k (e / 4).toNat + e % 4) / 4 = rwJ f root s k (e / 4).toNat by omega]
            exact SI_row S hk e0 h1
          have rP := ha_rng clP x5.2
          have eb : b2 34 23 = bR f (4 * rwJ f root s k (e / 4).toNat + e % 4) := by
            unfold bR
            rw [← hPa]
            have q := rs.2.2.2.2.1
            unfold isR at q
            rcases q with ⟨a, b⟩ | ⟨a, b⟩
            · rw [if_pos b, a]
            · rw [if_neg b, a]
          have b01 : bR f (4 * rwJ f root s k (e / 4).toNat + e % 4) = 0 ∨ bR f (4 * rwJ f root s k (e / 4).toNat + e % 4) = 1 := by
            unfold bR
            split
            · exact Or.inr rfl
            · exact Or.inl rfl
          refine M_addSet (N := (s 1 0).toNat) (by rw [A2.1]; omega) (by omega) e0 (by omega) (by rw [rs.2.2.2.2.2.1]; exact ok.1.2.2.1) (by rw [eb]; exact b01) (fun b3 c41 c42 c43 c44 c45 c46 c47 c48 c49 c34 k5 o5 => ?_)
          refine ⟨fun z => absurd z (by decide), fun _ => ?_⟩
          rw [k5 18 (by decide), rs.1]
          have S' := SI_acc S (by omega) hk hd e0 h1 ev ok (P := (4 * rwJ f root s k (e / 4).toNat + e % 4)) rfl nbrk nmtd (fun o => absurd o nopn) nlik (fun q => nopn q.1) (w := s 5) (m := s 6 0) (Or.inl ⟨rfl, nopn⟩)
          have kp : ∀ j : Nat, (j : Int) < s 1 0 → acc s (rkP f (Kt t 0) (4 * rwJ f root s k (e / 4).toNat + e % 4)) (rwP f root (4 * rwJ f root s k (e / 4).toNat + e % 4)) (4 * rwJ f root s k (e / 4).toNat + e % 4) k e (s 5) (s 6 0) 2 j = s 2 j := fun j hj => acc_w2 hj
          have rk' : rkJ f (Kt t 0) (acc s (rkP f (Kt t 0) (4 * rwJ f root s k (e / 4).toNat + e % 4)) (rwP f root (4 * rwJ f root s k (e / 4).toNat + e % 4)) (4 * rwJ f root s k (e / 4).toNat + e % 4) k e (s 5) (s 6 0)) k = rkJ f (Kt t 0) s k := by unfold rkJ; rw [kp k hk]
          have rw' : rwJ f root (acc s (rkP f (Kt t 0) (4 * rwJ f root s k (e / 4).toNat + e % 4)) (rwP f root (4 * rwJ f root s k (e / 4).toNat + e % 4)) (4 * rwJ f root s k (e / 4).toNat + e % 4) k e (s 5) (s 6 0)) k = rwJ f root s k := congrArg (rwP f root) (kp k hk)
          have row : b2 39 (e / 4).toNat = rwJ f root s k (e / 4).toNat := by rw [fz.2 39 (by decide) (by decide)]; exact rm.2.2 _ (by omega)
          have eN : ((s 1 0).toNat : Int) = s 1 0 := (by omega)
          have rf : FN b b3 := ⟨fun o p => (o5 o (by omega)).trans (fz.2 o (by omega) (by omega)), fun k p => (k5 k (by omega)).trans (fz.1 k (by omega) (by omega) (by omega) (by omega) (by omega) (by omega))⟩
          refine ih _ (acc s (rkP f (Kt t 0) (4 * rwJ f root s k (e / 4).toNat + e % 4)) (rwP f root (4 * rwJ f root s k (e / 4).toNat + e % 4)) (4 * rwJ f root s k (e / 4).toNat + e % 4) k e (s 5) (s 6 0)) b3 (by omega) (by omega) (by rw [rk']; omega) (by rw [acc_1]; omega) (by unfold dirJ; rw [kp k hk]; exact hd) S' (SL_acc S L hk aj' ej') ⟨by rw [c34, acc_1, eN], fun j hj => ?_, ?_, fun j j1 hj => ?_⟩ ?_ (fr.tr rf)
          · rw [acc_1] at hj
            rw [c41, c45]
            by_cases z : (j : Int) < s 1 0
            · have d : dirJ f (acc s (rkP f (Kt t 0) (4 * rwJ f root s k (e / 4).toNat + e % 4)) (rwP f root (4 * rwJ f root s k (e / 4).toNat + e % 4)) (4 * rwJ f root s k (e / 4).toNat + e % 4) k e (s 5) (s 6 0)) j ↔ dirJ f s j := by unfold dirJ; rw [kp j z]
              have q := A2.2.1 j z
              rw [st_n _ _ (by omega), st_n _ _ (by omega), kp j z]
              exact ⟨q.1, fun y => q.2.1 (d.mp y), fun y => q.2.2 (fun x => y (d.mpr x))⟩
            · have ej : j = (s 1 0).toNat := (by omega)
              have n2 : acc s (rkP f (Kt t 0) (4 * rwJ f root s k (e / 4).toNat + e % 4)) (rwP f root (4 * rwJ f root s k (e / 4).toNat + e % 4)) (4 * rwJ f root s k (e / 4).toNat + e % 4) k e (s 5) (s 6 0) 2 j = (4 * rwJ f root s k (e / 4).toNat + e % 4) := by rw [acc_2, ej, st_s]
              have d : dirJ f (acc s (rkP f (Kt t 0) (4 * rwJ f root s k (e / 4).toNat + e % 4)) (rwP f root (4 * rwJ f root s k (e / 4).toNat + e % 4)) (4 * rwJ f root s k (e / 4).toNat + e % 4) k e (s 5) (s 6 0)) j ↔ 16 ≤ u2 f (ha (4 * rwJ f root s k (e / 4).toNat + e % 4) + 4) := by
                unfold dirJ isD
                rw [n2]
                exact ⟨fun y => y.elim (fun y => by omega) id, fun y => Or.inr y⟩
              rw [n2, ej, st_s, st_s, row, rs.2.2.2.2.2.1, hPa]
              rw [ej] at d
              exact ⟨rfl, fun y => by rw [if_pos (d.mp y)], fun y => by rw [if_neg (fun x => y (d.mpr x))]⟩
          · obtain ⟨w1, w2, w3, w4⟩ := A2.2.2.1
            rw [c42, c46, c48, c49, st_n _ _ (show 0 ≠ (s 1 0).toNat by omega), st_n _ _ (show 0 ≠ (s 1 0).toNat by omega), st_n _ _ (show 0 ≠ (s 1 0).toNat by omega), st_n _ _ (show 0 ≠ (s 1 0).toNat by omega)]
            exact ⟨w1, w2, w3, w4⟩
          · rw [acc_1] at hj
            rw [c42, c43, c44, c46, c47, c48, c49, acc_3, acc_4]
            by_cases z : (j : Int) < s 1 0
            · have ne : j ≠ (s 1 0).toNat := (by omega)
              rw [st_n _ _ ne, st_n _ _ ne, st_n _ _ ne, st_n _ _ ne, st_n _ _ ne, st_n _ _ ne, st_n _ _ ne, st_n _ _ ne, st_n _ _ ne, kp j z]
              exact A2.2.2.2 j j1 z
            · have ej : j = (s 1 0).toNat := (by omega)
              have n2 : acc s (rkP f (Kt t 0) (4 * rwJ f root s k (e / 4).toNat + e % 4)) (rwP f root (4 * rwJ f root s k (e / 4).toNat + e % 4)) (4 * rwJ f root s k (e / 4).toNat + e % 4) k e (s 5) (s 6 0) 2 j = (4 * rwJ f root s k (e / 4).toNat + e % 4) := by rw [acc_2, ej, st_s]
              rw [n2, ej]
              rw [st_s, st_s, st_s, st_s, st_s, st_s, st_s, st_s, st_s, rs.1, rs.2.2.1, rs.2.2.2.1, rs.2.2.2.2.2.1, eb, hPa]
              exact ⟨rfl, rfl, rfl, rfl, rfl, rfl, rfl⟩
          · rw [rk', rw']
            exact Rm_congr ((k5 17 (by decide)).trans (fz.1 17 (by decide) (by decide) (by decide) (by decide) (by decide) (by decide))) ((o5 39 (by decide)).trans (fz.2 39 (by decide) (by decide))) rm
      · apply q_M_scan_c70
        refine ⟨fun _ => ⟨fun _ => ih (e + 1) s b (by omega) (by omega) (by omega) hk hd (SI_skip S hk hd e0 h1 ty) L A rm fr, fun z => absurd wI_0 z⟩, fun z => absurd wI_0 z⟩
  have outer : ∀ (m k : Nat) (s b : AH), k + m = 102 → (k : Int) ≤ s 1 0 → SI f g n root (Kt t 0) 0 s k 0 → SL f root (Kt t 0) t s → SA f root s b → FN h b → Go G (pV Q) 211 6 [some (vR 34), some (vI (k : Int)), none, none] [] b := by
    intro m
    induction m with
    | zero =>
      intro k s b hm kl S L A fr
      have := SI_N S (by omega)
      omega
    | succ m ih =>
      intro k s b hm kl S L A fr
      have NN := SI_N S (by omega)
      have N1 := S.1.1
      apply q_M_scan_c6
      rw [A.1, wI_id (z := s 1 0) (by omega) (by omega), wI_id (z := (k : Int)) (by omega) (by omega)]
      refine ⟨fun z => H b s k S z L A fr, fun z => ⟨by omega, ?_⟩⟩
      rw [show (k : Int).toNat = k by omega]
      have hk : (k : Int) < s 1 0 := (by omega)
      by_cases hd : dirJ f s k
      · rw [(A.2.1 k hk).2.1 hd]
        refine ⟨fun z => absurd z (by decide), fun _ => ?_⟩
        refine M_rowS v S (RX_congr fr X) A hk (fun b2 rm k2 o2 => ?_)
        have f2 : FN h b2 := fr.tr (FN_17 k2 o2)
        have A2 : SA f root s b2 := SA_congr A (k2 34 (by decide)) (fun o p q => o2 o (by omega) (by omega))
        have kn := SI_K S (by omega) hk
        have go := inner k (fun s' b' hk' S' L' A' f' => by
          rw [show (k : Int) + 1 = ((k + 1 : Nat) : Int) by omega]
          exact ih (k + 1) s' b' (by omega) (by omega) S' L' A' f')
        have S2 := SI_first S hk hd K1 (by rw [v.2.2.2.2.2.2.2.1.1]; decide) (by rw [v.2.2.2.2.2.2.2.1.2]; decide)
        by_cases z0 : k = 0
        · rw [if_pos z0] at S2
          refine ⟨fun _ => go 408 2 s b2 (by omega) (by omega) (by omega) hk hd S2 L A2 rm f2, fun c => absurd (by omega) c⟩
        · rw [if_neg z0] at S2
          refine ⟨fun c => by omega, fun _ => go 408 0 s b2 (by omega) (by omega) (by omega) hk hd S2 L A2 rm f2⟩
      · rw [(A.2.1 k hk).2.2 hd]
        refine ⟨fun _ => ?_, fun z => absurd wI_0 z⟩
        rw [show (k : Int) + 1 = ((k + 1 : Nat) : Int) by omega]
        exact ih (k + 1) s b (by omega) (by omega) (SI_next S (fun _ q => absurd q hd)) L A fr
  have Fb : FN h b := ⟨fun o p => ob o (by omega), fun k p => k4 k (by omega)⟩
  refine outer 102 0 (s0 f root (Kt t 0) (-5) (-5)) b rfl (by rw [s0_1]; decide) (SI_0 hf w0) ⟨fun j hj => ?_, fun c hc => ?_, fun i j i1 ij hj => by rw [s0_1] at hj; omega, fun j j1 hj => by rw [s0_1] at hj; omega⟩ ⟨by rw [b34, s0_1], fun j hj => ?_, ⟨b42, b46, by rw [b48]; exact X.2.2.2.1, b49⟩, fun j j1 hj => by rw [s0_1] at hj; omega⟩ Fb
  · exact ⟨0, v.1.1.1, by rw [s0_2]; exact v.1.1.2.1⟩
  · rw [s0_0] at hc
    have q := (own_met (f := f) (root := root) (K := Kt t 0) (mp := -5) (tb' := -5) (x := (c : Int)) (by omega)).mpr (by rw [show ((c : Int)).toNat = c by omega]; exact hc)
    rcases q with ⟨i, i1, i2⟩ | q | q
    · refine ⟨0, i, by rw [s0_1]; decide, ?_, ?_⟩
      · unfold rkJ rkP; rw [s0_2, if_pos rfl]; exact i1
      · unfold rwJ rwP; rw [s0_2, if_pos rfl]; exact i2
    · omega
    · omega
  · rw [s0_1] at hj
    rw [show j = 0 by omega, b41, s0_2]
    exact ⟨rfl, fun _ => b45, fun q => absurd (Or.inl rfl) q⟩
end SCN
end SCAN
