/-! the walk: the reference, DIRECTORIES and the tree -/
def MXc (g : Nat → Int) (n root md : Int) (h : AH) : Prop := h 34 0 = n ∧ h 34 1 = root ∧ E2 (h 38) g ∧ Gr (h 38) ∧ (16 ≤ n ∧ n ≤ 100) ∧ (md = 0 ∨ md = 1) ∧ h 34 35 = md
def MR (f : Nat → Int) (md : Int) (s h : AH) : Prop := Sb (h 35) ∧ E (ub (h 35)) f ∧ Sb (h 36) ∧ (md = 1 → E (ub (h 36)) (s 5)) ∧ Mt (h 37) (fun x => s 0 x.toNat ≠ -1) ∧ (md = 1 → h 34 36 = s 6 0) ∧ h 34 34 = s 1 0 ∧ (∀ j : Nat, (j : Int) < s 1 0 → h 41 j = s 2 j ∧ (dirJ f s j → h 45 j = 1) ∧ (¬ dirJ f s j → h 45 j = 0)) ∧ ∀ j : Nat, 1 ≤ j → (j : Int) < s 1 0 → h 42 j = s 3 j ∧ h 43 j = s 4 j ∧ h 46 j = bR f (s 2 j) ∧ h 47 j = u4 f (ha (s 2 j) + 56) ∧ h 48 j = u4 f (ha (s 2 j) + 52)
def FR (h h' : AH) : Prop := (∀ o, ¬ (o = 34 ∨ (36 ≤ o ∧ o ≤ 51 ∧ o ≠ 38)) → h' o = h o) ∧ ∀ k, ¬ ((17 ≤ k ∧ k ≤ 24) ∨ k = 34 ∨ k = 36 ∨ k = 38) → h' 34 k = h 34 k
def FR0 (h h' : AH) : Prop := (∀ o, ¬ (o = 34 ∨ (36 ≤ o ∧ o ≤ 51 ∧ o ≠ 38)) → h' o = h o) ∧ ∀ k, ¬ ((9 ≤ k ∧ k ≤ 11) ∨ (17 ≤ k ∧ k ≤ 24) ∨ k = 34 ∨ k = 36 ∨ k = 38) → h' 34 k = h 34 k
theorem FR.rf (h : AH) : FR h h := ⟨fun _ _ => rfl, fun _ _ => rfl⟩
theorem FR.tr {h h1 h2 : AH} (a : FR h h1) (b : FR h1 h2) : FR h h2 := ⟨fun o p => (b.1 o p).trans (a.1 o p), fun o p => (b.2 o p).trans (a.2 o p)⟩
theorem FR0.tr {h h1 h2 : AH} (a : FR0 h h1) (b : FR0 h1 h2) : FR0 h h2 := ⟨fun o p => (b.1 o p).trans (a.1 o p), fun o p => (b.2 o p).trans (a.2 o p)⟩
theorem FR.w {h h' : AH} (a : FR h h') : FR0 h h' := ⟨a.1, fun k p => a.2 k (by omega)⟩
theorem MXc_congr {g : Nat → Int} {n root md : Int} {h h' : AH} (a : FR h h') (X : MXc g n root md h) : MXc g n root md h' := by unfold MXc at *; rw [a.1 38 (by decide), a.2 0 (by decide), a.2 1 (by decide), a.2 35 (by decide)]; exact X
theorem MR_congr {f : Nat → Int} {md : Int} {s h h' : AH} (R : MR f md s h) (a : h' 34 36 = h 34 36) (b : h' 34 34 = h 34 34) (c : ∀ o, ¬ (o = 34 ∨ o = 39 ∨ o = 40 ∨ o = 50 ∨ o = 51) → h' o = h o) : MR f md s h' := by
  unfold MR at *
  rw [a, b, c 35 (by decide), c 36 (by decide), c 37 (by decide), c 41 (by decide), c 42 (by decide), c 43 (by decide), c 45 (by decide), c 46 (by decide), c 47 (by decide), c 48 (by decide)]
  exact R
section MR2
variable {f : Nat → Int} {md : Int} {s h h' : AH}
theorem MR_edt (R : MR f md s h) {w : Nat → Int} {m : Int} (h6 : Sb (h' 36)) (e6 : E (ub (h' 36)) w) (a : h' 34 36 = m) (b : h' 34 34 = h 34 34) (c : ∀ o, ¬ (o = 34 ∨ o = 36 ∨ o = 39 ∨ o = 40 ∨ o = 50 ∨ o = 51) → h' o = h o) : MR f md (edt s w m) h' := by
  obtain ⟨r1, r2, r3, r4, r5, r6, r7, r8, r9⟩ := R
  refine ⟨by rw [c 35 (by decide)]; exact r1, by rw [c 35 (by decide)]; exact r2, h6, fun _ => e6, by rw [c 37 (by decide)]; exact r5, ?_, by rw [b]; exact r7, ?_, ?_⟩
  · intro _
    rw [a]
    show m = st (s 6) 0 m 0
    rw [st_s]
  · rw [c 41 (by decide), c 45 (by decide)]; exact r8
  · rw [c 42 (by decide), c 43 (by decide), c 46 (by decide), c 47 (by decide), c 48 (by decide)]; exact r9
theorem MR_acc (R : MR f md s h) {w t : Nat → Int} {K N : Nat} {P k e m : Int} (hN : s 1 0 = (N : Int)) (N1 : 1 ≤ N) (hP : 0 < P) (h6 : Sb (h' 36)) (e6 : md = 1 → E (ub (h' 36)) w) (mt : Mt (h' 37) (fun x => s 0 x.toNat ≠ -1 ∨ ∃ j, j < K ∧ t j = x)) (e35 : h' 35 = h 35) (a : md = 1 → h' 34 36 = m) (b : h' 34 34 = (N : Int) + 1) (c41 : h' 41 = st (h 41) N P) (c42 : h' 42 = st (h 42) N k) (c43 : h' 43 = st (h 43) N e) (c45 : h' 45 = st (h 45) N (if 16 ≤ u2 f (ha P + 4) then 1 else 0)) (c46 : h' 46 = st (h 46) N (bR f P)) (c47 : h' 47 = st (h 47) N (u4 f (ha P + 56))) (c48 : h' 48 = st (h 48) N (u4 f (ha P + 52))) : MR f md (acc s K t P k e w m) h' := by
  obtain ⟨r1, r2, r3, r4, r5, r6, r7, r8, r9⟩ := R
  have eN : (s 1 0).toNat = N := (by omega)
  have o2 : ∀ i : Nat, (i : Int) < s 1 0 → acc s K t P k e w m 2 i = s 2 i := fun i hi => acc_w2 hi
  have n2 : acc s K t P k e w m 2 N = P := by rw [acc_2, eN, st_s]
  refine ⟨by rw [e35]; exact r1, by rw [e35]; exact r2, h6, fun z => by rw [acc_5]; exact e6 z, ?_, fun z => by rw [acc_6]; exact a z, by rw [acc_1, b, hN], fun j hj => ?_, fun j j1 hj => ?_⟩
  · rw [acc_0]
    refine Mt_congr mt (fun x x0 x1 => ?_)
    by_cases z : ∃ i, i < K ∧ t i = ((x.toNat : Nat) : Int)
    · rw [owr_y z]
      rw [show ((x.toNat : Nat) : Int) = x by omega] at z
      exact ⟨fun _ => by omega, fun _ => Or.inr z⟩
    · rw [owr_n z]
      rw [show ((x.toNat : Nat) : Int) = x by omega] at z
      exact ⟨fun y => y.elim id (fun y => absurd y z), fun y => Or.inl y⟩
  · rw [acc_1] at hj
    by_cases z : (j : Int) < s 1 0
    · have d : dirJ f (acc s K t P k e w m) j ↔ dirJ f s j := by unfold dirJ; rw [o2 j z]
      have q := r8 j z
      rw [c41, c45, st_n _ _ (by omega), st_n _ _ (by omega), o2 j z]
      exact ⟨q.1, fun y => q.2.1 (d.mp y), fun y => q.2.2 (fun x => y (d.mpr x))⟩
    · have ej : j = N := (by omega)
      subst ej
      have d : dirJ f (acc s K t P k e w m) j ↔ 16 ≤ u2 f (ha P + 4) := by
        unfold dirJ isD
        rw [n2]
        exact ⟨fun y => y.elim (fun y => by omega) id, fun y => Or.inr y⟩
      rw [c41, c45, st_s, st_s, n2]
      exact ⟨rfl, fun y => by rw [if_pos (d.mp y)], fun y => by rw [if_neg (fun x => y (d.mpr x))]⟩
  · rw [acc_1] at hj
    by_cases z : (j : Int) < s 1 0
    · rw [c42, c43, c46, c47, c48, acc_3, acc_4, eN, st_n _ _ (show j ≠ N by omega), st_n _ _ (show j ≠ N by omega), st_n _ _ (show j ≠ N by omega), st_n _ _ (show j ≠ N by omega), st_n _ _ (show j ≠ N by omega), st_n _ _ (show j ≠ N by omega), st_n _ _ (show j ≠ N by omega), o2 j z]
      exact r9 j j1 z
    · have ej : j = N := (by omega)
      subst ej
      rw [c42, c43, c46, c47, c48, acc_3, acc_4, eN, n2]
      exact ⟨by rw [st_s, st_s], by rw [st_s, st_s], st_s _ _ _, st_s _ _ _, st_s _ _ _⟩
end MR2
section DET
variable {f g : Nat → Int} {n root : Int} {K0 : Nat} {md : Int} {s : AH} {k : Nat} {e ov : Int}
theorem DG_det {e1 o1 e2 o2 : Int} {s1 s2 : AH} (A : DG f g n root K0 md k e ov s e1 o1 s1) (B : DG f g n root K0 md k e ov s e2 o2 s2) : e1 = e2 ∧ o1 = o2 ∧ s1 = s2 := by
  obtain ⟨_, _, A⟩ := A
  obtain ⟨_, _, B⟩ := B
  rcases A with ⟨a1, a2, a3, a4, a5⟩ | ⟨a1, a2, a3, a4, a5, a6⟩ | ⟨a1, a2, a3, A⟩ <;> rcases B with ⟨b1, b2, b3, b4, b5⟩ | ⟨b1, b2, b3, b4, b5, b6⟩ | ⟨b1, b2, b3, B⟩
  · exact ⟨by rw [a3, b3], by rw [a4, b4], by rw [a5, b5]⟩
  · exact absurd ⟨b1, b2⟩ a2
  · exfalso; clear B; omega
  · exact absurd ⟨a1, a2⟩ b2
  · exact ⟨by rw [a4, b4], by rw [a5, b5], by rw [a6, b6]⟩
  · exfalso; omega
  · exfalso; clear A; omega
  · exfalso; clear A; omega
  · rcases A with ⟨a4, a5, a6, a7⟩ | ⟨a4, a5, a6, F, a7, A⟩ <;> rcases B with ⟨b4, b5, b6, b7⟩ | ⟨b4, b5, b6, F', b7, B⟩
    · exact ⟨by rw [a6, b6], by rw [a3, b3], by rw [a7, b7]⟩
    · exact absurd ⟨b4, b5⟩ a4
    · exact absurd ⟨a4, a5⟩ b4
    · have ef := FCA_fun a7 b7
      subst ef
      refine ⟨by rw [a6, b6], by rw [a3, b3], ?_⟩
      rcases A with ⟨a8, a9, a10⟩ | ⟨a8, a9, a10⟩ | ⟨a8, a9, a10⟩ <;> rcases B with ⟨b8, b9, b10⟩ | ⟨b8, b9, b10⟩ | ⟨b8, b9, b10⟩
      · rw [a10, b10]
      · exact absurd b8 a8
      · exact absurd b8 a8
      · exact absurd a8 b8
      · rw [a10, b10]
      · exact absurd b9 a9
      · exact absurd a8 b8
      · exact absurd a9 b9
      · rw [a10, b10]
theorem DN_det {F F' : Int} (A : DN f g n root K0 md k e ov s F) (B : DN f g n root K0 md k e ov s F') : F = F' := by
  obtain ⟨_, _, _, A⟩ := A
  obtain ⟨_, _, _, B⟩ := B
  rcases A with ⟨a1, a2, a3⟩ | ⟨a1, a2, ⟨a3, a4⟩ | ⟨a3, a4, a5, a6⟩⟩ <;> rcases B with ⟨b1, b2, b3⟩ | ⟨b1, b2, ⟨b3, b4⟩ | ⟨b3, b4, b5, b6⟩⟩
  · rw [a3, b3]
  · omega
  · omega
  · omega
  · rw [a4, b4]
  · exact absurd ⟨b3, b4⟩ a3
  · omega
  · exact absurd ⟨a3, a4⟩ b3
  · exact FCA_fun a5 b5
theorem DN_DG {F e2 o2 : Int} {s2 : AH} (A : DN f g n root K0 md k e ov s F) (B : DG f g n root K0 md k e ov s e2 o2 s2) : False := by
  obtain ⟨_, _, m, A⟩ := A
  obtain ⟨_, _, B⟩ := B
  rcases B with ⟨b1, b2, b3, b4, b5⟩ | ⟨b1, b2, b3, b4, b5, b6⟩ | ⟨b1, b2, b3, B⟩
  · rcases A with ⟨a1, a2, a3⟩ | ⟨a1, a2, _⟩
    · exact b2 ⟨a1, a2⟩
    · omega
  · omega
  · rcases A with ⟨a1, a2, a3⟩ | ⟨a1, a2, A⟩
    · omega
    · rcases B with ⟨b4, b5, b6, b7⟩ | ⟨b4, b5, b6, F', b7, B⟩
      · omega
      · rcases A with ⟨a3, a4⟩ | ⟨a3, a4, a5, a6⟩
        · exact a3 ⟨b4, b5⟩
        · have ef := FCA_fun a5 b7
          rcases B with ⟨b8, b9, b10⟩ | ⟨b8, b9, b10⟩ | ⟨b8, b9, b10⟩
          · omega
          · exact a6 (ef.trans b8)
          · exact a6 (ef.trans b8)
end DET
section MY
variable {G : GG} {h : AH} {f g : Nat → Int} {n root : Int} {K0 : Nat} {md : Int} {s : AH} {k : Nat} {e : Int}
theorem M_row {Q : AH → Prop} {e' : Int} {k' : Nat} (hf : By f) (S : SI f g n root K0 md s k' e') (X : MXc g n root md h) (R : MR f md s h) (hk : (k : Int) < s 1 0) (hK : 1 ≤ K0) (H : ∀ h', Rm h' (rkJ f K0 s k) (rwJ f root s k) → (∀ k, k ≠ 17 → h' 34 k = h 34 k) → (∀ o, o ≠ 34 → o ≠ 39 → h' o = h o) → Q h') : RunsV G 210 [vR 34, vI (k : Int)] h Q := by
  obtain ⟨x1, x2, x3, x4, x5, x6, x7⟩ := id X
  have kn := SI_K S (by omega) hk
  by_cases z : k = 0
  · subst z
    have r0 : rwJ f root s 0 = tc f 0 root := by unfold rwJ rwP; rw [S.1.2.1, if_pos rfl]
    have k0 : rkJ f K0 s 0 = K0 := by unfold rkJ rkP; rw [S.1.2.1, if_pos rfl]
    have en := S.2.2.2.2.2.1 0 hk (Or.inr rfl) (Or.inl rfl) (by omega)
    have cl : ∀ i, i < K0 → clu n (tc f 0 root i) := fun i hi => by rw [← r0]; exact (S.2.1 0 hk i (by omega)).1
    have c0 := cl 0 (by omega)
    rw [k0, r0] at en
    apply q_M_rowOfSet
    refine ⟨fun _ => ?_, fun c => absurd wI_0 c⟩
    refine M_rowOfRoot (K := K0) (f := f) R.2.1 (by omega) (fun i hi => ?_) (by rw [x2]; exact en) ?_ (fun h' rm p q => H h' ?_ p q)
    · rw [x2]
      have := cl i hi
      unfold clu at this
      omega
    · rw [x2]
      unfold clu at c0
      simp only [tc] at c0
      omega
    · rw [k0, r0]; rw [x2] at rm; exact rm
  · have k1 : 1 ≤ k := (by omega)
    obtain ⟨cl, ev⟩ := SI_even S k1 hk
    obtain ⟨p1, p2, p3, p4, p5⟩ := S.2.2.2.1 k k1 hk
    have p5' := p5.2.2.1
    rw [ha_ea, ← p4] at p5'
    have ra := ha_rng cl x5.2
    have rb := ha_rng2 cl x5.2 ev
    have u5 := u4_rng hf (show 0 ≤ ha (s 2 k) + 56 by omega) (show ha (s 2 k) + 56 + 3 < 13824 by omega)
    have P0 : s 2 k ≠ 0 := (by omega)
    have r0 : rwJ f root s k = tc f (bR f (s 2 k)) (u4 f (ha (s 2 k) + 52)) := by unfold rwJ rwP; rw [if_neg P0]
    have k0 : rkJ f K0 s k = ((u4 f (ha (s 2 k) + 56) + 127) / 128).toNat := by unfold rkJ rkP; rw [if_neg P0]
    have NN := SI_N S (by omega)
    obtain ⟨q1, q2, q3, q4, q5⟩ := R.2.2.2.2.2.2.2.2 k k1 hk
    have c52 : 0 ≤ u4 f (ha (s 2 k) + 52) ∧ u4 f (ha (s 2 k) + 52) ≤ 101 := by
      by_cases y : u4 f (ha (s 2 k) + 56) = 0
      · rw [(p5'.2.2.2.2.2.1 y).1]; omega
      · have := p5'.2.2.2.2.2.2 y
        omega
    refine M_rowOfSet (f := f) (K := rkJ f K0 s k) R.2.1 (by omega) ⟨u5.1, by have := p5'.1; omega⟩ k0 q4 q5 q3 ?_ c52 (fun i hi => ?_) (fun h' rm p q => H h' (by rw [r0]; exact rm) p q)
    · unfold bR
      split
      · exact Or.inr rfl
      · exact Or.inl rfl
    · have := (S.2.1 k hk i hi).1
      rw [r0] at this
      unfold clu at this
      omega
theorem M_isThereBefore {Q : Int → AH → Prop} (S : SI f g n root K0 md s k e) (X : MXc g n root md h) (R : MR f md s h) (rm : Rm h (rkJ f K0 s k) (rwJ f root s k)) (hk : (k : Int) < s 1 0) (h0 : 0 ≤ e) (h1 : e < 4 * (rkJ f K0 s k : Int)) (ev : e % 2 = 0) (ok : SetOK f g n (ea (rwJ f root s k) e) (ea (rwJ f root s k) (e + 2)) (4 * (rkJ f K0 s k : Int) - e)) (rs : Rs h f (ea (rwJ f root s k) e) (ea (rwJ f root s k) (e + 2)))
    (H1 : ∀ h', lik f g root s k e → Rs h' f (ea (rwJ f root s k) e) (ea (rwJ f root s k) (e + 2)) → (∀ k, ¬ ((18 ≤ k ∧ k ≤ 24) ∨ k = 38) → h' 34 k = h 34 k) → (∀ o, ¬ (o = 34 ∨ o = 40 ∨ o = 50) → h' o = h o) → Q 1 h')
    (H0 : ∀ h', ¬ lik f g root s k e → Rs h' f (ea (rwJ f root s k) e) (ea (rwJ f root s k) (e + 2)) → (∀ k, ¬ ((18 ≤ k ∧ k ≤ 24) ∨ k = 38) → h' 34 k = h 34 k) → (∀ o, ¬ (o = 34 ∨ o = 40 ∨ o = 50) → h' o = h o) → Q 0 h') : RunsI G 220 [vR 34, vI (k : Int), vI e] h Q := by
  obtain ⟨x1, x2, x3, x4, x5, x6, x7⟩ := id X
  have NN := SI_N S (by omega)
  have n30 := ok.2.2.2.1.1
  have n1 := ok.2.2.2.1.2.2.1.1
  have nl := ok.2.2.2.1.2.2.1.2.2.1
  have rw1 : ∀ i : Nat, i < rkJ f K0 s k → 2 ≤ h 39 i ∧ h 39 i ≤ 101 := fun i hi => by
    rw [rm.2.2 i hi]
    have := (S.2.1 k hk i hi).1
    unfold clu at this
    omega
  apply q_M_isThereBefore
  refine M_keepName (by rw [rs.2.1]; omega) (fun b b38 b50 k4 ob => ?_)
  rw [rs.2.1] at b38 b50
  have key : ∀ (m j : Nat) (x : Int) (b : AH), (j : Int) + m = s 1 0 → 1 ≤ j → ((x = 1 ∧ lik f g root s k e) ∨ (x = 0 ∧ ∀ i : Nat, 1 ≤ i → i < j → s 3 i = k → ¬ Lk f g (ea (rwJ f root s k) e) (ea (rwJ f root s k) (e + 2)) (ea (rwJ f root s k) (s 4 i)) (ea (rwJ f root s k) (s 4 i + 2)))) → b 34 38 = rd f (ea (rwJ f root s k) e + 35) → (∀ i : Nat, (i : Int) < rd f (ea (rwJ f root s k) e + 35) → b 50 i = lt f (ea (rwJ f root s k) (e + 2)) i) → (∀ k, ¬ ((18 ≤ k ∧ k ≤ 24) ∨ k = 38) → b 34 k = h 34 k) → (∀ o, ¬ (o = 34 ∨ o = 40 ∨ o = 50) → b o = h o) → Go G (pI Q) 220 9 [some (vR 34), some (vI (k : Int)), some (vI e), some (vI x), some (vI (j : Int))] [] b := by
    intro m
    induction m with
    | zero =>
      intro j x b hm j1 hx b38 b50 k4 ob
      have e39 : b 39 = h 39 := ob 39 (by decide)
      have e17 : b 34 17 = (rkJ f K0 s k : Nat) := (k4 17 (by decide)).trans rm.1
      have sok : SetOK f (h 38) n (ea (h 39) e) (ea (h 39) (e + 2)) (4 * (rkJ f K0 s k : Int) - e) := (SetOK_row rm.2.2 h0 h1).mpr (SetOK_g x3.sm ok)
      have ea0 : ea (h 39) e = ea (rwJ f root s k) e := ea_cg rm.2.2 h0 h1
      have s3 := SetOK_3 ok
      have ea2 : ea (h 39) (e + 2) = ea (rwJ f root s k) (e + 2) := ea_cg rm.2.2 (by omega) (by omega)
      apply q_M_isThereBefore_c9
      rw [k4 34 (by decide), R.2.2.2.2.2.2.1, wI_id (z := (j : Int)) (by omega) (by omega), wI_id (z := s 1 0) (by omega) (by omega)]
      refine ⟨fun _ => ?_, fun z => by omega⟩
      refine M_isSet (f := f) (by rw [ob 35 (by decide)]; exact R.1) (by rw [ob 35 (by decide)]; exact R.2.1) (by rw [k4 0 (by decide), x1]; exact x5) h0 (by rw [e17]; have := rm.2.1; omega) (by rw [e17]; exact h1) (fun i hi => by rw [e39]; rw [e17] at hi; exact rw1 i (by omega)) (by rw [ob 38 (by decide)]; exact x4) (fun b2 _ _ rs2 fz => ?_) (fun b2 no fz => absurd ⟨ev, by rw [ob 38 (by decide), k4 0 (by decide), x1, e39, e17]; exact sok⟩ no)
      rw [e39, ea0, ea2] at rs2
      have k5 : ∀ k, ¬ ((18 ≤ k ∧ k ≤ 24) ∨ k = 38) → b2 34 k = h 34 k := fun k hk => (fz.1 k (by omega) (by omega) (by omega) (by omega) (by omega) (by omega)).trans (k4 k hk)
      have o5 : ∀ o, ¬ (o = 34 ∨ o = 40 ∨ o = 50) → b2 o = h o := fun o p => (fz.2 o (by omega) (by omega)).trans (ob o p)
      rcases hx with ⟨a, l⟩ | ⟨a, l⟩
      · rw [a]; exact ⟨Or.inr rfl, H1 b2 l rs2 k5 o5⟩
      · rw [a]
        refine ⟨Or.inl rfl, H0 b2 (fun ⟨i, i1, i2, i3, i4⟩ => l i i1 (by omega) i3 i4) rs2 k5 o5⟩
    | succ m ih =>
      intro j x b hm j1 hx b38 b50 k4 ob
      have e39 : b 39 = h 39 := ob 39 (by decide)
      have e17 : b 34 17 = (rkJ f K0 s k : Nat) := (k4 17 (by decide)).trans rm.1
      obtain ⟨q1, q2, q3, q4, q5⟩ := R.2.2.2.2.2.2.2.2 j j1 (by omega)
      obtain ⟨p1, p2, p3, p4, p5⟩ := S.2.2.2.1 j j1 (by omega)
      apply q_M_isThereBefore_c9
      rw [k4 34 (by decide), R.2.2.2.2.2.2.1, wI_id (z := (j : Int)) (by omega) (by omega), wI_id (z := s 1 0) (by omega) (by omega), show (j : Int).toNat = j by omega, ob 42 (by decide), ob 43 (by decide), q1, q2, wI_id (z := s 3 j) (by omega) (by omega), wI_id (z := (k : Int)) (by omega) (by omega), show (j : Int) + 1 = ((j + 1 : Nat) : Int) by omega]
      refine ⟨fun z => by omega, fun _ => ⟨by omega, fun z => ⟨by omega, ?_⟩, fun z => ?_⟩⟩
      · rw [show (s 3 j).toNat = k by omega] at p5 p4 p2
        have s3 := SetOK_3 p5
        have qr : s 4 j < 4 * (rkJ f K0 s k : Int) := (by omega)
        have sok : SetOK f (h 38) n (ea (h 39) (s 4 j)) (ea (h 39) (s 4 j + 2)) (4 * (rkJ f K0 s k : Int) - s 4 j) := (SetOK_row rm.2.2 p3.1 qr).mpr (SetOK_g x3.sm p5)
        have ea0 : ea (h 39) (s 4 j) = ea (rwJ f root s k) (s 4 j) := ea_cg rm.2.2 p3.1 qr
        have ea2 : ea (h 39) (s 4 j + 2) = ea (rwJ f root s k) (s 4 j + 2) := ea_cg rm.2.2 (by omega) (by omega)
        have cnd : ∀ (P : Prop), (rd f (ea (b 39) (s 4 j) + 35) = rd f (ea (rwJ f root s k) e + 35) ∧ ∀ i : Nat, (i : Int) < rd f (ea (rwJ f root s k) e + 35) → b 38 (lt f (ea (b 39) (s 4 j + 2)) i).toNat = b 38 (lt f (ea (rwJ f root s k) (e + 2)) i).toNat) ↔ Lk f g (ea (rwJ f root s k) e) (ea (rwJ f root s k) (e + 2)) (ea (rwJ f root s k) (s 4 j)) (ea (rwJ f root s k) (s 4 j + 2)) := fun _ => by
          rw [e39, ea0, ea2, ob 38 (by decide)]
          have gl : ∀ i : Nat, (i : Int) < rd f (ea (rwJ f root s k) e + 35) → rd f (ea (rwJ f root s k) (s 4 j) + 35) = rd f (ea (rwJ f root s k) e + 35) → (h 38 (lt f (ea (rwJ f root s k) (s 4 j + 2)) i).toNat = g (lt f (ea (rwJ f root s k) (s 4 j + 2)) i).toNat ∧ h 38 (lt f (ea (rwJ f root s k) (e + 2)) i).toNat = g (lt f (ea (rwJ f root s k) (e + 2)) i).toNat) := fun i hi eq => by
            have l1 := isLet_rng (nl i hi)
            have l2 := isLet_rng (p5.2.2.2.1.2.2.1.2.2.1 i (by rw [eq]; exact hi))
            exact ⟨x3 _ (by omega), x3 _ (by omega)⟩
          refine ⟨fun y => ⟨y.1.symm, fun i hi => ?_⟩, fun y => ⟨y.1.symm, fun i hi => ?_⟩⟩
          · have := gl i hi y.1
            have q := y.2 i hi
            rw [this.1, this.2] at q
            exact q.symm
          · have := gl i hi y.1.symm
            rw [this.1, this.2]
            exact (y.2 i hi).symm
        have k5 : ∀ b2 : AH, FZ b b2 → ∀ k, ¬ ((18 ≤ k ∧ k ≤ 24) ∨ k = 38) → b2 34 k = h 34 k := fun b2 fz k hk => (fz.1 k (by omega) (by omega) (by omega) (by omega) (by omega) (by omega)).trans (k4 k hk)
        have o5 : ∀ b2 : AH, FZ b b2 → ∀ o, ¬ (o = 34 ∨ o = 40 ∨ o = 50) → b2 o = h o := fun b2 fz o p => (fz.2 o (by omega) (by omega)).trans (ob o p)
        have c38 : ∀ b2 : AH, FZ b b2 → b2 34 38 = rd f (ea (rwJ f root s k) e + 35) := fun b2 fz => (fz.1 38 (by decide) (by decide) (by decide) (by decide) (by decide) (by decide)).trans b38
        have c50 : ∀ b2 : AH, FZ b b2 → ∀ i : Nat, (i : Int) < rd f (ea (rwJ f root s k) e + 35) → b2 50 i = lt f (ea (rwJ f root s k) (e + 2)) i := fun b2 fz i hi => by rw [fz.2 50 (by decide) (by decide)]; exact b50 i hi
        refine M_isLike (f := f) (m := rd f (ea (rwJ f root s k) e + 35)) (nm := lt f (ea (rwJ f root s k) (e + 2))) (by rw [ob 35 (by decide)]; exact R.1) (by rw [ob 35 (by decide)]; exact R.2.1) (by rw [k4 0 (by decide), x1]; exact x5) p3.1 (by rw [e17]; have := rm.2.1; omega) (by rw [e17]; exact qr) (fun i hi => by rw [e39]; rw [e17] at hi; exact rw1 i (by omega)) (by rw [ob 38 (by decide)]; exact x4) p3.2 (by rw [ob 38 (by decide), k4 0 (by decide), x1, e39, e17]; exact sok) b38 (by omega) b50 (fun i hi => by have := isLet_rng (nl i hi); omega) (fun b2 y fz => ?_) (fun b2 y fz => ?_)
        · refine ⟨fun y => absurd y (by decide), fun _ => ?_⟩
          refine ih (j + 1) (bO x 1) b2 (by omega) (by omega) (Or.inl ⟨?_, ⟨j, j1, by omega, z, (cnd True).mp y⟩⟩) (c38 b2 fz) (c50 b2 fz) (k5 b2 fz) (o5 b2 fz)
          rcases hx with ⟨x1, _⟩ | ⟨x1, _⟩ <;> rw [x1]
          · exact bO01.2.2.2
          · exact bO01.2.1
        · refine ⟨fun _ => ?_, fun y => absurd wI_0 y⟩
          refine ih (j + 1) (bO x 0) b2 (by omega) (by omega) ?_ (c38 b2 fz) (c50 b2 fz) (k5 b2 fz) (o5 b2 fz)
          rcases hx with ⟨x1, l⟩ | ⟨x1, l⟩
          · exact Or.inl ⟨by rw [x1]; exact bO01.2.2.1, l⟩
          · refine Or.inr ⟨by rw [x1]; exact bO01.1, fun i i1 i2 i3 => ?_⟩
            by_cases q : i = j
            · subst q; exact fun w => y ((cnd True).mpr w)
            · exact l i i1 (by omega) i3
      · refine ih (j + 1) (bO x 0) b (by omega) (by omega) ?_ b38 b50 k4 ob
        rcases hx with ⟨x1, l⟩ | ⟨x1, l⟩
        · exact Or.inl ⟨by rw [x1]; exact bO01.2.2.1, l⟩
        · refine Or.inr ⟨by rw [x1]; exact bO01.1, fun i i1 i2 i3 => ?_⟩
          by_cases q : i = j
          · subst q; exact absurd i3 z
          · exact l i i1 (by omega) i3
  have N1 := S.1.1
  exact key (s 1 0 - 1).toNat 1 0 b (by omega) (by omega) (Or.inr ⟨rfl, fun i i1 i2 => by omega⟩) b38 (fun i hi => (b50 i hi).trans (rs.2.2.2.2.2.2 i hi)) (fun k hk => k4 k (by omega)) (fun o p => ob o (by omega) (by omega))
end MY
