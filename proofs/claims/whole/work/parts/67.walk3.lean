/-! the walk: a SET is taken -/
section ACC
variable {s : AH} {K : Nat} {t : Nat → Int} {P k e m : Int} {w : Nat → Int}
theorem acc_0 : acc s K t P k e w m 0 = owr (s 0) K t P := by unfold acc; rw [up_n _ _ (by decide), up_n _ _ (by decide), up_n _ _ (by decide), up_n _ _ (by decide), up_n _ _ (by decide), up_n _ _ (by decide), up_s]
theorem acc_1 : acc s K t P k e w m 1 0 = s 1 0 + 1 := by unfold acc; rw [up_n _ _ (by decide), up_n _ _ (by decide), up_n _ _ (by decide), up_n _ _ (by decide), up_n _ _ (by decide), up_s, st_s]
theorem acc_2 : acc s K t P k e w m 2 = st (s 2) (s 1 0).toNat P := by unfold acc; rw [up_n _ _ (by decide), up_n _ _ (by decide), up_n _ _ (by decide), up_n _ _ (by decide), up_s]
theorem acc_3 : acc s K t P k e w m 3 = st (s 3) (s 1 0).toNat k := by unfold acc; rw [up_n _ _ (by decide), up_n _ _ (by decide), up_n _ _ (by decide), up_s]
theorem acc_4 : acc s K t P k e w m 4 = st (s 4) (s 1 0).toNat e := by unfold acc; rw [up_n _ _ (by decide), up_n _ _ (by decide), up_s]
theorem acc_5 : acc s K t P k e w m 5 = w := by unfold acc; rw [up_n _ _ (by decide), up_s]
theorem acc_6 : acc s K t P k e w m 6 0 = m := by unfold acc; rw [up_s, st_s]
end ACC
section WALK3
variable {f g : Nat → Int} {n root : Int} {K0 : Nat} {md : Int} {s : AH} {k : Nat} {e : Int}
theorem SI_acc (S : SI f g n root K0 md s k e) (hn : 0 ≤ n ∧ n ≤ 100) (hk : (k : Int) < s 1 0) (hd : dirJ f s k) (h0 : 0 ≤ e) (h1 : e < 4 * (rkJ f K0 s k : Int)) (e2 : e % 2 = 0) (ok : SetOK f g n (ea (rwJ f root s k) e) (ea (rwJ f root s k) (e + 2)) (4 * (rkJ f K0 s k : Int) - e)) {P : Int} (hP : P = 4 * rwJ f root s k (e / 4).toNat + e % 4) (nb : ¬ brk f n root K0 P) (nm : ¬ mtd f root K0 s P) (nd : opn f root K0 P → ¬ dup f root K0 P) (nl : ¬ lik f g root s k e) (no : ¬ (opn f root K0 P ∧ md = 0)) {w : Nat → Int} {m : Int} (hw : (w = s 5 ∧ ¬ opn f root K0 P) ∨ (opn f root K0 P ∧ w = wb (s 5) (512 + 4 * rwP f root P (rkP f K0 P - 1)) 4 4294967295)) : SI f g n root K0 md (acc s (rkP f K0 P) (rwP f root P) P k e w m) k (e + (1 + rd f (ea (rwJ f root s k) e + 1))) := by
  have SS := S
  obtain ⟨i1, i2, i3, i4, i5, i6, i7, i8, ⟨w1, w2, w3, w4, w5, w6, w7⟩, i10⟩ := S
  have o3 := SetOK_3 ok
  have ck := SI_row SS hk h0 h1
  have ck' := ck
  unfold clu at ck'
  have hd0 : ea (rwJ f root s k) e = ha P := by rw [hP]; exact ha_ea
  have P8 : 8 ≤ P := by omega
  have nb' : ∀ i, i < rkP f K0 P → clu n (rwP f root P i) := fun i hi => Classical.byContradiction (fun q => nb ⟨i, hi, q⟩)
  have nm' : ∀ i, i < rkP f K0 P → s 0 (rwP f root P i).toNat = -1 := fun i hi => Classical.byContradiction (fun q => nm ⟨i, hi, q⟩)
  have rw1 : rwP f root P = tc f (bR f P) (u4 f (ha P + 52)) := by unfold rwP; rw [if_neg (by omega)]
  -- indexes
  have N0 : 1 ≤ s 1 0 := i1.1
  generalize eN : (s 1 0).toNat = N
  have eN' : s 1 0 = N := by omega
  generalize es : acc s (rkP f K0 P) (rwP f root P) P k e w m = z
  have z0 : z 0 = owr (s 0) (rkP f K0 P) (rwP f root P) P := by rw [← es, acc_0]
  have z1 : z 1 0 = s 1 0 + 1 := by rw [← es, acc_1]
  have z2 : z 2 = st (s 2) N P := by rw [← es, acc_2, eN]
  have z3 : z 3 = st (s 3) N k := by rw [← es, acc_3, eN]
  have z4 : z 4 = st (s 4) N e := by rw [← es, acc_4, eN]
  have z5 : z 5 = w := by rw [← es, acc_5]
  clear es
  have z2o : ∀ j : Nat, j ≠ N → z 2 j = s 2 j := fun j hj => by rw [z2, st_n _ _ hj]
  have z3o : ∀ j : Nat, j ≠ N → z 3 j = s 3 j := fun j hj => by rw [z3, st_n _ _ hj]
  have z4o : ∀ j : Nat, j ≠ N → z 4 j = s 4 j := fun j hj => by rw [z4, st_n _ _ hj]
  have z2N : z 2 N = P := by rw [z2, st_s]
  have z3N : z 3 N = k := by rw [z3, st_s]
  have z4N : z 4 N = e := by rw [z4, st_s]
  have rwo : ∀ j : Nat, j ≠ N → rwJ f root z j = rwJ f root s j := fun j hj => by unfold rwJ; rw [z2o j hj]
  have rko : ∀ j : Nat, j ≠ N → rkJ f K0 z j = rkJ f K0 s j := fun j hj => by unfold rkJ; rw [z2o j hj]
  have rwN : rwJ f root z N = rwP f root P := by unfold rwJ; rw [z2N]
  have rkN : rkJ f K0 z N = rkP f K0 P := by unfold rkJ; rw [z2N]
  have dro : ∀ j : Nat, j ≠ N → (dirJ f z j ↔ dirJ f s j) := fun j hj => by unfold dirJ; rw [z2o j hj]
  have kN : k ≠ N := by omega
  have pos : ∀ j : Nat, (j : Int) < s 1 0 → s 2 j ≠ -1 := fun j hj => by
    by_cases c : j = 0
    · rw [c, i1.2.1]; decide
    · have := i1.2.2 j (by omega) hj
      omega
  -- the new CLUSTERS belong to nobody
  have fresh : ∀ j : Nat, (j : Int) < s 1 0 → ∀ i, i < rkJ f K0 s j → ∀ i', i' < rkP f K0 P → rwP f root P i' ≠ rwJ f root s j i := fun j hj i hi i' hi' q => by
    have a := (i2 j hj i hi).2
    rw [← q, nm' i' hi'] at a
    exact pos j hj a.symm
  have wlow : ∀ a : Int, 0 ≤ a → a < 512 ∨ 920 ≤ a → rd w a = rd (s 5) a := by
    intro a a0 a1
    rcases hw with ⟨q, _⟩ | ⟨o, q⟩
    · rw [q]
    · have c := nb' (rkP f K0 P - 1) (by have := o.2.1; omega)
      unfold clu at c
      rw [q, rd_wb_ne (by omega) a0 (by omega)]
  have wBy : By w := by
    rcases hw with ⟨q, _⟩ | ⟨_, q⟩
    · rw [q]; exact w2
    · rw [q]; exact By_wb w2
  have eai : ∀ (r : Nat → Int) (q : Int), 2 ≤ r (q / 4).toNat → 1024 ≤ ea r q := fun r q c => by unfold ea ca; omega
  have inj : ∀ i i', i < i' → i' < rkP f K0 P → rwP f root P i ≠ rwP f root P i' := by
    intro i i' a b c
    by_cases o : opn f root K0 P
    · exact nd o ⟨i, i', a, b, c⟩
    · by_cases br : bR f P = 1
      · rw [rw1, br, tc_1, tc_1] at c
        omega
      · have b0 : bR f P = 0 := by unfold bR at br ⊢; split <;> simp_all
        have en : rwP f root P (rkP f K0 P) = 4294967295 := Classical.byContradiction (fun q => o ⟨b0, by omega, q⟩)
        rw [rw1] at c en nb'
        exact tc_inj hn.2 nb' en a b c
  have nin : ∀ q : Int, e ≤ q → ¬ inS s k q := fun q hq ⟨j, j1, j2, j3, j4⟩ => by
    have := i10 j j1 j2
    omega
  have ino : ∀ (d : Nat) (q : Int), inS s d q → inS z d q := fun d q ⟨j, j1, j2, j3, j4⟩ => ⟨j, j1, by rw [z1]; omega, by rw [z3o j (by omega)]; exact j3, by rw [z4o j (by omega)]; exact j4⟩
  have inz : ∀ (d : Nat) (q : Int), inS z d q → inS s d q ∨ (d = k ∧ q = e) := fun d q ⟨j, j1, j2, j3, j4⟩ => by
    by_cases c : j = N
    · rw [c, z3N] at j3
      rw [c, z4N] at j4
      exact Or.inr ⟨by omega, j4.symm⟩
    · rw [z3o j c] at j3
      rw [z4o j c] at j4
      rw [z1] at j2
      exact Or.inl ⟨j, j1, by omega, j3, j4⟩
  have inN : inS z k e := ⟨N, by omega, by rw [z1]; omega, z3N, z4N⟩
  have t1 : rd f (ea (rwJ f root s k) (e + 1)) = 192 := by rw [ea_1 h0 e2]; exact o3.2.2.2.1
  have t2 : rd f (ea (rwJ f root s k) (e + 2)) = 193 := o3.2.2.2.2.1
  have t3 : rd f (ea (rwJ f root s k) e + 1) = 3 → rd f (ea (rwJ f root s k) (e + 3)) = 193 := fun q => by
    rw [show e + 3 = e + 2 + 1 by omega, ea_1 (by omega) (by omega)]
    exact o3.2.2.2.2.2 q
  generalize em : rd f (ea (rwJ f root s k) e + 1) = m1 at o3 t3
  have lastE : ∀ j : Nat, (j : Int) < z 1 0 → j ≠ N → (j : Int) < s 1 0 := fun j a b => by rw [z1] at a; omega
  have rdw : ∀ (r : Nat → Int) (q : Int), 2 ≤ r (q / 4).toNat → rd w (ea r q) = rd (s 5) (ea r q) := fun r q c => wlow _ (by have := eai r q c; omega) (by have := eai r q c; omega)
  refine ⟨⟨by rw [z1]; omega, by rw [z2o 0 (by omega)]; exact i1.2.1, fun j a b => ?_⟩, fun j a i hi => ?_, fun j a i i' hii hi' => ?_, fun j a b => ?_, fun j j' a b => ?_, fun j a b c d => ?_, fun j j' a b c d => ?_, ⟨fun q q0 q1 => ?_, fun hm d hdk hd2 hd3 q q0 q1 q2 => ?_⟩, ⟨fun hm => ?_, by rw [z5]; exact wBy, fun a ha => ?_, fun c c0 c1 => ?_, fun a a0 a1 a2 => ?_, fun j a b c q q0 q1 q2 => ?_, fun c c1 c2 a a0 a1 => ?_⟩, fun j a b => ?_⟩
  · by_cases c : j = N
    · rw [c, z2N]; omega
    · rw [z2o j c]; exact i1.2.2 j a (lastE j b c)
  · by_cases c : j = N
    · subst c
      rw [rkN] at hi
      rw [rwN, z2N, z0]
      have q := nb' i hi
      refine ⟨q, owr_y ⟨i, hi, ?_⟩⟩
      unfold clu at q
      omega
    · rw [rko j c] at hi
      have a' := lastE j a c
      rw [rwo j c, z2o j c, z0]
      have q := i2 j a' i hi
      refine ⟨q.1, ?_⟩
      rw [owr_n (fun ⟨i', hi', y⟩ => fresh j a' i hi i' hi' (by have := q.1; unfold clu at this; omega))]
      exact q.2
  · by_cases c : j = N
    · subst c
      rw [rkN] at hi'
      rw [rwN]
      exact inj i i' hii hi'
    · rw [rko j c] at hi'
      rw [rwo j c]
      exact i3 j (lastE j a c) i i' hii hi'
  · by_cases c : j = N
    · subst c
      rw [z3N, z4N, z2N, z1]
      rw [show ((k : Int)).toNat = k by omega, rwo k kN, rko k kN]
      refine ⟨by omega, (dro k kN).mpr hd, ⟨h0, e2⟩, hP, ok⟩
    · have b' := lastE j b c
      obtain ⟨q1, q2, q3, q4, q5⟩ := i4 j a b'
      have pn : (s 3 j).toNat ≠ N := by omega
      rw [z3o j c, z4o j c, z2o j c, z1, rwo _ pn, rko _ pn]
      exact ⟨by omega, (dro _ pn).mpr q2, q3, q4, q5⟩
  · by_cases c : j' = N
    · subst c
      have jn : j ≠ j' := by omega
      have a' : (j : Int) < s 1 0 := by omega
      rw [z2o j jn, z2N]
      intro q
      by_cases j0 : j = 0
      · rw [j0, i1.2.1] at q; omega
      · obtain ⟨p1, p2, p3, p4, p5⟩ := i4 j (by omega) a'
        have r1 := (SetOK_3 p5).2.1
        have m1' := (SetOK_3 p5).1
        rw [hP, p4] at q
        have cl := SI_row SS (j := (s 3 j).toNat) (q := s 4 j) (by omega) p3.1 (by omega)
        unfold clu at cl
        have o := SI_own SS (j := (s 3 j).toNat) (j' := k) (i := (s 4 j / 4).toNat) (i' := (e / 4).toNat) (by omega) hk (by omega) (by omega) (by omega)
        have := i10 j (by omega) a'
        have := o.1
        have := o.2
        omega
    · have b' := lastE j' b c
      rw [z2o j (by omega), z2o j' c]
      exact i5 j j' a b'
  · by_cases q : j = N
    · subst q
      rw [rkN] at d ⊢
      rw [rwN]
      rw [z2N] at c
      have c' : bR f P = 0 := by rcases c with c | c; omega; exact c
      refine Classical.byContradiction (fun y => no ⟨⟨c', d, y⟩, ?_⟩)
      rcases b with b | b
      · exact b
      · omega
    · rw [rko j q] at d ⊢
      rw [rwo j q]
      rw [z2o j q] at c
      exact i6 j (lastE j a q) b c d
  · by_cases q : j' = N
    · subst q
      have jn : j ≠ j' := by omega
      rw [z3o j jn, z3N] at d
      rw [z3o j jn, d, show ((k : Int)).toNat = k by omega, rwo k kN, z4o j jn, z4N]
      intro y
      exact nl ⟨j, a, by omega, d, Lk_sy y⟩
    · have b' := lastE j' c q
      have jn : j ≠ N := by omega
      rw [z3o j jn, z3o j' q] at d
      have pn : (s 3 j).toNat ≠ N := by have := (i4 j a (by omega)).1; omega
      rw [z3o j jn, rwo _ pn, z4o j jn, z4o j' q]
      exact i7 j j' a b b' d
  · rw [rwo k kN, z5]
    by_cases c : q < e
    · have cl := SI_row SS hk (q := q) q0 (by omega)
      unfold clu at cl
      rw [rdw _ _ cl.1, i8.1 q q0 c]
      refine ⟨ino k q, fun y => ?_⟩
      rcases inz k q y with y | y
      · exact y
      · omega
    · have q3 : q < 4 * (rkJ f K0 s k : Int) := by omega
      have cl := SI_row SS hk (q := q) q0 q3
      unfold clu at cl
      rw [rdw _ _ cl.1, w6 k (Nat.le_refl k) hk hd q q0 q3 (fun _ => by omega)]
      by_cases c2 : q = e
      · rw [c2]
        exact ⟨fun _ => inN, fun _ => o3.2.2.1⟩
      · have ty : rd f (ea (rwJ f root s k) q) ≠ 133 := by
          rcases (show q = e + 1 ∨ q = e + 2 ∨ (q = e + 3 ∧ m1 = 3) by omega) with y | y | y
          · rw [y, t1]; decide
          · rw [y, t2]; decide
          · rw [y.1, t3 y.2]; decide
        refine ⟨fun y => absurd y ty, fun y => ?_⟩
        rcases inz k q y with y | y
        · exact absurd y (nin q (by omega))
        · exact absurd y.2 c2
  · have dn : d ≠ N := by omega
    rw [rwo d dn] at q2
    rw [rko d dn] at q1
    exact ino d q (i8.2 hm d hdk (by omega) ((dro d dn).mp hd3) q q0 q1 q2)
  · rw [z5]
    rcases hw with ⟨q, _⟩ | ⟨o, _⟩
    · rw [q]; exact w1 hm
    · exact absurd ⟨o, hm⟩ no
  · have := wlow (a : Int) (by omega) (by omega)
    unfold rd at this
    rw [show ((a : Int)).toNat = a by omega] at this
    rw [z5, this]
    exact w3 a ha
  · rw [z5]
    have old : (∃ j : Nat, 1 ≤ j ∧ (j : Int) < s 1 0 ∧ bR f (s 2 j) = 0 ∧ 0 < rkJ f K0 s j ∧ c = rwJ f root s j (rkJ f K0 s j - 1)) → ∃ j : Nat, 1 ≤ j ∧ (j : Int) < z 1 0 ∧ bR f (z 2 j) = 0 ∧ 0 < rkJ f K0 z j ∧ c = rwJ f root z j (rkJ f K0 z j - 1) := fun ⟨j, j1, j2, j3, j4, j5⟩ => ⟨j, j1, by rw [z1]; omega, by rw [z2o j (by omega)]; exact j3, by rw [rko j (by omega)]; exact j4, by rw [rwo j (by omega), rko j (by omega)]; exact j5⟩
    rcases hw with ⟨q, _⟩ | ⟨o, q⟩
    · rw [q]
      rcases w4 c c0 c1 with y | y
      · exact Or.inl y
      · exact Or.inr (old y)
    · have cl := nb' (rkP f K0 P - 1) (by have := o.2.1; omega)
      unfold clu at cl
      by_cases c2 : c = rwP f root P (rkP f K0 P - 1)
      · exact Or.inr ⟨N, by omega, by rw [z1]; omega, by rw [z2N]; exact o.1, by rw [rkN]; exact o.2.1, by rw [rwN, rkN]; exact c2⟩
      · rcases w4 c c0 c1 with y | y
        · refine Or.inl (fun j p r => ?_)
          rw [q, rd_wb_ne (by omega) (by omega) (by omega)]
          exact y j p r
        · exact Or.inr (old y)
  · rw [z5, wlow a (by omega) (by omega)]
    exact w5 a a0 a1 a2
  · by_cases y : j = N
    · subst y
      rw [rkN] at q1
      rw [rwN, z5]
      have cl := nb' (q / 4).toNat (by omega)
      have cl' := cl
      unfold clu at cl'
      rw [rdw _ _ cl'.1]
      have ei := ea_in (r := rwP f root P) (q := q)
      exact w7 _ cl (nm' _ (by omega)) _ ei.1 (by omega)
    · have b' := lastE j b y
      rw [rko j y] at q1
      rw [rwo j y, z5]
      have cl := SI_row SS (j := j) b' (q := q) q0 q1
      unfold clu at cl
      rw [rdw _ _ cl.1]
      exact w6 j a b' ((dro j y).mp c) q q0 q1 (fun x => by have := q2 x; omega)
  · rw [z5]
    have cc := c1
    unfold clu at cc
    rw [wlow a (by unfold ca at a0; omega) (by unfold ca at a0; omega)]
    have c3 : s 0 c.toNat = -1 := by
      rw [z0] at c2
      by_cases y : ∃ i, i < rkP f K0 P ∧ rwP f root P i = ((c.toNat : Nat) : Int)
      · rw [owr_y y] at c2
        omega
      · rw [owr_n y] at c2
        exact c2
    exact w7 c c1 c3 a a0 a1
  · by_cases c : j = N
    · subst c
      rw [z3N, z4N]
      exact Or.inr ⟨rfl, by omega⟩
    · rw [z3o j c, z4o j c]
      have := i10 j a (lastE j b c)
      omega
end WALK3
