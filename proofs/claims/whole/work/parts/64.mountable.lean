/-! questions 1 to 4: the reference whole; there is one answer -/
theorem RW_ex {f : Nat → Int} {n root : Int} (hn : 0 ≤ n ∧ n ≤ 100) (hr : clu n root) : ∃ K, RWok f n root K ∨ RWno f n root K := by
  have key : ∀ m : Nat, (∃ K, RWok f n root K ∨ RWno f n root K) ∨ RW f n root (m + 1) := by
    intro m
    induction m with
    | zero => exact Or.inr ⟨by omega, fun i hi => by rw [show i = 0 by omega]; exact hr, fun i j a b => by omega⟩
    | succ m ih =>
      rcases ih with e | w
      · exact Or.inl e
      · by_cases c1 : tc f 0 root (m + 1) = 4294967295
        · exact Or.inl ⟨m + 1, Or.inl ⟨w, c1⟩⟩
        · by_cases c2 : clu n (tc f 0 root (m + 1)) ∧ ¬ ∃ i, i < m + 1 ∧ tc f 0 root i = tc f 0 root (m + 1)
          · refine Or.inr ⟨by omega, fun i hi => ?_, fun i j a b => ?_⟩
            · by_cases q : i = m + 1
              · rw [q]; exact c2.1
              · exact w.2.1 i (by omega)
            · by_cases q : j = m + 1
              · rw [q]
                intro z
                exact c2.2 ⟨i, by omega, z⟩
              · exact w.2.2 i j a (by omega)
          · refine Or.inl ⟨m + 1, Or.inr ⟨w, c1, ?_⟩⟩
            by_cases c3 : clu n (tc f 0 root (m + 1))
            · refine Or.inr ?_
              exact Classical.byContradiction (fun q => c2 ⟨c3, q⟩)
            · exact Or.inl c3
  rcases key 101 with e | w
  · exact e
  · have := php2 w.2.1 hn.1 w.2.2
    omega
theorem RW_lt {f : Nat → Int} {n root : Int} (hn : 0 ≤ n ∧ n ≤ 100) {K L : Nat} (a : RWok f n root K ∨ RWno f n root K) (b : RW f n root L) : L ≤ K := by
  refine Classical.byContradiction (fun q => ?_)
  have c := b.2.1 K (by omega)
  rcases a with a | a
  · have := a.2
    unfold clu at c
    omega
  · rcases a.2.2 with d | ⟨i, hi, d⟩
    · exact d c
    · exact b.2.2 i K hi (by omega) d
theorem RW_fun {f : Nat → Int} {n root : Int} (hn : 0 ≤ n ∧ n ≤ 100) {K L : Nat} (a : RWok f n root K ∨ RWno f n root K) (b : RWok f n root L ∨ RWno f n root L) : K = L := by
  have a' : RW f n root K := by rcases a with a | a <;> exact a.1
  have b' : RW f n root L := by rcases b with b | b <;> exact b.1
  have := RW_lt hn a b'
  have := RW_lt hn b a'
  omega
theorem BaseOK_fun {f : Nat → Int} {a b : Int} {K L : Nat} {g e : Nat → Int} (p : BaseOK f a K g) (q : BaseOK f b L e) : a = b ∧ K = L ∧ g = e := by
  have ab := Sel_fun p.1 q.1
  subst ab
  have n := (Sel_rng p.1).2.1
  have kl := RW_fun (by omega) (Or.inl p.2.2.2.1) (Or.inl q.2.2.2.1)
  subst kl
  refine ⟨rfl, rfl, ?_⟩
  have x := p.2.2.2.2.2.2.2.2.2.2.2.2.1
  have y := q.2.2.2.2.2.2.2.2.2.2.2.2.1
  exact Option.some.inj (x.symm.trans y)
theorem Base_ex {f : Nat → Int} {a : Int} {K : Nat} {g : Nat → Int} {x y z : Int} (p : BaseOK f a K g) (q : BaseNo f x y z) : False := by
  have n := (Sel_rng p.1).2.1
  rcases q with q | ⟨b, s, q⟩
  · rcases p.1 with r | r
    · exact q.1 r.1
    · exact q.2.1 r.2.1
  · have ab := Sel_fun p.1 s
    subst ab
    rcases q with q | q | ⟨q1, q2, L, q⟩
    · exact q.1 p.2.1
    · exact q.2.1 p.2.2.1
    · rcases q with q | ⟨q, r⟩
      · have kl := RW_fun (by omega) (Or.inl p.2.2.2.1) (Or.inr q.1)
        subst kl
        exact q.1.2.1 p.2.2.2.1.2
      · have kl := RW_fun (by omega) (Or.inl p.2.2.2.1) (Or.inl q)
        subst kl
        rcases r with r | r
        · exact r.1 p.2.2.2.2.1
        · exact r.2.1 g p.2.2.2.2.2
theorem BaseNo_fun {f : Nat → Int} {x y z x' y' z' : Int} (p : BaseNo f x y z) (q : BaseNo f x' y' z') : x = x' ∧ y = y' ∧ z = z' := by
  rcases p with p | ⟨a, s, p⟩
  · rcases q with q | ⟨b, t, q⟩
    · omega
    · rcases t with t | t
      · exact absurd t.1 p.1
      · exact absurd t.2.1 p.2.1
  · have n := (Sel_rng s).2.1
    rcases q with q | ⟨b, t, q⟩
    · rcases s with s | s
      · exact absurd s.1 q.1
      · exact absurd s.2.1 q.2.1
    · have ab := Sel_fun s t
      subst ab
      rcases p with p | p | ⟨p1, p2, K, p⟩ <;> rcases q with q | q | ⟨q1, q2, L, q⟩
      · omega
      · exact absurd q.1 p.1
      · exact absurd q1 p.1
      · exact absurd p.1 q.1
      · omega
      · exact absurd q2 p.2.1
      · exact absurd p1 q.1
      · exact absurd p2 q.2.1
      · have kl : K = L := RW_fun (n := u4 f (a + 32)) (root := u4 f (a + 36)) (by omega) (by rcases p with p | p; exact Or.inr p.1; exact Or.inl p.1) (by rcases q with q | q; exact Or.inr q.1; exact Or.inl q.1)
        subst kl
        rcases p with p | ⟨p, r⟩ <;> rcases q with q | ⟨q, s2⟩
        · obtain ⟨_, p1, p2, p3⟩ := p
          obtain ⟨_, q1, q2, q3⟩ := q
          exact ⟨p1.trans q1.symm, p2.trans q2.symm, p3.trans q3.symm⟩
        · exact absurd q.2 p.1.2.1
        · exact absurd p.2 q.1.2.1
        · rcases r with r | r <;> rcases s2 with u | u
          · obtain ⟨_, p1, p2, p3⟩ := r
            obtain ⟨_, q1, q2, q3⟩ := u
            exact ⟨p1.trans q1.symm, p2.trans q2.symm, p3.trans q3.symm⟩
          · exact absurd u.1 r.1
          · exact absurd r.1 u.1
          · obtain ⟨_, _, p1, p2, p3⟩ := r
            obtain ⟨_, _, q1, q2, q3⟩ := u
            exact ⟨p1.trans q1.symm, p2.trans q2.symm, p3.trans q3.symm⟩
section MOUNTABLE
variable {G : GG} {h : AH} {f : Nat → Int}
theorem M_isMountable {P : Int → AH → Prop} (h5 : Sb (h 35)) (hE : E (ub (h 35)) f)
    (H1 : ∀ h' a K g, BaseOK f a K g → Gr g → E2 (h' 38) g → Mt (h' 37) (BM f (u4 f (a + 36)) K) → h' 34 0 = u4 f (a + 32) → h' 34 1 = u4 f (a + 36) → h' 34 2 = u4 f (ca (u4 f (a + 36)) + 20) → h' 34 12 = (if a = 0 then 0 else 1) → (∀ k, k ≠ 0 → k ≠ 1 → k ≠ 2 → k ≠ 12 → k ≠ 15 → h' 34 k = h 34 k) → (∀ o, o ≠ 34 → o ≠ 37 → o ≠ 38 → h' o = h o) → P 1 h')
    (H0 : ∀ h' x y z, BaseNo f x y z → h' 34 9 = x → h' 34 10 = y → h' 34 11 = z → (∀ k, k ≠ 0 → k ≠ 1 → k ≠ 2 → k ≠ 9 → k ≠ 10 → k ≠ 11 → k ≠ 12 → k ≠ 15 → h' 34 k = h 34 k) → (∀ o, o ≠ 34 → o ≠ 37 → o ≠ 38 → h' o = h o) → P 0 h') : RunsI G 192 [vR 34] h P := by
  have hf : By f := hE.by (ub_By _)
  have mts : ∀ (b : AH) (x y z : Int), BaseNo f x y z → (∀ k, k ≠ 0 → k ≠ 1 → k ≠ 2 → k ≠ 12 → k ≠ 15 → b 34 k = h 34 k) → (∀ o, o ≠ 34 → o ≠ 37 → o ≠ 38 → b o = h o) → RunsI G 188 [vR 34, vI x, vI y, vI z] b (fun r2 h2 => ((r2 = 0 ∨ r2 = 1) ∧ P r2 h2)) := by
    intro b x y z bn b34 ob
    apply q_M_meets
    refine ⟨Or.inl rfl, Or.inl rfl, H0 _ x y z bn ?_ ?_ (hs_same _ _ _ _) (fun k a b c d e f g i => ?_) (fun o p q r => ?_)⟩
    · rw [hs_k _ _ _ _ _ (by decide), hs_k _ _ _ _ _ (by decide), hs_same]
    · rw [hs_k _ _ _ _ _ (by decide), hs_same]
    · rw [hs_k _ _ _ _ _ f, hs_k _ _ _ _ _ e, hs_k _ _ _ _ _ d]; exact b34 k a b c g i
    · rw [hs_o _ _ _ _ _ p, hs_o _ _ _ _ _ p, hs_o _ _ _ _ _ p]; exact ob o p q r
  have k57 : ∀ (a : Int) (b : AH), Sel f a → b 34 12 = (if a = 0 then 0 else 1) → (∀ k, k ≠ 12 → b 34 k = h 34 k) → (∀ o, o ≠ 34 → b o = h o) → Go G (pI P) 192 57 [some (vR 34), some (vI a), none, none, none] [] b := by
    intro a b sl b12 b34 ob
    obtain ⟨sa, sn, sr⟩ := Sel_rng sl
    have sr' := sr
    unfold clu at sr'
    have hEb : E (ub (b 35)) f := by rw [ob 35 (by decide)]; exact hE
    apply q_M_isMountable_c57
    refine M_get4 hEb (by omega) (by omega) ?_
    refine M_get4 (f := f) (by rw [hs_o _ _ _ _ _ (by decide)]; exact hEb) (by omega) (by omega) ?_
    generalize eg : hs (hs b 34 0 (u4 f (a + 32))) 34 1 (u4 f (a + 36)) = q
    have q0 : q 34 0 = u4 f (a + 32) := by rw [← eg, hs_k _ _ _ _ _ (by decide), hs_same]
    have q1 : q 34 1 = u4 f (a + 36) := by rw [← eg, hs_same]
    have qk : ∀ k, k ≠ 0 → k ≠ 1 → q 34 k = b 34 k := fun k x y => by rw [← eg, hs_k _ _ _ _ _ y, hs_k _ _ _ _ _ x]
    have qo : ∀ o, o ≠ 34 → q o = h o := fun o ho => by rw [← eg, hs_o _ _ _ _ _ ho, hs_o _ _ _ _ _ ho]; exact ob o ho
    clear eg
    have qk' : ∀ k, k ≠ 0 → k ≠ 1 → k ≠ 2 → k ≠ 12 → k ≠ 15 → q 34 k = h 34 k := fun k x y _ z _ => (qk k x y).trans (b34 k z)
    have hEq : E (ub (q 35)) f := by rw [qo 35 (by decide)]; exact hE
    have h5q : Sb (q 35) := by rw [qo 35 (by decide)]; exact h5
    have f0 := u4_rng hf (show (0 : Int) ≤ 512 by decide) (show (512 : Int) + 3 < 13824 by decide)
    have f1 := u4_rng hf (show (0 : Int) ≤ 516 by decide) (show (516 : Int) + 3 < 13824 by decide)
    have k127 : (ft f 0 ≠ 4294967288 ∨ ft f 1 ≠ 4294967295) → Go G (pI P) 192 127 [some (vR 34), none, none, none, none] [] q := by
      intro c
      apply q_M_isMountable_c127
      refine M_get4 hEq (by decide) (by decide) ?_
      rw [wL_id (z := u4 f 512) (by omega) (by omega)]
      refine ⟨fun c1 => mts q 2 1 0 (Or.inr ⟨a, sl, Or.inr (Or.inl ⟨c1, ?_, rfl, rfl, rfl⟩)⟩) qk' (fun o p _ _ => qo o p), fun c1 => mts q 2 0 0 (Or.inr ⟨a, sl, Or.inl ⟨c1, rfl, rfl, rfl⟩⟩) qk' (fun o p _ _ => qo o p)⟩
      rcases c with c | c
      · exact absurd c1 c
      · exact c
    refine M_get4 hEq (by decide) (by decide) ?_
    rw [wL_id (z := u4 f 512) (by omega) (by omega)]
    refine ⟨fun c1 => ?_, fun c1 => k127 (Or.inl c1)⟩
    refine M_get4 hEq (by decide) (by decide) ?_
    rw [wL_id (z := u4 f 516) (by omega) (by omega)]
    refine ⟨fun c2 => ?_, fun c2 => k127 (Or.inr c2)⟩
    have c1' : ft f 0 = 4294967288 := c1
    have c2' : ft f 1 = 4294967295 := c2
    obtain ⟨K, hK⟩ := RW_ex (f := f) (n := u4 f (a + 32)) (root := u4 f (a + 36)) (by omega) sr
    have w : RW f (u4 f (a + 32)) (u4 f (a + 36)) K := by rcases hK with e | e <;> exact e.1
    have k190 : ∀ (m i : Nat) (e : AH), i + m + 1 = K → Mt (e 37) (RM f (u4 f (a + 36)) (i + 1)) → (∀ o, o ≠ 37 → e o = q o) → Go G (pI P) 192 190 [some (vR 34), none, some (vI (tc f 0 (u4 f (a + 36)) i)), none, none] [] e := by
      intro m
      induction m with
      | zero =>
        intro i e hm mt oe
        have ei : i + 1 = K := by omega
        rw [ei] at mt
        have ci := w.2.1 i (by omega)
        unfold clu at ci
        have hEe : E (ub (e 35)) f := by rw [oe 35 (by decide)]; exact hEq
        have h5e : Sb (e 35) := by rw [oe 35 (by decide)]; exact h5q
        have e34 : e 34 = q 34 := oe 34 (by decide)
        have tK : ft f (tc f 0 (u4 f (a + 36)) i) = tc f 0 (u4 f (a + 36)) K := by rw [← ei]; rfl
        have fr := ft_rng hf (show 0 ≤ tc f 0 (u4 f (a + 36)) i by omega) (show tc f 0 (u4 f (a + 36)) i ≤ 101 by omega)
        rw [tK] at fr
        apply q_M_isMountable_c190
        refine M_fat hEe (by omega) (by omega) ?_
        rw [tK, wL_id (z := tc f 0 (u4 f (a + 36)) K) (by omega) (by omega)]
        refine ⟨fun c3 => ?_, fun c3 => ?_⟩
        · have rok : RWok f (u4 f (a + 32)) (u4 f (a + 36)) K := ⟨w, c3⟩
          refine M_isMapThere (M := RM f (u4 f (a + 36)) K) h5e hEe (by rw [e34, q0]; exact sn) (by rw [e34, q0, q1]; exact sr) mt (fun g2 m1 m2 m3 m4 m5 => ?_) (fun g2 m1 m2 m3 m3' m4 m5 => ?_)
          · rw [e34, q0, q1] at m1
            rw [e34, q1] at m2 m3
            refine ⟨fun z => absurd z (by decide), fun _ => ?_⟩
            have g20 : g2 34 0 = u4 f (a + 32) := by rw [m4 0 (by decide), e34, q0]
            have g21 : g2 34 1 = u4 f (a + 36) := by rw [m4 1 (by decide), e34, q1]
            refine M_isTableThere (M := RM2 f (u4 f (a + 36)) K) (by rw [m5 35 (by decide) (by decide)]; exact h5e) (f := f) (by rw [m5 35 (by decide) (by decide)]; exact hEe) (by rw [g20]; exact sn) (by rw [g20, g21]; exact sr) m3 (fun g3 g9 t1 t2 t3 t4 t5 t6 => ?_) (fun g3 t1 t2 t3 t4 t5 t6 => ?_)
            · rw [g20, g21] at t1
              rw [g21] at t4
              refine ⟨fun z => absurd z (by decide), fun _ => ⟨Or.inr rfl, H1 g3 a K g9 ⟨sl, c1', c2', rok, m1, t1⟩ t2 t3 t4 ?_ ?_ ?_ ?_ (fun k x y z u v => ?_) (fun o x y z => ?_)⟩⟩
              · rw [t5 0 (by decide)]; exact g20
              · rw [t5 1 (by decide)]; exact g21
              · rw [t5 2 (by decide)]; exact m2
              · rw [t5 12 (by decide), m4 12 (by decide), e34, qk 12 (by decide) (by decide)]; exact b12
              · rw [t5 k v, m4 k z, e34]; exact qk' k x y z u v
              · rw [t6 o x y z, m5 o x y, oe o y]; exact qo o x
            · rw [g20, g21] at t1
              rw [g21] at t3
              refine ⟨fun _ => ⟨Or.inl rfl, H0 g3 4 _ 1 (Or.inr ⟨a, sl, Or.inr (Or.inr ⟨c1', c2', K, Or.inr ⟨rok, Or.inr ⟨m1, t1, rfl, rfl, rfl⟩⟩⟩)⟩) t2 t3 t4 (fun k x y z u v s t r => ?_) (fun o x y z => ?_)⟩, fun z => absurd wI_0 z⟩
              · rw [t5 k u v s r, m4 k z, e34]; exact qk' k x y z t r
              · rw [t6 o x y z, m5 o x y, oe o y]; exact qo o x
          · rw [e34, q0, q1] at m1
            rw [e34, q1] at m3
            refine ⟨fun _ => ⟨Or.inl rfl, H0 g2 4 _ 0 (Or.inr ⟨a, sl, Or.inr (Or.inr ⟨c1', c2', K, Or.inr ⟨rok, Or.inl ⟨m1, rfl, rfl, rfl⟩⟩⟩)⟩) m2 m3 m3' (fun k x y z u v s t r => ?_) (fun o x y z => ?_)⟩, fun z => absurd wI_0 z⟩
            · rw [m4 k u v s, e34]; exact qk' k x y z t r
            · rw [m5 o x, oe o y]; exact qo o x
        · have rno : RWno f (u4 f (a + 32)) (u4 f (a + 36)) K := by
            rcases hK with e | e
            · exact absurd e.2 c3
            · exact e
          have bn : BaseNo f 3 (tc f 0 (u4 f (a + 36)) i) 0 := Or.inr ⟨a, sl, Or.inr (Or.inr ⟨c1', c2', K, Or.inl ⟨rno, rfl, by rw [← ei]; rfl, rfl⟩⟩)⟩
          have fin := mts e 3 (tc f 0 (u4 f (a + 36)) i) 0 bn (fun k x y z u v => by rw [e34]; exact qk' k x y z u v) (fun o x y z => by rw [oe o y]; exact qo o x)
          refine M_fat hEe (by omega) (by omega) ?_
          rw [tK]
          refine M_isCluster (by rw [e34, q0]; exact sn) (by omega) (fun k => ⟨fun z => absurd z (by decide), fun _ => ?_⟩) (fun k => ⟨fun _ => fin, fun z => absurd wI_0 z⟩)
          rw [e34, q0] at k
          rw [wI_id (z := tc f 0 (u4 f (a + 36)) K) (by omega) (by omega)]
          have mm : RM f (u4 f (a + 36)) K (tc f 0 (u4 f (a + 36)) K) := by
            rcases rno.2.2 with d | d
            · exact absurd k d
            · exact d
          have qq := (mt (tc f 0 (u4 f (a + 36)) K).toNat (by omega)).1 (by rw [show (((tc f 0 (u4 f (a + 36)) K).toNat : Nat) : Int) = tc f 0 (u4 f (a + 36)) K by omega]; exact mm)
          rw [qq]
          exact ⟨⟨by omega, by omega⟩, fun z => absurd z (by decide), fun _ => fin⟩
      | succ m ih =>
        intro i e hm mt oe
        have ci := w.2.1 i (by omega)
        have cj := w.2.1 (i + 1) (by omega)
        unfold clu at ci cj
        have hEe : E (ub (e 35)) f := by rw [oe 35 (by decide)]; exact hEq
        have e34 : e 34 = q 34 := oe 34 (by decide)
        apply q_M_isMountable_c190
        refine M_fat hEe (by omega) (by omega) ?_
        rw [← tc_0, wL_id (z := tc f 0 (u4 f (a + 36)) (i + 1)) (by omega) (by omega)]
        refine ⟨fun z => by omega, fun _ => ?_⟩
        refine M_fat hEe (by omega) (by omega) ?_
        rw [← tc_0]
        refine M_isCluster (by rw [e34, q0]; exact sn) (by omega) (fun k => ⟨fun z => absurd z (by decide), fun _ => ?_⟩) (fun k => absurd (by rw [e34, q0]; exact cj) k)
        rw [wI_id (z := tc f 0 (u4 f (a + 36)) (i + 1)) (by omega) (by omega)]
        have nm : ¬ RM f (u4 f (a + 36)) (i + 1) (tc f 0 (u4 f (a + 36)) (i + 1)) := fun ⟨j, hj, ej⟩ => w.2.2 j (i + 1) hj (by omega) ej
        have qq := (mt (tc f 0 (u4 f (a + 36)) (i + 1)).toNat (by omega)).2 (by rw [show (((tc f 0 (u4 f (a + 36)) (i + 1)).toNat : Nat) : Int) = tc f 0 (u4 f (a + 36)) (i + 1) by omega]; exact nm)
        rw [qq]
        refine ⟨⟨by omega, by omega⟩, fun _ => ⟨⟨by omega, by omega⟩, Or.inr rfl, ?_⟩, fun z => absurd wI_0 z⟩
        refine ih (i + 1) _ (by omega) ?_ (fun o ho => by rw [hs_o _ _ _ _ _ ho]; exact oe o ho)
        rw [hs_eq]
        exact Mt_congr (Mt_set mt (by omega)) (fun x _ _ => RM_succ.symm)
    have k159 : ∀ (m j : Nat) (e : AH), j + m = 102 → (∀ i, i < j → e 37 i = 0) → (∀ o, o ≠ 37 → e o = q o) → Go G (pI P) 192 159 [some (vR 34), none, some (vI (j : Int)), none, none] [] e := by
      intro m
      induction m with
      | zero =>
        intro j e hm z oe
        apply q_M_isMountable_c159
        rw [wI_id (z := (j : Int)) (by omega) (by omega), oe 34 (by decide), q1, wI_id (z := u4 f (a + 36)) (by omega) (by omega)]
        refine ⟨fun _ => ⟨⟨by omega, by omega⟩, Or.inr rfl, ?_⟩, fun c => by omega⟩
        refine k190 (K - 1) 0 _ (by have := w.1; omega) ?_ (fun o ho => by rw [hs_o _ _ _ _ _ ho]; exact oe o ho)
        rw [hs_eq]
        have mz : Mt (e 37) (RM f (u4 f (a + 36)) 0) := fun k hk => ⟨fun ⟨i, hi, _⟩ => by omega, fun _ => z k (by omega)⟩
        exact Mt_congr (Mt_set mz (c := u4 f (a + 36)) (by omega)) (fun x _ _ => RM_succ.symm)
      | succ m ih =>
        intro j e hm z oe
        apply q_M_isMountable_c159
        rw [wI_id (z := (j : Int)) (by omega) (by omega)]
        refine ⟨fun c => by omega, fun _ => ⟨⟨by omega, by omega⟩, Or.inl rfl, ?_⟩⟩
        rw [show (j : Int) + 1 = ((j + 1 : Nat) : Int) by omega, show (j : Int).toNat = j by omega]
        refine ih (j + 1) _ (by omega) (fun i hi => ?_) (fun o ho => by rw [hs_o _ _ _ _ _ ho]; exact oe o ho)
        rw [hs_app, if_pos rfl]
        by_cases c : i = j
        · rw [if_pos c]
        · rw [if_neg c]; exact z i (by omega)
    exact k159 102 0 q rfl (fun i hi => by omega) (fun _ _ => rfl)
  have k12 : ∀ (b : AH) (v : Int), hs b 34 12 v 34 12 = v := fun b v => hs_same _ _ _ _
  apply q_M_isMountable
  refine M_isBoot h5 hE (by decide) (by decide) (fun b1 => ?_) (fun b1 => ?_)
  · refine ⟨fun z => absurd z (by decide), fun _ => ⟨Or.inl rfl, ?_⟩⟩
    rw [hs_same]
    refine ⟨fun _ => ?_, fun z => absurd wI_0 z⟩
    apply q_M_isMountable_c31
    rw [hs_same]
    refine ⟨fun _ => ?_, fun z => absurd wI_0 z⟩
    exact k57 0 _ (Or.inl ⟨b1, rfl⟩) (hs_same _ _ _ _) (fun k hk => hs_k _ _ _ _ _ hk) (fun o ho => hs_o _ _ _ _ _ ho)
  · refine ⟨fun _ => ⟨Or.inr rfl, ?_⟩, fun z => absurd wI_0 z⟩
    rw [hs_same]
    refine ⟨fun z => absurd z (by decide), fun _ => ?_⟩
    apply q_M_isMountable_c31
    rw [hs_same]
    refine ⟨fun z => absurd z (by decide), fun _ => ?_⟩
    refine M_isBoot (f := f) (by rw [hs_o _ _ _ _ _ (by decide)]; exact h5) (by rw [hs_o _ _ _ _ _ (by decide)]; exact hE) (by decide) (by decide) (fun b2 => ?_) (fun b2 => ?_)
    · refine ⟨fun z => absurd z (by decide), fun _ => ?_⟩
      exact k57 256 _ (Or.inr ⟨b1, b2, rfl⟩) (hs_same _ _ _ _) (fun k hk => hs_k _ _ _ _ _ hk) (fun o ho => hs_o _ _ _ _ _ ho)
    · refine ⟨fun _ => ?_, fun z => absurd wI_0 z⟩
      exact mts _ 1 0 0 (Or.inl ⟨b1, b2, rfl, rfl, rfl⟩) (fun k _ _ _ u _ => hs_k _ _ _ _ _ u) (fun o p _ _ => hs_o _ _ _ _ _ p)
end MOUNTABLE
