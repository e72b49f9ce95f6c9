/-! make, move: the reference plans -/
section ZPL
variable {f g w r s : Nat → Int} {n root mp X m : Int} {t R : AH} {G : GG} {h : AH}
theorem M_rowOfPlan {P : AH → Prop} {p K k : Nat} {wr' run : Int} (p2 : p < 2) (pl : Pl h p K r wr' k s run) (kk : K + k ≤ 102) (H : ∀ h', Rm h' (K + k) (app r K s) → (∀ j, j ≠ 17 → h' 34 j = h 34 j) → (∀ o, o ≠ 34 → o ≠ 39 → h' o = h o) → P h') : RunsV G 250 [vR 34, vI (p : Int)] h P := by
  have p1 := pl.1
  have p5 := pl.2.2.2.2.1
  apply q_M_rowOfPlan
  rw [wI_id (z := (p : Int)) (by omega) (by omega), show (p : Int).toNat = p by omega, p1, p5]
  refine ⟨by omega, by omega, ?_⟩
  have key : ∀ (z i : Nat) (b : AH), i + z = K + k → b 34 17 = (K : Int) + k → (∀ j, j < i → b 39 j = app r K s j) → (∀ j, j ≠ 17 → b 34 j = h 34 j) → (∀ o, o ≠ 34 → o ≠ 39 → b o = h o) → Go G (pV P) 250 19 [some (vR 34), some (vI (p : Int)), some (vI (i : Int))] [] b := by
    intro z
    induction z with
    | zero =>
      intro i b hi b17 b39 bk ob
      apply q_M_rowOfPlan_c19
      rw [b17, wI_id (z := (K : Int) + k) (by omega) (by omega), wI_id (z := (i : Int)) (by omega) (by omega)]
      exact ⟨fun _ => H b ⟨by rw [b17]; omega, kk, fun j hj => b39 j (by omega)⟩ bk ob, fun y => by omega⟩
    | succ z ih =>
      intro i b hi b17 b39 bk ob
      apply q_M_rowOfPlan_c19
      rw [b17, wI_id (z := (K : Int) + k) (by omega) (by omega), wI_id (z := (i : Int)) (by omega) (by omega), show (i : Int).toNat = i by omega, show (i : Int) + 1 = ((i + 1 : Nat) : Int) by omega]
      refine ⟨fun y => by omega, fun _ => M_plannedAt p2 (Pl_cg (fun o x y => ob o (by omega) (by omega)) pl) (by omega) (by omega) ⟨by omega, ?_⟩⟩
      refine ih (i + 1) _ (by omega) (by rw [hs_o _ _ _ _ _ (by decide)]; exact b17) (fun j hj => ?_) (fun j hj => by rw [hs_o _ _ _ _ _ (by decide)]; exact bk j hj) (fun o x y => by rw [hs_o _ _ _ _ _ y]; exact ob o x y)
      by_cases y : j = i
      · rw [y, hs_same]; rfl
      · rw [hs_k _ _ _ _ _ y]; exact b39 j (by omega)
  exact key (K + k) 0 _ (by omega) (hs_same _ _ _ _) (fun j hj => absurd hj (Nat.not_lt_zero _)) (fun j hj => hs_k _ _ _ _ _ hj) (fun o x y => hs_o _ _ _ _ _ x)
theorem bA_10 {x : Int} : bA x 0 = 0 := by
  have : bA x 0 = x % 1 := bA_mask x 0 0 (by decide) rfl
  omega
theorem M_spaceFor {P : Int → AH → Prop} {K : Nat} (hW : E (ub (h 36)) w) (rm : Rm h K r) (rr : ∀ i, i < K → 2 ≤ r i ∧ r i ≤ 101) (m34 : m = 3 ∨ m = 4) (H1 : ∀ p : Int, 0 ≤ p → p % 2 = 0 → p + m ≤ 4 * (K : Int) → FRw w r m p → (∀ p' : Int, 0 ≤ p' → p' % 2 = 0 → p' < p → ¬ FRw w r m p') → P p h) (H0 : (∀ p' : Int, 0 ≤ p' → p' % 2 = 0 → p' + m ≤ 4 * (K : Int) → ¬ FRw w r m p') → P (-9) h) : RunsI G 252 [vR 34, vI m] h P := by
  have rl := rm.2.1
  have hw : By w := hW.by (ub_By _)
  have key : ∀ (z : Nat) (p : Int), 2 * (z : Int) + p = 4 * (K : Int) + 2 → 0 ≤ p → p % 2 = 0 → (∀ p' : Int, 0 ≤ p' → p' % 2 = 0 → p' < p → ¬ FRw w r m p') → Go G (pI P) 252 2 [some (vR 34), some (vI m), some (vI p), none, none] [] h := by
    intro z
    induction z with
    | zero =>
      intro p hz p0 p2 no
      apply q_M_spaceFor_c2
      apply q_M_entries
      rw [rm.1, wI_id (z := 4 * (K : Int)) (by omega) (by omega), wI_id (z := p + m) (by omega) (by omega)]
      exact ⟨fun _ => H0 (fun p' a b c => no p' a b (by omega)), fun y => by omega⟩
    | succ z ih =>
      intro p hz p0 p2 no
      apply q_M_spaceFor_c2
      apply q_M_entries
      rw [rm.1, wI_id (z := 4 * (K : Int)) (by omega) (by omega), wI_id (z := p + m) (by omega) (by omega)]
      refine ⟨fun y => H0 (fun p' a b c => no p' a b (by omega)), fun y => ?_⟩
      have nx : ¬ FRw w r m p → Go G (pI P) 252 2 [some (vR 34), some (vI m), some (vI (p + 2)), none, none] [] h := fun nf => ih (p + 2) (by omega) (by omega) (by omega) (fun p' a b c => by
        by_cases x : p' = p
        · rw [x]; exact nf
        · exact no p' a b (by omega))
      have inn : ∀ (d : Nat) (i fl : Int), i + d = m → 0 ≤ i → (fl = 1 ∧ (∀ j : Int, 0 ≤ j → j < i → rd w (ea r (p + j)) < 128) ∨ fl = 0 ∧ ¬ FRw w r m p) → Go G (pI P) 252 17 [some (vR 34), some (vI m), some (vI p), some (vI fl), some (vI i)] [] h := by
        intro d
        induction d with
        | zero =>
          intro i fl hd i0 cs
          apply q_M_spaceFor_c17
          rw [wI_id (z := m) (by omega) (by omega), wI_id (z := i) (by omega) (by omega)]
          refine ⟨fun _ => ?_, fun x => by omega⟩
          rcases cs with ⟨f1, all⟩ | ⟨f0, nf⟩
          · rw [f1]
            exact ⟨fun x => absurd x (by decide), fun _ => H1 p p0 p2 (by omega) (fun j j0 j1 => all j j0 (by omega)) no⟩
          · rw [f0]
            exact ⟨fun _ => nx nf, fun x => absurd wI_0 x⟩
        | succ d id' =>
          intro i fl hd i0 cs
          apply q_M_spaceFor_c17
          rw [wI_id (z := m) (by omega) (by omega), wI_id (z := i) (by omega) (by omega)]
          refine ⟨fun x => by omega, fun _ => ?_⟩
          have c := rr ((p + i) / 4).toNat (by omega)
          have er := ea_rng (r := r) (e := p + i) (by omega) c
          have hv := hw.rd (show 0 ≤ ea r (p + i) by omega) (show ea r (p + i) < 13824 by omega)
          refine M_wantedType (K := K) (r := r) hW rm.2.2 rr rl (by omega) (by omega) ?_
          rw [wI_id (z := rd w (ea r (p + i))) (by omega) (by omega)]
          rcases cs with ⟨f1, all⟩ | ⟨f0, nf⟩
          · rw [f1]
            refine ⟨fun x => ?_, fun x => ?_⟩
            · rw [bA_10]
              exact id' (i + 1) 0 (by omega) (by omega) (Or.inr ⟨rfl, fun a => by have := a i i0 (by omega); omega⟩)
            · rw [show bA 1 1 = 1 by decide]
              refine id' (i + 1) 1 (by omega) (by omega) (Or.inl ⟨rfl, fun j j0 j1 => ?_⟩)
              by_cases y : j = i
              · rw [y]; omega
              · exact all j j0 (by omega)
          · rw [f0]
            refine ⟨fun x => ?_, fun x => ?_⟩
            · rw [bA_10]; exact id' (i + 1) 0 (by omega) (by omega) (Or.inr ⟨rfl, nf⟩)
            · rw [show bA 0 1 = 0 by decide]; exact id' (i + 1) 0 (by omega) (by omega) (Or.inr ⟨rfl, nf⟩)
      exact inn m.toNat 0 1 (by omega) (by omega) (Or.inl ⟨rfl, fun j a b => by omega⟩)
  apply q_M_spaceFor
  exact key (2 * K + 1) 0 (by omega) (by omega) rfl (fun p' a b c => by omega)
theorem M_areUnused {P : Int → AH → Prop} {K : Nat} {x y : Int} (hW : E (ub (h 36)) w) (hr : ∀ i, i < K → h 39 i = r i) (kk : K ≤ 102) (rr : ∀ i, i < K → 2 ≤ r i ∧ r i ≤ 101) (x0 : 0 ≤ x) (xy : x ≤ y) (y1 : y ≤ 4 * (K : Int)) (H1 : (∀ q : Int, x ≤ q → q < y → rd w (ea r q) < 128) → P 1 h) (H0 : ¬ (∀ q : Int, x ≤ q → q < y → rd w (ea r q) < 128) → P 0 h) : RunsI G 259 [vR 34, vI x, vI y] h P := by
  have hw : By w := hW.by (ub_By _)
  have inn : ∀ (d : Nat) (i fl : Int), i + d = y → x ≤ i → (fl = 1 ∧ (∀ q : Int, x ≤ q → q < i → rd w (ea r q) < 128) ∨ fl = 0 ∧ ¬ (∀ q : Int, x ≤ q → q < y → rd w (ea r q) < 128)) → Go G (pI P) 259 5 [some (vR 34), none, some (vI y), some (vI fl), some (vI i)] [] h := by
    intro d
    induction d with
    | zero =>
      intro i fl hd i0 cs
      apply q_M_areUnused_c5
      rw [wI_id (z := y) (by omega) (by omega), wI_id (z := i) (by omega) (by omega)]
      refine ⟨fun _ => ?_, fun z => by omega⟩
      rcases cs with ⟨f1, all⟩ | ⟨f0, nf⟩
      · rw [f1]; exact ⟨Or.inr rfl, H1 (fun q a b => all q a (by omega))⟩
      · rw [f0]; exact ⟨Or.inl rfl, H0 nf⟩
    | succ d id' =>
      intro i fl hd i0 cs
      apply q_M_areUnused_c5
      rw [wI_id (z := y) (by omega) (by omega), wI_id (z := i) (by omega) (by omega)]
      refine ⟨fun z => by omega, fun _ => ?_⟩
      have c := rr (i / 4).toNat (by omega)
      have er := ea_rng (r := r) (e := i) (by omega) c
      have hv := hw.rd (show 0 ≤ ea r i by omega) (show ea r i < 13824 by omega)
      refine M_wantedType (K := K) (r := r) hW hr rr kk (by omega) (by omega) ?_
      rw [wI_id (z := rd w (ea r i)) (by omega) (by omega)]
      rcases cs with ⟨f1, all⟩ | ⟨f0, nf⟩
      · rw [f1]
        refine ⟨fun z => ?_, fun z => ?_⟩
        · rw [bA_10]
          exact id' (i + 1) 0 (by omega) (by omega) (Or.inr ⟨rfl, fun a => by have := a i (by omega) (by omega); omega⟩)
        · rw [show bA 1 1 = 1 by decide]
          refine id' (i + 1) 1 (by omega) (by omega) (Or.inl ⟨rfl, fun q a b => ?_⟩)
          by_cases w' : q = i
          · rw [w']; omega
          · exact all q a (by omega)
      · rw [f0]
        refine ⟨fun z => ?_, fun z => ?_⟩
        · rw [bA_10]; exact id' (i + 1) 0 (by omega) (by omega) (Or.inr ⟨rfl, nf⟩)
        · rw [show bA 0 1 = 0 by decide]; exact id' (i + 1) 0 (by omega) (by omega) (Or.inr ⟨rfl, nf⟩)
  apply q_M_areUnused
  exact inn (y - x).toNat x 1 (by omega) (by omega) (Or.inl ⟨rfl, fun q a b => by omega⟩)
theorem M_firstSpace {P : Int → AH → Prop} {K Kx : Nat} (hW : E (ub (h 36)) w) (e54 : h 54 1 = (K : Int)) (hr : ∀ i, i < K → h 39 i = r i) (kk : K ≤ 102) (rr : ∀ i, i < K → 2 ≤ r i ∧ r i ≤ 101) (m34 : m = 3 ∨ m = 4) (H : ∀ e : Int, 0 ≤ e → e % 2 = 0 → e ≤ 4 * (K : Int) → FRt w r K m e → (∀ p' : Int, 0 ≤ p' → p' % 2 = 0 → p' < e → ¬ FRt w r K m p') → P e h) : RunsI G 260 [vR 34, vI m] h P := by
  have key : ∀ (z : Nat) (p : Int), 2 * (z : Int) + p = 4 * (K : Int) → 0 ≤ p → p % 2 = 0 → (∀ p' : Int, 0 ≤ p' → p' % 2 = 0 → p' < p → ¬ FRt w r K m p') → Go G (pI P) 260 2 [some (vR 34), some (vI m), some (vI p)] [] h := by
    intro z
    induction z with
    | zero =>
      intro p hz p0 p2 no
      apply q_M_firstSpace_c2
      refine ⟨by decide, ?_⟩
      apply q_M_lesser
      rw [e54, wI_id (z := 4 * (K : Int)) (by omega) (by omega), wI_id (z := p + m) (by omega) (by omega)]
      refine ⟨fun y => ?_, fun y => by omega⟩
      refine M_areUnused hW hr kk rr p0 (by omega) (by omega) (fun all => ⟨fun x => absurd x (by decide), fun _ => H p p0 p2 (by omega) (fun q a b c => all q a c) no⟩) (fun nf => absurd (fun q a b => by omega) nf)
    | succ z ih =>
      intro p hz p0 p2 no
      apply q_M_firstSpace_c2
      refine ⟨by decide, ?_⟩
      apply q_M_lesser
      rw [e54, wI_id (z := 4 * (K : Int)) (by omega) (by omega), wI_id (z := p + m) (by omega) (by omega)]
      have nx : ¬ FRt w r K m p → Go G (pI P) 260 2 [some (vR 34), some (vI m), some (vI (p + 2))] [] h := fun nf => ih (p + 2) (by omega) (by omega) (by omega) (fun p' a b c => by
        by_cases x : p' = p
        · rw [x]; exact nf
        · exact no p' a b (by omega))
      refine ⟨fun y => ?_, fun y => ?_⟩
      · refine M_areUnused hW hr kk rr p0 (by omega) (by omega) (fun all => ⟨fun x => absurd x (by decide), fun _ => H p p0 p2 (by omega) (fun q a b c => all q a c) no⟩) (fun nf => ⟨fun _ => nx (fun y2 => nf (fun q a b => y2 q a (by omega) b)), fun x => absurd wI_0 x⟩)
      · refine M_areUnused hW hr kk rr p0 (by omega) (by omega) (fun all => ⟨fun x => absurd x (by decide), fun _ => H p p0 p2 (by omega) (fun q a b c => all q a b) no⟩) (fun nf => ⟨fun _ => nx (fun y2 => nf (fun q a b => y2 q a b (by omega))), fun x => absurd wI_0 x⟩)
  apply q_M_firstSpace
  exact key (2 * K) 0 (by omega) (by omega) rfl (fun p' a b c => by omega)
theorem M_planSpace {P : Int → AH → Prop} {kd jd K0 k0 : Nat} {r0 s0 : Nat → Int} {wr0 run0 : Int} (v : V f g n root mp t R) (h5 : Sb (h 35)) (hE : E (ub (h 35)) f) (hW : E (ub (h 36)) f) (h0 : h 34 0 = n) (h1 : h 34 1 = root) (h2 : h 34 2 = mp) (a : al t jd) (dd : dirT f t jd) (kd0 : kd = 0 ↔ jd = 0) (kd2 : kd < 200) (arr : 1 ≤ kd → h 46 kd = bR f (t 1 jd) ∧ h 47 kd = u4 f (ha (t 1 jd) + 56) ∧ h 48 kd = u4 f (ha (t 1 jd) + 52)) (e46 : h 46 kd = dWr f t jd) (pl0 : Pl h 0 K0 r0 wr0 k0 s0 run0) (e56 : h 56 1 = 0) (rs : Rsv h (fun c => c = X)) (m34 : m = 3 ∨ m = 4)
    (HF : (∀ p' : Int, 0 ≤ p' → p' % 2 = 0 → p' + m ≤ 4 * (Kt t jd : Int) → ¬ FRw f (R jd) m p') → cf f mp n X n.toNat < 1 → ∀ b, (∀ j, j ≠ 17 → b 34 j = h 34 j) → (∀ o, ¬ (o = 34 ∨ o = 39 ∨ (53 ≤ o ∧ o ≤ 59)) → b o = h o) → P (-6) b)
    (H1 : ∀ e k, Spc f (R jd) (Kt t jd) m e k → (0 < k → k ≤ cf f mp n X n.toNat) → ∀ b, Pl b 0 K0 r0 wr0 k0 s0 run0 → Pl b 1 (Kt t jd) (R jd) (dWr f t jd) k (dSq f n mp X t R jd k) (dRn f n mp X t R jd k) → (∀ j, j ≠ 17 → b 34 j = h 34 j) → (∀ o, ¬ (o = 34 ∨ o = 39 ∨ (53 ≤ o ∧ o ≤ 59)) → b o = h o) → P e b) : RunsI G 258 [vR 34, vI (kd : Int), vI m] h P := by
  have nn := V_n v
  have mpc := V_mp v
  unfold clu at mpc
  have Kpos := V_Kd v a dd
  have kn := V_K v a
  have rr := V_rr v a
  obtain ⟨q1, q2, q3, q4, q5, q6, q7, q8⟩ := id pl0
  apply q_M_planSpace
  have pf := M_planFor (G := G) (h := h) (p := 1) (k := kd) (jj := jd) (P := fun h1 => RunsV G 250 [vR 34, vI 1] h1 (fun h2 => RunsI G 252 [vR 34, vI m] h2 (fun r3 h3 => ((wI r3 = ((-9) : Int) → RunsI G 243 [vR 34, vI 1, vI 1] h3 (fun r4 h4 => ((wI r4 = 0 → P (-6) h4) ∧ (¬ wI r4 = 0 → RunsV G 250 [vR 34, vI 1] h4 (fun h5 => RunsI G 260 [vR 34, vI m] h5 (fun r6 h6 => P r6 h6)))))) ∧ (¬ wI r3 = ((-9) : Int) → P r3 h3)))) ) v hE h1 a kd0 kd2 arr (by rw [e46]; exact dWr_01) (by decide) (fun b e54 e53 e57 e58 eo e53' kb ob => ?_)
  · exact pf
  rw [e46] at e57 e58
  have plb : Pl b 1 (Kt t jd) (R jd) (dWr f t jd) 0 (dSq f n mp X t R jd 0) (dWr f t jd) := ⟨e54, (by omega), e53, e57, by rw [ob 56 (by decide)]; exact e56, (by omega), fun i hi => absurd hi (Nat.not_lt_zero _), e58⟩
  have pb0 : Pl b 0 K0 r0 wr0 k0 s0 run0 := ⟨by rw [(eo 0 (by decide)).1]; exact q1, q2, fun i hi => by rw [e53' _ (by omega)]; exact q3 i hi, by rw [(eo 0 (by decide)).2.1]; exact q4, by rw [ob 56 (by decide)]; exact q5, q6, fun i hi => by rw [ob 55 (by decide)]; exact q7 i hi, by rw [(eo 0 (by decide)).2.2]; exact q8⟩
  refine M_rowOfPlan (p := 1) (by decide) plb (by omega) (fun c rm ck oc => ?_)
  have rmc : Rm c (Kt t jd) (R jd) := ⟨by rw [rm.1]; rfl, rm.2.1, fun i hi => by rw [rm.2.2 i (by omega)]; unfold app; rw [if_pos hi]⟩
  have cb : ∀ o, ¬ (o = 34 ∨ o = 39 ∨ o = 53 ∨ o = 54 ∨ o = 57 ∨ o = 58) → c o = h o := fun o p => (oc o (by omega) (by omega)).trans (ob o (by omega))
  have ckk : ∀ j, j ≠ 17 → c 34 j = h 34 j := fun j p => (ck j p).trans (kb j p)
  have plc : Pl c 1 (Kt t jd) (R jd) (dWr f t jd) 0 (dSq f n mp X t R jd 0) (dWr f t jd) := Pl_cg (fun o p p' => oc o (by omega) (by omega)) plb
  have pc0 : Pl c 0 K0 r0 wr0 k0 s0 run0 := Pl_cg (fun o p p' => oc o (by omega) (by omega)) pb0
  refine M_spaceFor (by rw [cb 36 (by decide)]; exact hW) rmc rr m34 (fun p p0 p2 pm fp lp => ?_) (fun no => ?_)
  · rw [wI_id (z := p) (by omega) (by omega)]
    refine ⟨fun y => by omega, fun _ => H1 p 0 ⟨p0, p2, Or.inl ⟨rfl, pm, fp, lp⟩⟩ (fun z => absurd z (by decide)) c pc0 ?_ ckk (fun o q => cb o (by omega))⟩
    have e : dRn f n mp X t R jd 0 = dWr f t jd := by unfold dRn; rw [if_pos rfl]
    rw [e]
    exact plc
  · refine ⟨fun _ => ?_, fun y => absurd (by decide) y⟩
    have l53 : ∀ i, i < Kt t jd → c 53 (102 * 1 + i) = R jd i := plc.2.2.1
    have mp' := M_plans (G := G) (P := fun r4 h4 => ((wI r4 = 0 → P (-6) h4) ∧ (¬ wI r4 = 0 → RunsV G 250 [vR 34, vI 1] h4 (fun h5 => RunsI G 260 [vR 34, vI m] h5 (fun r6 h6 => P r6 h6))))) (h := c) (f := f) (mp := mp) (n := n) (X := X) (p := 1) (k := 1) (K := Kt t jd) (last := R jd (Kt t jd - 1)) (wr' := dWr f t jd) (by rw [cb 35 (by decide)]; exact h5) (by rw [cb 35 (by decide)]; exact hE) (by rw [ckk 0 (by decide)]; exact h0) (by rw [ckk 2 (by decide)]; exact h2) nn (by omega) (by decide) (by decide) plc.1 (by omega) (fun K0' => ⟨by have := l53 (Kt t jd - 1) (by omega); rw [show 102 * 1 + (Kt t jd - 1) = 102 * 1 + Kt t jd - 1 by omega] at this; exact this, rr _ (by omega)⟩) plc.2.2.2.1 dWr_01 plc.2.2.2.2.1 (fun cc c1 c2 => by rw [cb 59 (by decide)]; exact rs cc c1 c2) (fun full => ⟨fun _ => HF no full c ckk (fun o q => cb o (by omega)), fun y => absurd wI_0 y⟩) (fun kc b2 gt g58 g58' => ⟨fun y => absurd y (by decide), fun _ => ?_⟩)
    · exact mp'
    obtain ⟨g1, g2, g3, g4, g5, g6⟩ := gt
    have rn1 : rnF f mp n X (Kt t jd) (R jd (Kt t jd - 1)) (dWr f t jd) 1 = dRn f n mp X t R jd 1 := by unfold dRn; rw [if_neg (by decide)]
    have pl1 : Pl b2 1 (Kt t jd) (R jd) (dWr f t jd) 1 (dSq f n mp X t R jd 1) (dRn f n mp X t R jd 1) := ⟨by rw [g6 54 (by decide)]; exact plc.1, (by omega), fun i hi => by rw [g6 53 (by decide)]; exact l53 i hi, by rw [g6 57 (by decide)]; exact plc.2.2.2.1, g1, (by omega), g2, by rw [g58, rn1]⟩
    have p20 : Pl b2 0 K0 r0 wr0 k0 s0 run0 := ⟨by rw [g6 54 (by decide)]; exact pc0.1, q2, fun i hi => by rw [g6 53 (by decide)]; exact pc0.2.2.1 i hi, by rw [g6 57 (by decide)]; exact pc0.2.2.2.1, by rw [g4 0 (by decide)]; exact pc0.2.2.2.2.1, q6, fun i hi => by rw [g5 _ (by omega)]; exact pc0.2.2.2.2.2.2.1 i hi, by rw [g58' 0 (by decide)]; exact pc0.2.2.2.2.2.2.2⟩
    refine M_rowOfPlan (p := 1) (by decide) pl1 (by omega) (fun d rmd dk od => ?_)
    have dh : ∀ o, ¬ (o = 34 ∨ o = 39 ∨ (53 ≤ o ∧ o ≤ 59)) → d o = h o := fun o q => (od o (by omega) (by omega)).trans ((g6 o (by omega)).trans (cb o (by omega)))
    have dkk : ∀ j, j ≠ 17 → d 34 j = h 34 j := fun j p => by rw [dk j p, g6 34 (by decide)]; exact ckk j p
    refine M_firstSpace (Kx := 0) (K := Kt t jd) (w := f) (r := R jd) (by rw [dh 36 (by decide)]; exact hW) (by rw [od 54 (by decide) (by decide)]; exact pl1.1) (fun i hi => by rw [rmd.2.2 i (by omega)]; unfold app; rw [if_pos hi]) (by omega) rr m34 (fun e e0 e2 el fe le => H1 e 1 ⟨e0, e2, Or.inr ⟨rfl, no, el, fe, le⟩⟩ (fun _ => kc) d (Pl_cg (fun o p p' => od o (by omega) (by omega)) p20) (Pl_cg (fun o p p' => od o (by omega) (by omega)) pl1) dkk dh)
end ZPL
