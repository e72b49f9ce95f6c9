/-! CLUSTERS that come: the reference's chains and bits -/
section CHAIN
variable {G : GG} {h : AH} {w r s : Nat → Int} {mp : Int} {p K k : Nat} {wr' run : Int}
theorem M_wantChain {P : AH → Prop} (h6 : Sb (h 36)) (hW : E (ub (h 36)) w) (p2 : p < 2) (pl : Pl h p K r wr' k s run) (cl : ∀ i, i < K → 2 ≤ r i ∧ r i ≤ 101) (cs : ∀ i, i < k → 2 ≤ s i ∧ s i ≤ 101) (w01 : wr' = 0 ∨ wr' = 1) (r01 : run = 0 ∨ run = 1) (H : ∀ h', Sb (h' 36) → E (ub (h' 36)) (tk1 w r K wr' s k run) → (∀ o, o ≠ 36 → h' o = h o) → P h') : RunsV G 244 [vR 34, vI (p : Int)] h P := by
  obtain ⟨p1, pK, p3, p4, p5, pk, p7, p8⟩ := pl
  have c79 : ∀ (w1 : Nat → Int) (b0 : AH), tk1 w r K wr' s k run = fn w1 s k k → Sb (b0 36) → E (ub (b0 36)) w1 → (∀ o, o ≠ 36 → b0 o = h o) → Go G (pV P) 244 79 [some (vR 34), some (vI (p : Int)), some (vI 0)] [] b0 := by
    intro w1 b0 ew s0 e0 o0
    have key : ∀ (m i : Nat) (b : AH), i + m = k → Sb (b 36) → E (ub (b 36)) (fn w1 s k i) → (∀ o, o ≠ 36 → b o = h o) → Go G (pV P) 244 79 [some (vR 34), some (vI (p : Int)), some (vI (i : Int))] [] b := by
      intro m
      induction m with
      | zero =>
        intro i b hi b6 bW ob
        apply q_M_wantChain_c79
        rw [wI_id (z := (p : Int)) (by omega) (by omega), show (p : Int).toNat = p by omega, ob 56 (by decide), p5, wI_id (z := (k : Int)) (by omega) (by omega), wI_id (z := (i : Int)) (by omega) (by omega)]
        refine ⟨by omega, fun _ => H b b6 ?_ ob, fun z => by omega⟩
        rw [ew]
        rw [show i = k by omega] at bW
        exact bW
      | succ m ih =>
        intro i b hi b6 bW ob
        have ci := cs i (by omega)
        apply q_M_wantChain_c79
        rw [wI_id (z := (p : Int)) (by omega) (by omega), show (p : Int).toNat = p by omega, ob 56 (by decide), p5, wI_id (z := (k : Int)) (by omega) (by omega), wI_id (z := (i : Int)) (by omega) (by omega), wI_id (z := (i : Int) + 1) (by omega) (by omega), wI_id (z := 102 * (p : Int) + (i : Int)) (by omega) (by omega), wI_id (z := 102 * (p : Int) + (i : Int) + 1) (by omega) (by omega), show (102 * (p : Int) + (i : Int)).toNat = 102 * p + i by omega, show (102 * (p : Int) + (i : Int) + 1).toNat = 102 * p + (i + 1) by omega, ob 55 (by decide), p7 i (by omega), show (i : Int) + 1 = ((i + 1 : Nat) : Int) by omega]
        refine ⟨by omega, fun z => by omega, fun _ => ⟨by omega, by omega, fun z => ?_, fun z => ⟨by omega, ?_⟩⟩⟩
        · refine M_wantFat b6 (by omega) (by omega) (by omega) (fun b2 b26 bu ob2 => ih (i + 1) b2 (by omega) b26 ?_ (fun o q => (ob2 o q).trans (ob o q)))
          rw [bu, fn, if_neg (by omega)]
          exact E_wb bW _ _ _
        · have cj := cs (i + 1) (by omega)
          rw [p7 (i + 1) (by omega), wI_id (z := s (i + 1)) (by omega) (by omega)]
          refine M_wantFat b6 (by omega) (by omega) (by omega) (fun b2 b26 bu ob2 => ih (i + 1) b2 (by omega) b26 ?_ (fun o q => (ob2 o q).trans (ob o q)))
          rw [bu, fn, if_pos (by omega)]
          exact E_wb bW _ _ _
    have k0 := key k 0 b0 (by omega) s0 e0 o0
    exact k0
  apply q_M_wantChain
  rw [wI_id (z := (p : Int)) (by omega) (by omega), show (p : Int).toNat = p by omega, p5, p8, wI_id (z := (k : Int)) (by omega) (by omega)]
  refine ⟨by omega, fun z => H h h6 (by rw [tk1_id (Or.inr (by omega))]; exact hW) (fun _ _ => rfl), fun z => ⟨by omega, fun y => ?_, fun y => ?_⟩⟩
  · have rz : run = 0 := by
      rcases r01 with x | x
      · exact x
      · rw [x] at y; exact absurd y (by decide)
    have et : tk1 w r K wr' s k run = fn (if wr' = 1 then fo w r (K - 1) else w) s k k := by unfold tk1; rw [if_neg (by omega)]
    rcases w01 with x | x
    · rw [if_neg (by omega)] at et
      have c := c79 w h et h6 hW (fun _ _ => rfl)
      apply q_M_wantChain_c21
      rw [wI_id (z := (p : Int)) (by omega) (by omega), show (p : Int).toNat = p by omega, p1, p4, x]
      exact ⟨by omega, fun _ => c, fun _ => ⟨by omega, fun _ => c, fun v => absurd wI_0 v⟩⟩
    · rw [if_pos x] at et
      have key : ∀ (m i : Nat) (b : AH), i + m = K - 1 → Sb (b 36) → E (ub (b 36)) (fo w r i) → (∀ o, o ≠ 36 → b o = h o) → Go G (pV P) 244 21 [some (vR 34), some (vI (p : Int)), some (vI (i : Int))] [] b := by
        intro m
        induction m with
        | zero =>
          intro i b hi b6 bW ob
          apply q_M_wantChain_c21
          rw [wI_id (z := (p : Int)) (by omega) (by omega), show (p : Int).toNat = p by omega, ob 54 (by decide), p1, wI_id (z := (K : Int)) (by omega) (by omega), wI_id (z := (i : Int) + 1) (by omega) (by omega)]
          refine ⟨by omega, fun _ => c79 _ b et b6 ?_ ob, fun v => by omega⟩
          rw [show K - 1 = i by omega]
          exact bW
        | succ m ih =>
          intro i b hi b6 bW ob
          have ci := cl i (by omega)
          have cj := cl (i + 1) (by omega)
          apply q_M_wantChain_c21
          rw [wI_id (z := (p : Int)) (by omega) (by omega), show (p : Int).toNat = p by omega, ob 54 (by decide), p1, wI_id (z := (K : Int)) (by omega) (by omega), wI_id (z := (i : Int) + 1) (by omega) (by omega), ob 57 (by decide), p4, x, wI_id (z := 102 * (p : Int) + (i : Int)) (by omega) (by omega), wI_id (z := 102 * (p : Int) + (i : Int) + 1) (by omega) (by omega), show (102 * (p : Int) + (i : Int)).toNat = 102 * p + i by omega, show (102 * (p : Int) + (i : Int) + 1).toNat = 102 * p + (i + 1) by omega, ob 53 (by decide), p3 i (by omega), p3 (i + 1) (by omega), wI_id (z := r (i + 1)) (by omega) (by omega), show (i : Int) + 1 = ((i + 1 : Nat) : Int) by omega]
          refine ⟨by omega, fun v => by omega, fun _ => ⟨by omega, fun v => absurd v (by decide), fun _ => ⟨by omega, by omega, ?_⟩⟩⟩
          refine M_wantFat b6 (by omega) (by omega) (by omega) (fun b2 b26 bu ob2 => ih (i + 1) b2 (by omega) b26 ?_ (fun o q => (ob2 o q).trans (ob o q)))
          rw [bu, fo]
          exact E_wb bW _ _ _
      have k0 := key (K - 1) 0 h (by omega) h6 hW (fun _ _ => rfl)
      exact k0
  · rcases r01 with x | x
    · rw [x] at y; exact absurd wI_0 y
    · exact H h h6 (by rw [tk1_id (Or.inl x)]; exact hW) (fun _ _ => rfl)
theorem M_wantJoint {P : AH → Prop} (h6 : Sb (h 36)) (hW : E (ub (h 36)) w) (p2 : p < 2) (pl : Pl h p K r wr' k s run) (cl : ∀ i, i < K → 2 ≤ r i ∧ r i ≤ 101) (cs : ∀ i, i < k → 2 ≤ s i ∧ s i ≤ 101) (r01 : run = 0 ∨ run = 1) (H : ∀ h', Sb (h' 36) → E (ub (h' 36)) (tk2 w r K s k run) → (∀ o, o ≠ 36 → h' o = h o) → P h') : RunsV G 245 [vR 34, vI (p : Int)] h P := by
  obtain ⟨p1, pK, p3, p4, p5, pk, p7, p8⟩ := pl
  have no : ¬ (run = 0 ∧ K ≠ 0 ∧ k ≠ 0) → P h := fun z => H h h6 (by unfold tk2; rw [if_neg z]; exact hW) (fun _ _ => rfl)
  apply q_M_wantJoint
  rw [wI_id (z := (p : Int)) (by omega) (by omega), show (p : Int).toNat = p by omega, p1, p5, p8, wI_id (z := (K : Int)) (by omega) (by omega), wI_id (z := (k : Int)) (by omega) (by omega)]
  refine ⟨by omega, fun z => no (by omega), fun z => ⟨by omega, fun y => no (by omega), fun y => ⟨by omega, fun x => ?_, fun x => no (fun v => by rw [v.1] at x; exact x wI_0)⟩⟩⟩
  have rz : run = 0 := by
    rcases r01 with v | v
    · exact v
    · rw [v] at x; exact absurd x (by decide)
  have ck := cl (K - 1) (by omega)
  have c0 := cs 0 (by omega)
  have q0 := p7 0 (by omega)
  rw [Nat.add_zero] at q0
  rw [wI_id (z := 102 * (p : Int) + (K : Int) - 1) (by omega) (by omega), show (102 * (p : Int) + (K : Int) - 1).toNat = 102 * p + (K - 1) by omega, p3 (K - 1) (by omega), wI_id (z := 102 * (p : Int)) (by omega) (by omega), show (102 * (p : Int)).toNat = 102 * p by omega, q0, wI_id (z := s 0) (by omega) (by omega)]
  refine ⟨by omega, by omega, by omega, M_wantFat h6 (by omega) (by omega) (by omega) (fun b b6 bu ob => H b b6 ?_ ob)⟩
  unfold tk2
  rw [bu, if_pos ⟨rz, by omega, by omega⟩]
  exact E_wb hW _ _ _
theorem M_wantTaken {P : AH → Prop} (h6 : Sb (h 36)) (hW : E (ub (h 36)) w) (h2 : h 34 2 = mp) (hm : 2 ≤ mp ∧ mp ≤ 101) (p2 : p < 2) (pl : Pl h p K r wr' k s run) (cs : ∀ i, i < k → 2 ≤ s i ∧ s i ≤ 101) (H : ∀ h', Sb (h' 36) → E (ub (h' 36)) (tbm w mp s k) → (∀ o, o ≠ 36 → h' o = h o) → P h') : RunsV G 247 [vR 34, vI (p : Int)] h P := by
  obtain ⟨p1, pK, p3, p4, p5, pk, p7, p8⟩ := pl
  have key : ∀ (m i : Nat) (b : AH), i + m = k → Sb (b 36) → E (ub (b 36)) (tbm w mp s i) → (∀ o, o ≠ 36 → b o = h o) → Go G (pV P) 247 2 [some (vR 34), some (vI (p : Int)), some (vI (i : Int))] [] b := by
    intro m
    induction m with
    | zero =>
      intro i b hi b6 bW ob
      apply q_M_wantTaken_c2
      rw [wI_id (z := (p : Int)) (by omega) (by omega), show (p : Int).toNat = p by omega, ob 56 (by decide), p5, wI_id (z := (k : Int)) (by omega) (by omega), wI_id (z := (i : Int)) (by omega) (by omega)]
      refine ⟨by omega, fun _ => H b b6 ?_ ob, fun z => by omega⟩
      rw [show i = k by omega] at bW
      exact bW
    | succ m ih =>
      intro i b hi b6 bW ob
      have ci := cs i (by omega)
      apply q_M_wantTaken_c2
      rw [wI_id (z := (p : Int)) (by omega) (by omega), show (p : Int).toNat = p by omega, ob 56 (by decide), p5, wI_id (z := (k : Int)) (by omega) (by omega), wI_id (z := (i : Int)) (by omega) (by omega), wI_id (z := 102 * (p : Int) + (i : Int)) (by omega) (by omega), show (102 * (p : Int) + (i : Int)).toNat = 102 * p + i by omega, ob 55 (by decide), p7 i (by omega), show (i : Int) + 1 = ((i + 1 : Nat) : Int) by omega]
      refine ⟨by omega, fun z => by omega, fun _ => ⟨by omega, ?_⟩⟩
      refine M_wantBit b6 bW (by rw [ob 34 (by decide), h2]; exact hm) ci (Or.inr rfl) (fun b2 b26 b2W ob2 => ih (i + 1) b2 (by omega) b26 ?_ (fun o q => (ob2 o q).trans (ob o q)))
      rw [ob 34 (by decide), h2] at b2W
      rw [tbm]
      exact b2W
  apply q_M_wantTaken
  have k0 := key k 0 h (by omega) h6 hW (fun _ _ => rfl)
  exact k0
theorem M_plannedAt {P : Int → AH → Prop} {i : Int} (p2 : p < 2) (pl : Pl h p K r wr' k s run) (i0 : 0 ≤ i) (i1 : i < (K : Int) + k) (H : P (if i.toNat < K then r i.toNat else s (i.toNat - K)) h) : RunsI G 248 [vR 34, vI (p : Int), vI i] h P := by
  obtain ⟨p1, pK, p3, p4, p5, pk, p7, p8⟩ := pl
  apply q_M_plannedAt
  rw [wI_id (z := (p : Int)) (by omega) (by omega), show (p : Int).toNat = p by omega, p1, wI_id (z := (K : Int)) (by omega) (by omega), wI_id (z := i) (by omega) (by omega), wI_id (z := 102 * (p : Int) + i - (K : Int)) (by omega) (by omega), wI_id (z := 102 * (p : Int) + i) (by omega) (by omega)]
  refine ⟨by omega, fun z => ⟨by omega, by omega, ?_⟩, fun z => ⟨by omega, ?_⟩⟩
  · rw [if_neg (by omega)] at H
    rw [show (102 * (p : Int) + i - (K : Int)).toNat = 102 * p + (i.toNat - K) by omega, p7 _ (by omega)]
    exact H
  · rw [if_pos (by omega)] at H
    rw [show (102 * (p : Int) + i).toNat = 102 * p + i.toNat by omega, p3 _ (by omega)]
    exact H
theorem M_chains {P : Int → AH → Prop} {r1 s1 d' : Nat → Int} {K1 k1 : Nat} {wr1 run1 rr f' n' : Int} {ws : List (Nat → Int)} {f : Nat → Int} (h5 : Sb (h 35)) (h6 : Sb (h 36)) (hE : E (ub (h 35)) f) (hW : E (ub (h 36)) w) (hf : 0 ≤ h 34 5 ∧ h 34 5 ≤ 1000) (pl0 : Pl h 0 K r wr' k s run) (cl : ∀ i, i < K → 2 ≤ r i ∧ r i ≤ 101) (cs : ∀ i, i < k → 2 ≤ s i ∧ s i ≤ 101) (w01 : wr' = 0 ∨ wr' = 1) (r01 : run = 0 ∨ run = 1) (pl1 : Pl h 1 K1 r1 wr1 k1 s1 run1) (cl1 : ∀ i, i < K1 → 2 ≤ r1 i ∧ r1 i ≤ 101) (cs1 : ∀ i, i < k1 → 2 ≤ s1 i ∧ s1 i ≤ 101) (w11 : wr1 = 0 ∨ wr1 = 1) (r11 : run1 = 0 ∨ run1 = 1) {w1 w2 : Nat → Int} (ew1 : w1 = tk1 (tk1 w r K wr' s k run) r1 K1 wr1 s1 k1 run1) (ew2 : w2 = tk2 (tk2 w1 r K s k run) r1 K1 s1 k1 run1)
    (ph : Ph f (w1 :: w2 :: ws) (h 34 5) (h 34 6) rr d' f' n')
    (H0 : ∀ b, rr = 0 → Sb (b 35) → Sb (b 36) → (∀ j, j < 13824 → ub (b 35) j = d' j) → b 34 5 = f' → b 34 6 = n' → b 34 3 = 0 → (∀ j, j ≠ 3 → j ≠ 5 → j ≠ 6 → b 34 j = h 34 j) → (∀ o, o ≠ 34 → o ≠ 35 → o ≠ 36 → b o = h o) → P 0 b)
    (H1 : ∀ b, Ph w2 ws (b 34 5) (b 34 6) rr d' f' n' → Sb (b 35) → Sb (b 36) → E (ub (b 35)) w2 → E (ub (b 36)) w2 → (0 ≤ b 34 5 ∧ b 34 5 ≤ 1000) → (∀ j, j ≠ 5 → j ≠ 6 → b 34 j = h 34 j) → (∀ o, o ≠ 34 → o ≠ 35 → o ≠ 36 → b o = h o) → P 1 b) : RunsI G 246 [vR 34] h P := by
  apply q_M_chains
  refine M_wantChain (G := G) (h := h) (p := 0) h6 hW (by decide) pl0 cl cs w01 r01 (fun b1 b16 b1W o1 => ?_)
  refine M_wantChain (G := G) (h := b1) (p := 1) b16 b1W (by decide) (Pl_cg (fun o _ _ => o1 o (by omega)) pl1) cl1 cs1 w11 r11 (fun b2 b26 b2W o2 => ?_)
  rw [← ew1] at b2W
  have o12 : ∀ o, o ≠ 36 → b2 o = h o := fun o q => (o2 o q).trans (o1 o q)
  refine M_flS (f := f) (w := w1) (ws := w2 :: ws) (r := rr) (d' := d') (f' := f') (n' := n') (by rw [o12 35 (by decide)]; exact h5) b26 (by rw [o12 35 (by decide)]; exact hE) b2W (by rw [o12 34 (by decide)]; exact hf) (by rw [o12 34 (by decide)]; exact ph) (fun c r0 c5 c6 cd cf cn c3 ck oc => ⟨fun _ => ⟨Or.inl rfl, H0 c r0 c5 (by rw [c6]; exact b26) cd cf cn c3 (fun j x y z => by rw [ck j x y z, o12 34 (by decide)]) (fun o x y z => (oc o x y).trans (o12 o z))⟩, fun y => absurd wI_0 y⟩) (fun c pc c5 c6 cE cf ck oc => ⟨fun y => absurd y (by decide), fun _ => ?_⟩)
  have co : ∀ o, o ≠ 34 → o ≠ 35 → o ≠ 36 → c o = h o := fun o x y z => (oc o x y).trans (o12 o z)
  have ckk : ∀ j, j ≠ 5 → j ≠ 6 → c 34 j = h 34 j := fun j x y => by rw [ck j x y, o12 34 (by decide)]
  refine M_wantJoint (G := G) (h := c) (p := 0) (by rw [c6]; exact b26) (by rw [c6]; exact b2W) (by decide) (Pl_cg (fun o _ _ => co o (by omega) (by omega) (by omega)) pl0) cl cs r01 (fun d1 d16 d1W od1 => ?_)
  refine M_wantJoint (G := G) (h := d1) (p := 1) d16 d1W (by decide) (Pl_cg (fun o _ _ => (od1 o (by omega)).trans (co o (by omega) (by omega) (by omega))) pl1) cl1 cs1 r11 (fun d2 d26 d2W od2 => ?_)
  rw [← ew2] at d2W
  have od : ∀ o, o ≠ 36 → d2 o = c o := fun o q => (od2 o q).trans (od1 o q)
  refine M_flS (f := w1) (w := w2) (ws := ws) (r := rr) (d' := d') (f' := f') (n' := n') (by rw [od 35 (by decide)]; exact c5) d26 (by rw [od 35 (by decide)]; exact cE) d2W (by rw [od 34 (by decide)]; exact cf) (by rw [od 34 (by decide)]; exact pc) (fun e r0 e5 e6 ed ef en e3 ek oe => ⟨Or.inl rfl, H0 e r0 e5 (by rw [e6]; exact d26) ed ef en e3 (fun j x y z => by rw [ek j x y z, od 34 (by decide)]; exact ckk j y z) (fun o x y z => by rw [oe o x y, od o z]; exact co o x y z)⟩) (fun e pe e5 e6 eE ef ek oe => ⟨Or.inr rfl, H1 e pe e5 (by rw [e6]; exact d26) eE (by rw [e6]; exact d2W) ef (fun j x y => by rw [ek j x y, od 34 (by decide)]; exact ckk j x y) (fun o x y z => by rw [oe o x y, od o z]; exact co o x y z)⟩)
end CHAIN
