/-! make, move: the reference makes room -/
theorem fil_comm {w : Nat → Int} {a b : Int} {m k : Nat} : fil (fil w a m 0) b k 0 = fil (fil w b k 0) a m 0 := by
  funext x
  unfold fil
  by_cases c1 : b.toNat ≤ x ∧ x < b.toNat + k
  · rw [if_pos c1]
    by_cases c2 : a.toNat ≤ x ∧ x < a.toNat + m
    · rw [if_pos c2]
    · rw [if_neg c2, if_pos c1]
  · rw [if_neg c1]
    by_cases c2 : a.toNat ≤ x ∧ x < a.toNat + m
    · rw [if_pos c2, if_pos c2]
    · rw [if_neg c2, if_neg c2, if_neg c1]
theorem blk_fil {w s : Nat → Int} {a : Int} {m : Nat} : ∀ k : Nat, blk (fil w a m 0) s k = fil (blk w s k) a m 0
  | 0 => rfl
  | k + 1 => by
    rw [blk, blk_fil k, blk, fil_comm]
theorem fil_wb {w : Nat → Int} {a : Int} {j : Nat} (a0 : 0 ≤ a) : wb (fil w a j 0) (a + j) 1 0 = fil w a (j + 1) 0 := by
  rw [← fil_succ _ _ _ _ a0]
  exact (wb_1 (f := fil w a j 0) (a := a + j) (v := 0) (by omega)).symm
theorem E_fil {w w' : Nat → Int} {a : Int} {m : Nat} (h : E w w') : E (fil w a m 0) (fil w' a m 0) := fun k hk => by
  unfold fil
  split
  · rfl
  · exact h k hk
theorem bs_comm {w : Nat → Int} {mp a b : Int} (m2 : 2 ≤ mp ∧ mp ≤ 101) (ha : 2 ≤ a ∧ a ≤ 101) (hb : 2 ≤ b ∧ b ≤ 101) : bs (bs w mp a 1) mp b 1 = bs (bs w mp b 1) mp a 1 := by
  have A0 : 0 ≤ ca mp + (a - 2) / 8 := by unfold ca; omega
  have B0 : 0 ≤ ca mp + (b - 2) / 8 := by unfold ca; omega
  by_cases z : (a - 2) / 8 = (b - 2) / 8
  · unfold bs
    rw [if_neg (by decide), if_neg (by decide), z, rd_wb1 B0, rd_wb1 B0]
    generalize ca mp + (b - 2) / 8 = A at *
    generalize sLI 1 ((a - 2) % 8) = x
    generalize sLI 1 ((b - 2) % 8) = y
    have e : bO (bO (rd w A) x % 256) y % 256 = bO (bO (rd w A) y % 256) x % 256 := by
      rw [bO_mod, bO_mod, bO_mod, bO_mod]
      have s1 : ∀ p q : Nat, ((((p ||| q : Nat) : Int)) % 256).toNat = (p ||| q) % 256 := fun p q => by omega
      rw [s1, s1]
      have l1 : ∀ v : Int, (v % 256).toNat < 256 := fun v => by omega
      have o1 : ∀ p q : Nat, p < 256 → q < 256 → (p ||| q) % 256 = p ||| q := fun p q hp hq => Nat.mod_eq_of_lt (Nat.or_lt_two_pow (n := 8) hp hq)
      rw [o1 _ _ (l1 _) (l1 _), o1 _ _ (l1 _) (l1 _), Nat.or_assoc, Nat.or_assoc, Nat.or_comm (x % 256).toNat]
    funext k
    unfold wb
    by_cases c : A.toNat ≤ k ∧ k < A.toNat + 1
    · rw [if_pos c, if_pos c, show k - A.toNat = 0 by omega, Int.pow_zero, Int.ediv_one, Int.ediv_one]
      exact e
    · rw [if_neg c, if_neg c, if_neg c, if_neg c]
  · have r1 : rd (bs w mp a 1) (ca mp + (b - 2) / 8) = rd w (ca mp + (b - 2) / 8) := bs_ne m2.1 ha.1 B0 (by omega)
    have r2 : rd (bs w mp b 1) (ca mp + (a - 2) / 8) = rd w (ca mp + (a - 2) / 8) := bs_ne m2.1 hb.1 A0 (by omega)
    have e1 : bs (bs w mp a 1) mp b 1 = wb (bs w mp a 1) (ca mp + (b - 2) / 8) 1 (bO (rd w (ca mp + (b - 2) / 8)) (sLI 1 ((b - 2) % 8))) := by
      show wb (bs w mp a 1) _ 1 (if (1 : Int) = 0 then _ else _) = _
      rw [if_neg (by decide), r1]
    have e2 : bs (bs w mp b 1) mp a 1 = wb (bs w mp b 1) (ca mp + (a - 2) / 8) 1 (bO (rd w (ca mp + (a - 2) / 8)) (sLI 1 ((a - 2) % 8))) := by
      show wb (bs w mp b 1) _ 1 (if (1 : Int) = 0 then _ else _) = _
      rw [if_neg (by decide), r2]
    rw [e1, e2]
    unfold bs
    rw [if_neg (by decide), if_neg (by decide)]
    exact wb_comm A0 B0 (by omega)
theorem tbm_tkX {w s : Nat → Int} {mp X : Int} (m2 : 2 ≤ mp ∧ mp ≤ 101) (hX : X = 0 ∨ (2 ≤ X ∧ X ≤ 101)) : ∀ k : Nat, (∀ i, i < k → 2 ≤ s i ∧ s i ≤ 101) → tbm (tkX w mp X) mp s k = tkX (tbm w mp s k) mp X
  | 0, _ => rfl
  | k + 1, h => by
    have q := h k (by omega)
    rw [tbm, tbm_tkX m2 hX k (fun i hi => h i (by omega)), tbm]
    unfold tkX
    split
    · rfl
    · exact bs_comm m2 (by omega) q
section ZIN
variable {f g w r s : Nat → Int} {n root mp X : Int} {t R : AH} {G : GG} {h : AH}
theorem M_emptyNew {P : AH → Prop} {p K k : Nat} {wr' run : Int} (h6 : Sb (h 36)) (hW : E (ub (h 36)) w) (p2 : p < 2) (pl : Pl h p K r wr' k s run) (cs : ∀ i, i < k → 2 ≤ s i ∧ s i ≤ 101) (H : ∀ h', Sb (h' 36) → E (ub (h' 36)) (blk w s k) → (∀ o, o ≠ 36 → h' o = h o) → P h') : RunsV G 249 [vR 34, vI (p : Int)] h P := by
  obtain ⟨p1, pK, p3, p4, p5, pk, p7, p8⟩ := pl
  have key : ∀ (z i : Nat) (b : AH), i + z = k → Sb (b 36) → E (ub (b 36)) (blk w s i) → (∀ o, o ≠ 36 → b o = h o) → Go G (pV P) 249 2 [some (vR 34), some (vI (p : Int)), some (vI (i : Int)), none] [] b := by
    intro z
    induction z with
    | zero =>
      intro i b hi b6 bW ob
      apply q_M_emptyNew_c2
      rw [wI_id (z := (p : Int)) (by omega) (by omega), show (p : Int).toNat = p by omega, ob 56 (by decide), p5, wI_id (z := (k : Int)) (by omega) (by omega), wI_id (z := (i : Int)) (by omega) (by omega)]
      rw [show i = k by omega] at bW
      exact ⟨by omega, fun _ => H b b6 bW ob, fun y => by omega⟩
    | succ z ih =>
      intro i b hi b6 bW ob
      have ci := cs i (by omega)
      have cb : 1024 ≤ ca (s i) ∧ ca (s i) + 128 ≤ 13824 := by unfold ca; omega
      have inn : ∀ (d j : Nat) (c : AH), j + d = 128 → Sb (c 36) → E (ub (c 36)) (fil (blk w s i) (ca (s i)) j 0) → (∀ o, o ≠ 36 → c o = h o) → Go G (pV P) 249 14 [some (vR 34), some (vI (p : Int)), some (vI (i : Int)), some (vI (j : Int))] [] c := by
        intro d
        induction d with
        | zero =>
          intro j c hj c6 cW oc
          apply q_M_emptyNew_c14
          rw [wI_id (z := (j : Int)) (by omega) (by omega), show (i : Int) + 1 = ((i + 1 : Nat) : Int) by omega]
          refine ⟨fun _ => ih (i + 1) c (by omega) c6 ?_ oc, fun y => by omega⟩
          rw [show j = 128 by omega] at cW
          exact cW
        | succ d id' =>
          intro j c hj c6 cW oc
          apply q_M_emptyNew_c14
          rw [wI_id (z := (j : Int)) (by omega) (by omega), wI_id (z := 102 * (p : Int) + (i : Int)) (by omega) (by omega), show (102 * (p : Int) + (i : Int)).toNat = 102 * p + i by omega, oc 55 (by decide), p7 i (by omega)]
          refine ⟨fun y => by omega, fun _ => ⟨by omega, ?_⟩⟩
          apply q_M_clusterAt
          have ec : 1024 + 128 * (s i - 2) = ca (s i) := rfl
          rw [ec, wI_id (z := ca (s i) + (j : Int)) (by omega) (by omega), show (j : Int) + 1 = ((j + 1 : Nat) : Int) by omega, show w8 0 = w8 (w8 0) by rfl]
          refine ⟨by omega, id' (j + 1) _ (by omega) (Sb_set c6 _ (w8_rng _).1 (w8_rng _).2) ?_ (fun o q => (hs_o _ _ _ _ _ q).trans (oc o q))⟩
          rw [ub_w8, show (((ca (s i) + (j : Int)).toNat : Nat) : Int) = ca (s i) + (j : Int) by omega, ← fil_wb (by omega)]
          exact E_wb cW _ _ _
      apply q_M_emptyNew_c2
      rw [wI_id (z := (p : Int)) (by omega) (by omega), show (p : Int).toNat = p by omega, ob 56 (by decide), p5, wI_id (z := (k : Int)) (by omega) (by omega), wI_id (z := (i : Int)) (by omega) (by omega)]
      refine ⟨by omega, fun y => by omega, fun _ => ?_⟩
      have i0 := inn 128 0 b (by omega) b6 (by rw [fil_0]; exact bW) ob
      exact i0
  apply q_M_emptyNew
  have k0 := key k 0 h (by omega) h6 hW (fun _ _ => rfl)
  exact k0
theorem M_comesIn {P : Int → AH → Prop} {jd k K0 k0 : Nat} {r0 s0 d' : Nat → Int} {wr0 run0 D rr f' n' : Int} {ws : List (Nat → Int)} (v : V f g n root mp t R) (a : al t jd) (dd : dirT f t jd) (kc : 0 < k → k ≤ cf f mp n X n.toNat) (px : PX f mp n X) (h5 : Sb (h 35)) (h6 : Sb (h 36)) (hE : E (ub (h 35)) (so1 f)) (hW : E (ub (h 36)) (so1 f)) (hf : 0 ≤ h 34 5 ∧ h 34 5 ≤ 1000) (h2 : h 34 2 = mp) (pl0 : Pl h 0 K0 r0 wr0 k0 s0 run0) (cl0 : K0 = 0) (w00 : wr0 = 0) (r00 : run0 = 0 ∨ run0 = 1) (D01 : D = 0 ∨ D = 1) (cD : (D = 0 ∧ k0 = 0 ∧ X = 0) ∨ (D = 1 ∧ k0 = 1 ∧ s0 0 = X ∧ run0 = 1 ∧ X ≠ 0)) (pl1 : Pl h 1 (Kt t jd) (R jd) (dWr f t jd) k (dSq f n mp X t R jd k) (dRn f n mp X t R jd k))
    (ph : Ph (so1 f) (dB f n mp X t R jd k :: d1 f n mp X t R jd k :: d2 f n mp X t R jd k :: d3 f n mp X t R jd k :: ws) (h 34 5) (h 34 6) rr d' f' n')
    (H0 : ∀ b, rr = 0 → Sb (b 35) → Sb (b 36) → (∀ j, j < 13824 → ub (b 35) j = d' j) → b 34 5 = f' → b 34 6 = n' → b 34 3 = 0 → (∀ j, j ≠ 3 → j ≠ 5 → j ≠ 6 → b 34 j = h 34 j) → (∀ o, o ≠ 34 → o ≠ 35 → o ≠ 36 → b o = h o) → P 0 b)
    (H1 : ∀ b, Ph (d3 f n mp X t R jd k) ws (b 34 5) (b 34 6) rr d' f' n' → Sb (b 35) → Sb (b 36) → E (ub (b 35)) (d3 f n mp X t R jd k) → E (ub (b 36)) (d3 f n mp X t R jd k) → (0 ≤ b 34 5 ∧ b 34 5 ≤ 1000) → (∀ j, j ≠ 5 → j ≠ 6 → b 34 j = h 34 j) → (∀ o, o ≠ 34 → o ≠ 35 → o ≠ 36 → b o = h o) → P 1 b) : RunsI G 261 [vR 34, vI D] h P := by
  have nn := V_n v
  have mpc := V_mp v
  unfold clu at mpc
  have xr := PX_rng v px
  obtain ⟨o1, o2⟩ := dSq_ok (t := t) (R := R) (jd := jd) kc
  have cs : ∀ i, i < k → 2 ≤ dSq f n mp X t R jd k i ∧ dSq f n mp X t R jd k i ≤ 101 := fun i hi => by have := (o1 i hi).1; unfold clu at this; omega
  have cs0 : ∀ i, i < k0 → 2 ≤ s0 i ∧ s0 i ≤ 101 := fun i hi => by
    rcases cD with y | y
    · omega
    · rw [show i = 0 by omega, y.2.2.1]
      exact xr.resolve_left y.2.2.2.2
  have m2 : 2 ≤ mp ∧ mp ≤ 101 := (by omega)
  have DI : wI D = D := by rcases D01 with y | y <;> rw [y] <;> rfl
  have c14 : ∀ b : AH, Sb (b 36) → E (ub (b 36)) (dB f n mp X t R jd k) → (∀ o, o ≠ 36 → b o = h o) → Go G (pI P) 261 14 [some (vR 34), none] [] b := by
    intro b b6 bW ob
    apply q_M_comesIn_c14
    refine M_flS (f := so1 f) (w := dB f n mp X t R jd k) (ws := d1 f n mp X t R jd k :: d2 f n mp X t R jd k :: d3 f n mp X t R jd k :: ws) (r := rr) (d' := d') (f' := f') (n' := n') (by rw [ob 35 (by decide)]; exact h5) b6 (by rw [ob 35 (by decide)]; exact hE) bW (by rw [ob 34 (by decide)]; exact hf) (by rw [ob 34 (by decide)]; exact ph) (fun c r0' c5 c6 cd cf' cn c3 ck oc => ⟨fun _ => ⟨Or.inl rfl, H0 c r0' c5 (by rw [c6]; exact b6) cd cf' cn c3 (fun j x y z => by rw [ck j x y z, ob 34 (by decide)]) (fun o x y z => (oc o x y).trans (ob o z))⟩, fun y => absurd wI_0 y⟩) (fun c pc c5 c6 cE cf' ck oc => ⟨fun y => absurd y (by decide), fun _ => ?_⟩)
    have co : ∀ o, o ≠ 34 → o ≠ 35 → o ≠ 36 → c o = h o := fun o x y z => (oc o x y).trans (ob o z)
    have ckk : ∀ j, j ≠ 5 → j ≠ 6 → c 34 j = h 34 j := fun j x y => by rw [ck j x y, ob 34 (by decide)]
    have i0 : run0 = 1 ∨ k0 = 0 := by
      rcases cD with y | y
      · exact Or.inr y.2.1
      · exact Or.inl y.2.2.2.1
    refine M_chains (f := dB f n mp X t R jd k) (w := dB f n mp X t R jd k) (w1 := d1 f n mp X t R jd k) (w2 := d2 f n mp X t R jd k) (ws := d3 f n mp X t R jd k :: ws) (rr := rr) (d' := d') (f' := f') (n' := n') c5 (by rw [c6]; exact b6) cE (by rw [c6]; exact bW) cf' (Pl_cg (fun o p p' => co o (by omega) (by omega) (by omega)) pl0) (fun i hi => by omega) cs0 (Or.inl w00) r00 (Pl_cg (fun o p p' => co o (by omega) (by omega) (by omega)) pl1) (V_rr v a) cs dWr_01 dRn_01 (by rw [tk1_id i0]; rfl) (by rw [tk2_id i0]; rfl) pc (fun u r0' u5 u6 ud uf un' u3 uk ou => ⟨fun _ => ⟨Or.inl rfl, H0 u r0' u5 u6 ud uf un' u3 (fun j x y z => by rw [uk j x y z]; exact ckk j y z) (fun o x y z => (ou o x y z).trans (co o x y z))⟩, fun y => absurd wI_0 y⟩) (fun u pu u5 u6 uE uW uf uk ou => ⟨fun y => absurd y (by decide), fun _ => ?_⟩)
    have uo : ∀ o, o ≠ 34 → o ≠ 35 → o ≠ 36 → u o = h o := fun o x y z => (ou o x y z).trans (co o x y z)
    have ukk : ∀ j, j ≠ 5 → j ≠ 6 → u 34 j = h 34 j := fun j x y => (uk j x y).trans (ckk j x y)
    refine M_wantTaken (p := 0) (mp := mp) u6 uW (by rw [ukk 2 (by decide) (by decide)]; exact h2) m2 (by decide) (Pl_cg (fun o p p' => uo o (by omega) (by omega) (by omega)) pl0) cs0 (fun y y6 yW oy => ?_)
    have eX : tbm (d2 f n mp X t R jd k) mp s0 k0 = tkX (d2 f n mp X t R jd k) mp X := by
      rcases cD with q | q
      · rw [q.2.1]
        unfold tkX
        rw [if_pos q.2.2]
        rfl
      · rw [q.2.1]
        unfold tkX
        rw [if_neg q.2.2.2.2, tbm, tbm, q.2.2.1]
    rw [eX] at yW
    refine M_wantTaken (p := 1) (mp := mp) y6 yW (by rw [oy 34 (by decide), ukk 2 (by decide) (by decide)]; exact h2) m2 (by decide) (Pl_cg (fun o p p' => (oy o (by omega)).trans (uo o (by omega) (by omega) (by omega))) pl1) cs (fun y' y6' yW' oy' => ?_)
    rw [tbm_tkX m2 xr k cs] at yW'
    have yo : ∀ o, o ≠ 36 → y' o = u o := fun o q => (oy' o q).trans (oy o q)
    refine M_flS (f := d2 f n mp X t R jd k) (w := d3 f n mp X t R jd k) (ws := ws) (r := rr) (d' := d') (f' := f') (n' := n') (by rw [yo 35 (by decide)]; exact u5) y6' (by rw [yo 35 (by decide)]; exact uE) yW' (by rw [yo 34 (by decide)]; exact uf) (by rw [yo 34 (by decide)]; exact pu) (fun l r0' l5 l6 ld lf ln' l3 lk ol => ⟨Or.inl rfl, H0 l r0' l5 (by rw [l6]; exact y6') ld lf ln' l3 (fun j x y z => by rw [lk j x y z, yo 34 (by decide)]; exact ukk j y z) (fun o x y z => by rw [ol o x y, yo o z]; exact uo o x y z)⟩) (fun l pl l5 l6 lE lf lk ol => ⟨Or.inr rfl, H1 l pl l5 (by rw [l6]; exact y6') lE (by rw [l6]; exact yW') lf (fun j x y => by rw [lk j x y, yo 34 (by decide)]; exact ukk j x y) (fun o x y z => by rw [ol o x y, yo o z]; exact uo o x y z)⟩)
  apply q_M_comesIn
  refine M_emptyNew (p := 1) h6 hW (by decide) pl1 cs (fun b b6 bW ob => ?_)
  rw [DI]
  refine ⟨fun y => c14 b b6 ?_ ob, fun y => ?_⟩
  · have x0 : X = 0 := by rcases cD with q | q; exact q.2.2; omega
    have e : dB f n mp X t R jd k = blk (so1 f) (dSq f n mp X t R jd k) k := by unfold dB blX; rw [if_pos x0]
    rw [e]
    exact bW
  · have q := cD.resolve_left (fun q => y q.1)
    refine M_emptyNew (p := 0) b6 bW (by decide) (Pl_cg (fun o p p' => ob o (by omega)) pl0) cs0 (fun c c6 cW oc => c14 c c6 ?_ (fun o p => (oc o p).trans (ob o p)))
    have e : dB f n mp X t R jd k = blk (blk (so1 f) (dSq f n mp X t R jd k) k) s0 k0 := by
      unfold dB blX
      rw [if_neg q.2.2.2.2, q.2.1, blk_fil, blk, blk, q.2.2.1]
    rw [e]
    exact cW
theorem M_grow {P : AH → Prop} {kd jd k kp : Nat} (v : V f g n root mp t R) (a : al t jd) (dd : dirT f t jd) (kc : 0 < k → k ≤ cf f mp n X n.toNat) (px : PX f mp n X) (h6 : Sb (h 36)) (hE : E (ub (h 35)) (d3 f n mp X t R jd k)) (hW : E (ub (h 36)) (d3 f n mp X t R jd k)) (h1 : h 34 1 = root) (pl1 : Pl h 1 (Kt t jd) (R jd) (dWr f t jd) k (dSq f n mp X t R jd k) (dRn f n mp X t R jd k)) (kd0 : kd = 0 ↔ jd = 0) (kd2 : kd < 200) (ex : jd ≠ 0 → h 42 kd = (kp : Int) ∧ h 43 kd = t 3 jd ∧ h 44 kd = 1 + rd f (ha (t 1 jd) + 1) ∧ (kp = 0 ↔ pt t jd = 0) ∧ kp < 200 ∧ (1 ≤ kp → h 46 kp = bR f (t 1 (pt t jd)) ∧ h 47 kp = u4 f (ha (t 1 (pt t jd)) + 56) ∧ h 48 kp = u4 f (ha (t 1 (pt t jd)) + 52)))
    (H : ∀ h', Sb (h' 36) → E (ub (h' 36)) (d4 f n mp X t R jd k (h 34 4)) → (∀ j, j ≠ 17 → h' 34 j = h 34 j) → (∀ o, o ≠ 34 → o ≠ 36 → o ≠ 39 → h' o = h o) → P h') : RunsV G 262 [vR 34, vI (kd : Int)] h P := by
  have nn := V_n v
  have Kpos := V_Kd v a dd
  have p1 := pl1.1
  have p5 := pl1.2.2.2.2.1
  obtain ⟨o1, o2⟩ := dSq_ok (t := t) (R := R) (jd := jd) kc
  have kn := app_le v a (fun i hi => ⟨(o1 i hi).1, (o1 i hi).2.1⟩) o2
  have same : (k = 0 ∨ jd = 0) → P h := fun y => H h h6 (by unfold d4; rw [if_pos y]; exact hW) (fun _ _ => rfl) (fun _ _ _ _ => rfl)
  apply q_M_grow
  rw [p1, p5, wI_id (z := (k : Int)) (by omega) (by omega), wI_id (z := (kd : Int)) (by omega) (by omega)]
  refine ⟨by decide, fun y => same (by omega), fun y => ⟨fun y2 => same (Or.inr (kd0.mp (by omega))), fun y2 => ⟨by decide, by decide, ?_⟩⟩⟩
  have j0 : jd ≠ 0 := fun x => y2 (by have := kd0.mpr x; omega)
  have j1 : 1 ≤ jd := (by omega)
  obtain ⟨e42, e43, e44, kp0, kp2, arr⟩ := ex j0
  have wp := v.1.2.2.2.1 jd j1 a
  have hdd := V_hd v j1 a
  have pne : pt t jd ≠ jd := fun y => by
    have := wp.2.2.2.1
    rw [y] at this
    omega
  have rg := (d4_row v a dd kc px (h 34 4)).2.2.2 0 (by omega)
  refine M_plannedAt (p := 1) (i := 0) (by decide) pl1 (by omega) (by omega) ⟨by decide, ?_⟩
  have fe : (if Int.toNat 0 < Kt t jd then R jd (Int.toNat 0) else dSq f n mp X t R jd k (Int.toNat 0 - Kt t jd)) = dRo f n mp X t R jd k 0 := rfl
  have e58 := pl1.2.2.2.2.2.2.2
  rw [fe, e58, wI_id (z := (Kt t jd : Int) + (k : Int)) (by omega) (by omega), show 128 * ((Kt t jd : Int) + (k : Int)) = 128 * ((Kt t jd + k : Nat) : Int) by omega]
  refine M_changeG (u := d3 f n mp X t R jd k) (w := d3 f n mp X t R jd k) (K' := Kt t (pt t jd)) (r' := R (pt t jd)) v h6 hE hW h1 j1 a kd2 e42 e43 e44 kp0 kp2 arr (RwG_same v wp.1 (fun i hi => d3_fto v a kc px wp.1 hi (Or.inr pne))) (fun x x0 x1 => d3_dir v a kc px wp.1 (v.2.1 jd j1 a).1 hdd.2.2.1 (by omega) (by omega)) dRn_01 (by omega) (by omega) (fun b b6 bW bk ob => H b b6 ?_ bk ob)
  unfold d4
  rw [if_neg (by omega)]
  exact bW
end ZIN
