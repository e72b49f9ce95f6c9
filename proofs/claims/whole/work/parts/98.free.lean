/-! acts: CLUSTERS that go -/
theorem wb_comm {w : Nat → Int} {a b v u : Int} {n m : Nat} (a0 : 0 ≤ a) (b0 : 0 ≤ b) (h : a + n ≤ b ∨ b + m ≤ a) : wb (wb w a n v) b m u = wb (wb w b m u) a n v := by
  funext k
  unfold wb
  by_cases c1 : b.toNat ≤ k ∧ k < b.toNat + m
  · rw [if_pos c1, if_neg (by omega), if_pos c1]
  · rw [if_neg c1]
    by_cases c2 : a.toNat ≤ k ∧ k < a.toNat + n
    · rw [if_pos c2, if_pos c2]
    · rw [if_neg c2, if_neg c2, if_neg c1]
/-- the FAT of CLUSTERS that go -/
def ff (w r : Nat → Int) (keep : Nat) : Nat → Nat → Int
  | 0 => w
  | m + 1 => wb (ff w r keep m) (512 + 4 * r (keep + m)) 4 0
theorem ff_wb {w r : Nat → Int} {keep : Nat} {a v : Int} (a0 : 0 ≤ a) : ∀ m : Nat, (∀ i, i < m → 0 ≤ r (keep + i) ∧ (a + 4 ≤ 512 + 4 * r (keep + i) ∨ 512 + 4 * r (keep + i) + 4 ≤ a)) → ff (wb w a 4 v) r keep m = wb (ff w r keep m) a 4 v
  | 0, _ => rfl
  | m + 1, h => by
    have q := h m (by omega)
    rw [ff, ff_wb a0 m (fun i hi => h i (by omega)), ff, wb_comm a0 (by omega) q.2]
theorem ff_ne {w r : Nat → Int} {keep : Nat} {x : Int} (x0 : 0 ≤ x) : ∀ m : Nat, (∀ i, i < m → 0 ≤ r (keep + i) ∧ (x < 512 + 4 * r (keep + i) ∨ 512 + 4 * r (keep + i) + 4 ≤ x)) → rd (ff w r keep m) x = rd w x
  | 0, _ => rfl
  | m + 1, h => by
    have q := h m (by omega)
    rw [ff, rd_wb_ne (by omega) x0 (by omega)]
    exact ff_ne x0 m (fun i hi => h i (by omega))
theorem By_ff {w r : Nat → Int} {keep : Nat} (h : By w) : ∀ m, By (ff w r keep m)
  | 0 => h
  | m + 1 => By_wb (By_ff h m)
theorem E_ff {w w' r : Nat → Int} {keep : Nat} (h : E w w') : ∀ m, E (ff w r keep m) (ff w' r keep m)
  | 0 => h
  | m + 1 => E_wb (E_ff h m) _ _ _
/-- their bits -/
noncomputable def fbm (w : Nat → Int) (mp : Int) (r : Nat → Int) (keep : Nat) : Nat → Nat → Int
  | 0 => w
  | m + 1 => bs (fbm w mp r keep m) mp (r (keep + m)) 0
theorem bs_E {w w' : Nat → Int} {mp c b : Int} (h : E w w') (m : 2 ≤ mp ∧ mp ≤ 101) (hc : 2 ≤ c ∧ c ≤ 101) : E (bs w mp c b) (bs w' mp c b) := by
  unfold bs
  rw [h.rd (by unfold ca; omega) (by unfold ca; omega)]
  exact E_wb h _ _ _
theorem By_bs {w : Nat → Int} {mp c b : Int} (h : By w) : By (bs w mp c b) := By_wb h
theorem By_fbm {w r : Nat → Int} {mp : Int} {keep : Nat} (h : By w) : ∀ m, By (fbm w mp r keep m)
  | 0 => h
  | m + 1 => By_bs (By_fbm h m)
theorem fbm_ne {w r : Nat → Int} {mp : Int} {keep : Nat} {x : Int} (m2 : 2 ≤ mp) (x0 : 0 ≤ x) (hx : x < ca mp ∨ ca mp + 128 ≤ x) : ∀ m : Nat, (∀ i, i < m → 2 ≤ r (keep + i) ∧ r (keep + i) ≤ 101) → rd (fbm w mp r keep m) x = rd w x
  | 0, _ => rfl
  | m + 1, h => by
    have q := h m (by omega)
    rw [fbm, bs_ne m2 q.1 x0 (by omega)]
    exact fbm_ne m2 x0 hx m (fun i hi => h i (by omega))
theorem tb_fbm {w r : Nat → Int} {mp c : Int} {keep : Nat} (hw : By w) (m2 : 2 ≤ mp ∧ mp ≤ 101) (hc : 2 ≤ c ∧ c ≤ 101) : ∀ m : Nat, (∀ i, i < m → (2 ≤ r (keep + i) ∧ r (keep + i) ≤ 101) ∧ c ≠ r (keep + i)) → tb (fbm w mp r keep m) mp c = tb w mp c
  | 0, _ => rfl
  | m + 1, h => by
    have q := h m (by omega)
    rw [fbm, tb_bs (By_fbm hw m) m2 q.1 hc (Or.inl rfl), if_neg q.2]
    exact tb_fbm hw m2 hc m (fun i hi => h i (by omega))
/-- T and B of freeing -/
noncomputable def fzT (w r : Nat → Int) (wr' : Int) (keep K : Nat) : Nat → Int := if wr' = 0 ∧ keep < K then ff (if keep = 0 then w else wb w (512 + 4 * r (keep - 1)) 4 4294967295) r keep (K - keep) else w
def FRr (w w1 w2 : Nat → Int) (fi ni r : Int) (d' : Nat → Int) (f' n' : Int) : Prop := (r = 0 ∧ Fl 216 w w1 fi ni 0 d' f' n') ∨ ∃ d1 f1 n1, Fl 216 w w1 fi ni 1 d1 f1 n1 ∧ Fl 216 w1 w2 f1 n1 r d' f' n'
section FREE
variable {G : GG} {h : AH}
theorem G_free {P : Int → AH → Prop} {K keep : Nat} {r w : Nat → Int} {wr' : Int} (sy : Syn h) (h3 : h 3 = w) (hf : 0 ≤ h 1 3 ∧ h 1 3 ≤ 1000) (hn : 16 ≤ h 7 1 ∧ h 7 1 ≤ 100) (hm : 2 ≤ h 7 3 ∧ h 7 3 ≤ 101) (ro : Ro h 28 29 K r) (cl : ∀ i, i < K → clu (h 7 1) (r i)) (e27 : h 27 4 = wr') (w01 : wr' = 0 ∨ wr' = 1) (kk : keep ≤ K)
    (H : ∀ rr h', FRr w (fzT w r wr' keep K) (fbm (fzT w r wr' keep K) (h 7 3) r keep (K - keep)) (h 1 3) (h 1 4) rr (h' 2) (h' 1 3) (h' 1 4) → (rr = 0 ∨ rr = 1) → Syn h' → (rr = 1 → h' 3 = fbm (fzT w r wr' keep K) (h 7 3) r keep (K - keep)) → (∀ o, o ≠ 1 → o ≠ 2 → o ≠ 3 → o ≠ 4 → h' o = h o) → P rr h') : RunsI G 73 [vR 27, vI (keep : Int)] h P := by
  have rl := ro.2.1
  have c85 : ∀ (w1 : Nat → Int) (b : AH), w1 = fzT w r wr' keep K → Dk b → b 3 = w1 → (∀ o, o ≠ 3 → o ≠ 4 → b o = h o) → RunsI G 64 [vR 1] b (fun r1 h1 => ((wI r1 = 0 → (((0 : Int) = 0 ∨ (0 : Int) = 1) ∧ P 0 h1)) ∧ (¬ wI r1 = 0 → Go G (pI P) 73 85 [some (vR 27), none, some (vI (keep : Int))] [] h1))) := by
    intro w1 b ew db b3 ob
    have b1 : b 1 = h 1 := ob 1 (by decide) (by decide)
    have b2 : b 2 = h 2 := ob 2 (by decide) (by decide)
    refine D_flush db (by rw [b1]; exact hf) (fun r1 c fl r01 syc e3 kc oc => ?_)
    rw [b1, b2, b3, ew] at fl
    have fl' : Fl 216 w (fzT w r wr' keep K) (h 1 3) (h 1 4) r1 (c 2) (c 1 3) (c 1 4) := Fl_cg (Nat.le_refl _) (fun k hk => by rw [← h3]; exact (sy.2.1 k hk).symm) (fun _ _ => rfl) fl
    have oo : ∀ o, o ≠ 1 → o ≠ 2 → o ≠ 3 → o ≠ 4 → c o = h o := fun o p q r s => (oc o p q r s).trans (ob o r s)
    rcases r01 with z | z
    · subst z
      exact ⟨fun _ => ⟨Or.inl rfl, H 0 c (Or.inl ⟨rfl, fl'⟩) (Or.inl rfl) syc (fun y => absurd y (by decide)) oo⟩, fun y => absurd wI_0 y⟩
    · subst z
      refine ⟨fun y => absurd y (by decide), fun _ => ?_⟩
      have c3 : c 3 = fzT w r wr' keep K := by rw [e3 rfl, b3, ew]
      have cf := Fl_f hf fl'
      have cd : ∀ k, k < 13824 → c 2 k = fzT w r wr' keep K k := Fl_1 fl'
      have key : ∀ (m i : Nat) (e : AH), i + m = K - keep → Upd c e (fbm (fzT w r wr' keep K) (h 7 3) r keep i) → Go G (pI P) 73 85 [some (vR 27), none, some (vI ((keep + i : Nat) : Int))] [] e := by
        intro m
        induction m with
        | zero =>
          intro i e hm2 u
          have eo : ∀ o, o ≠ 1 → o ≠ 2 → o ≠ 3 → o ≠ 4 → e o = h o := fun o p q r s => (u.2.2 o r s).trans (oo o p q r s)
          apply q_G_free_c85
          rw [eo 28 (by decide) (by decide) (by decide) (by decide), ro.1, wI_id (z := (K : Int)) (by omega) (by omega), wI_id (z := ((keep + i : Nat) : Int)) (by omega) (by omega)]
          refine ⟨fun _ => ?_, fun y => by omega⟩
          have u1 : e 1 = c 1 := u.2.2 1 (by decide) (by decide)
          have u2' : e 2 = c 2 := u.2.2 2 (by decide) (by decide)
          refine D_flush u.1 (by rw [u1]; exact cf) (fun r2 d fl2 r201 syd e3d kd od => ⟨r201, H r2 d ?_ r201 syd (fun y => ?_) (fun o p q r s => (od o p q r s).trans (eo o p q r s))⟩)
          · rw [u1, u2', u.2.1, show i = K - keep by omega] at fl2
            exact Or.inr ⟨_, _, _, fl', Fl_cg (Nat.le_refl _) cd (fun _ _ => rfl) fl2⟩
          · rw [e3d y, u.2.1, show i = K - keep by omega]
        | succ m ih =>
          intro i e hm2 u
          have eo : ∀ o, o ≠ 1 → o ≠ 2 → o ≠ 3 → o ≠ 4 → e o = h o := fun o p q r s => (u.2.2 o r s).trans (oo o p q r s)
          have e7 : e 7 = h 7 := eo 7 (by decide) (by decide) (by decide) (by decide)
          have roe : Ro e 28 29 K r := by unfold Ro; rw [eo 28 (by decide) (by decide) (by decide) (by decide), eo 29 (by decide) (by decide) (by decide) (by decide)]; exact ro
          apply q_G_free_c85
          rw [roe.1, wI_id (z := (K : Int)) (by omega) (by omega), wI_id (z := ((keep + i : Nat) : Int)) (by omega) (by omega)]
          refine ⟨fun y => by omega, fun _ => C_at_28 roe (by omega) (by omega) ?_⟩
          rw [show (((keep + i : Nat) : Int)).toNat = keep + i by omega]
          refine S_setTaken u.1 (by rw [e7]; exact hn) (by rw [e7]; exact hm) (by rw [e7]; exact cl _ (by omega)) (Or.inl rfl) (fun e2 ue => ?_)
          rw [u.2.1, e7] at ue
          rw [show ((keep + i : Nat) : Int) + 1 = ((keep + (i + 1) : Nat) : Int) by omega]
          exact ih (i + 1) e2 (by omega) (u.trans ue)
      have k0 := key (K - keep) 0 c (by omega) ⟨syc.1, c3, fun _ _ _ => rfl⟩
      rw [Nat.add_zero] at k0
      exact k0
  apply q_G_free
  rw [e27, ro.1, wI_id (z := (K : Int)) (by omega) (by omega), wI_id (z := (keep : Int)) (by omega) (by omega)]
  refine ⟨fun z => ⟨fun y => ?_, fun y => ?_⟩, fun z => ?_⟩
  · exact c85 w h (by unfold fzT; rw [if_neg (fun q => by omega)]) sy.1 h3 (fun _ _ _ => rfl)
  · have wz : wr' = 0 := by
      rcases w01 with q | q
      · exact q
      · rw [q] at z; exact absurd z (by decide)
    have eT : fzT w r wr' keep K = ff (if keep = 0 then w else wb w (512 + 4 * r (keep - 1)) 4 4294967295) r keep (K - keep) := by unfold fzT; rw [if_pos ⟨wz, by omega⟩]
    have key : ∀ (m i : Nat) (b : AH), i + m = K - keep → Upd h b (ff (if keep = 0 then w else wb w (512 + 4 * r (keep - 1)) 4 4294967295) r keep i) → Go G (pI P) 73 38 [some (vR 27), some (vI (keep : Int)), some (vI ((keep + i : Nat) : Int))] [] b := by
      intro m
      induction m with
      | zero =>
        intro i b hm' u
        apply q_G_free_c38
        rw [u.2.2 28 (by decide) (by decide), ro.1, wI_id (z := (K : Int)) (by omega) (by omega), wI_id (z := ((keep + i : Nat) : Int)) (by omega) (by omega)]
        refine ⟨fun _ => c85 _ b ?_ u.1 u.2.1 u.2.2, fun y => by omega⟩
        rw [eT, show i = K - keep by omega]
      | succ m ih =>
        intro i b hm' u
        have b7 : b 7 = h 7 := u.2.2 7 (by decide) (by decide)
        have rob : Ro b 28 29 K r := by unfold Ro; rw [u.2.2 28 (by decide) (by decide), u.2.2 29 (by decide) (by decide)]; exact ro
        apply q_G_free_c38
        rw [rob.1, wI_id (z := (K : Int)) (by omega) (by omega), wI_id (z := ((keep + i : Nat) : Int)) (by omega) (by omega)]
        refine ⟨fun y => by omega, fun _ => C_at_28 rob (by omega) (by omega) ?_⟩
        rw [show (((keep + i : Nat) : Int)).toNat = keep + i by omega]
        refine S_setFat u.1 (by rw [b7]; exact hn) (by rw [b7]; exact cl _ (by omega)) (fun b2 ub2 => ?_)
        rw [u.2.1] at ub2
        rw [show ((keep + i : Nat) : Int) + 1 = ((keep + (i + 1) : Nat) : Int) by omega]
        exact ih (i + 1) b2 (by omega) (u.trans ub2)
    by_cases k0 : keep = 0
    · have k00 := key (K - keep) 0 h (by omega) ⟨sy.1, by rw [h3, if_pos k0]; rfl, fun _ _ _ => rfl⟩
      rw [Nat.add_zero] at k00
      refine C_at0_28 ro (by omega) (by omega) ?_
      apply q_S_setFat
      refine S_isCluster hn (by omega) (fun c => by unfold clu at c; omega) (fun _ => ⟨fun _ => k00, fun y => absurd wI_0 y⟩)
    · refine C_at_28 ro (by omega) (by omega) ?_
      rw [show ((keep : Int) - 1).toNat = keep - 1 by omega]
      refine S_setFat sy.1 hn (cl _ (by omega)) (fun b u => ?_)
      rw [h3, wb4_mod (w := 4294967295) (by decide)] at u
      have k00 := key (K - keep) 0 b (by omega) (by rw [if_neg k0]; exact u)
      rw [Nat.add_zero] at k00
      exact k00
  · have wz : wr' ≠ 0 := fun q => by rw [q] at z; exact z wI_0
    exact c85 w h (by unfold fzT; rw [if_neg (fun q => wz q.1)]) sy.1 h3 (fun _ _ _ => rfl)
theorem M_frees {P : Int → AH → Prop} {K keep : Nat} {r w : Nat → Int} {wr' rr f' n' : Int} {d' : Nat → Int} (h5 : Sb (h 35)) (h6 : Sb (h 36)) (hE : E (ub (h 35)) w) (hW : E (ub (h 36)) w) (hf : 0 ≤ h 34 5 ∧ h 34 5 ≤ 1000) (hm : 2 ≤ h 34 2 ∧ h 34 2 ≤ 101) (e54 : h 54 0 = (K : Int)) (e53 : ∀ i, i < K → h 53 i = r i) (k102 : K ≤ 102) (cl : ∀ i, i < K → 2 ≤ r i ∧ r i ≤ 101) (dj : ∀ i j, i < j → j < K → r i ≠ r j) (e57 : h 57 0 = wr') (w01 : wr' = 0 ∨ wr' = 1) (kk : keep ≤ K)
    (fr : FRr w (fzT w r wr' keep K) (fbm (fzT w r wr' keep K) (h 34 2) r keep (K - keep)) (h 34 5) (h 34 6) rr d' f' n')
    (H : ∀ h', Sb (h' 35) → Sb (h' 36) → (∀ k, k < 13824 → ub (h' 35) k = d' k) → h' 34 5 = f' → h' 34 6 = n' → h' 34 3 = (if rr = 1 then h 34 3 else 0) → (∀ k, k ≠ 3 → k ≠ 5 → k ≠ 6 → h' 34 k = h 34 k) → (∀ o, o ≠ 34 → o ≠ 35 → o ≠ 36 → h' o = h o) → P rr h') : RunsI G 265 [vR 34, vI (keep : Int)] h P := by
  have c84 : ∀ (b : AH), Sb (b 36) → E (ub (b 36)) (fzT w r wr' keep K) → (∀ o, o ≠ 36 → b o = h o) → RunsI G 178 [vR 34] b (fun r1 h1 => ((wI r1 = 0 → (((0 : Int) = 0 ∨ (0 : Int) = 1) ∧ P 0 h1)) ∧ (¬ wI r1 = 0 → Go G (pI P) 265 84 [some (vR 34), none, some (vI (K : Int)), some (vI (keep : Int))] [] h1))) := by
    intro b b6 bW ob
    refine M_flush (by rw [ob 35 (by decide)]; exact h5) b6 (by rw [ob 34 (by decide)]; exact hf) (fun r1 c fl r01 c5 c6 c3 ck oc => ?_)
    rw [ob 34 (by decide), ob 35 (by decide)] at fl
    have co : ∀ o, o ≠ 34 → o ≠ 35 → o ≠ 36 → c o = h o := fun o p q s => (oc o p q).trans (ob o s)
    have ckk : ∀ k, k ≠ 3 → k ≠ 5 → k ≠ 6 → c 34 k = h 34 k := fun k p q s => (ck k p q s).trans (by rw [ob 34 (by decide)])
    rcases fr with ⟨rv, fl0⟩ | ⟨d1, f1, n1, fl1, fl2⟩
    · obtain ⟨t1, t2, t3, t4⟩ := Fl_det (Nat.le_refl _) hE bW fl fl0
      subst t1
      rw [rv] at H
      exact ⟨fun _ => ⟨Or.inl rfl, H c c5 (by rw [c6]; exact b6) t2 t3 t4 (by rw [c3, if_neg (by decide), if_neg (by decide)]) ckk co⟩, fun y => absurd wI_0 y⟩
    · obtain ⟨t1, t2, t3, t4⟩ := Fl_det (Nat.le_refl _) hE bW fl fl1
      subst t1
      refine ⟨fun y => absurd y (by decide), fun _ => ?_⟩
      have cE : E (ub (c 35)) (fzT w r wr' keep K) := fun k hk => (t2 k hk).trans (Fl_1 fl1 k hk)
      have cm : c 34 2 = h 34 2 := ckk 2 (by decide) (by decide) (by decide)
      have key : ∀ (m i : Nat) (e : AH), i + m = K - keep → Sb (e 36) → E (ub (e 36)) (fbm (fzT w r wr' keep K) (h 34 2) r keep i) → (∀ o, o ≠ 36 → e o = c o) → Go G (pI P) 265 84 [some (vR 34), none, some (vI (K : Int)), some (vI ((keep + i : Nat) : Int))] [] e := by
        intro m
        induction m with
        | zero =>
          intro i e hm' e6 eW oe
          apply q_M_frees_c84
          rw [wI_id (z := (K : Int)) (by omega) (by omega), wI_id (z := ((keep + i : Nat) : Int)) (by omega) (by omega)]
          refine ⟨fun _ => ?_, fun y => by omega⟩
          rw [show i = K - keep by omega] at eW
          refine M_flush (by rw [oe 35 (by decide)]; exact c5) e6 (by rw [oe 34 (by decide), t3]; exact Fl_f hf fl1) (fun r2 g fl3 r201 g5 g6 g3 gk og => ⟨r201, ?_⟩)
          rw [oe 34 (by decide), oe 35 (by decide), t3, t4] at fl3
          obtain ⟨s1, s2, s3, s4⟩ := Fl_det (Nat.le_refl _) cE eW fl3 fl2
          subst s1
          refine H g g5 (by rw [g6]; exact e6) s2 s3 s4 ?_ (fun k p q s => by rw [gk k p q s, oe 34 (by decide)]; exact ckk k p q s) (fun o p q s => by rw [og o p q, oe o s]; exact co o p q s)
          rw [g3, oe 34 (by decide), c3, if_pos rfl, ob 34 (by decide)]
        | succ m ih =>
          intro i e hm' e6 eW oe
          have ci := cl (keep + i) (by omega)
          apply q_M_frees_c84
          rw [wI_id (z := (K : Int)) (by omega) (by omega), wI_id (z := ((keep + i : Nat) : Int)) (by omega) (by omega), show (((keep + i : Nat) : Int)).toNat = keep + i by omega, oe 53 (by decide), co 53 (by decide) (by decide) (by decide), e53 _ (by omega)]
          refine ⟨fun y => by omega, fun _ => ⟨by omega, ?_⟩⟩
          refine M_wantBit e6 eW (by rw [oe 34 (by decide), cm]; exact hm) ci (Or.inl rfl) (fun e2 e26 e2W oe2 => ?_)
          rw [oe 34 (by decide), cm] at e2W
          rw [show ((keep + i : Nat) : Int) + 1 = ((keep + (i + 1) : Nat) : Int) by omega]
          exact ih (i + 1) e2 (by omega) e26 e2W (fun o p => (oe2 o p).trans (oe o p))
      have k0 := key (K - keep) 0 c (by omega) (by rw [c6]; exact b6) (by rw [c6]; exact bW) (fun _ _ => rfl)
      rw [Nat.add_zero] at k0
      exact k0
  apply q_M_frees
  rw [e54]
  refine ⟨by decide, ?_⟩
  have c40 : ∀ (b : AH), Sb (b 36) → E (ub (b 36)) (if wr' = 0 then ff w r keep (K - keep) else w) → (∀ o, o ≠ 36 → b o = h o) → Go G (pI P) 265 40 [some (vR 34), some (vI (keep : Int)), some (vI (K : Int)), none] [] b := by
    intro b b6 bW ob
    apply q_M_frees_c40
    rw [wI_id (z := (K : Int)) (by omega) (by omega), wI_id (z := (keep : Int)) (by omega) (by omega), ob 57 (by decide), e57, wI_id (z := wr') (by omega) (by omega), wI_id (z := (keep : Int) - 1) (by omega) (by omega), show ((keep : Int) - 1).toNat = keep - 1 by omega, ob 53 (by decide)]
    have eqz : keep = 0 ∨ K ≤ keep ∨ wr' ≠ 0 → E (ub (b 36)) (fzT w r wr' keep K) := fun cs => by
      unfold fzT
      by_cases q : wr' = 0 ∧ keep < K
      · rw [if_pos q]
        rw [if_pos q.1] at bW
        rw [if_pos (show keep = 0 by omega)]
        exact bW
      · rw [if_neg q]
        by_cases z : wr' = 0
        · rw [if_pos z, show K - keep = 0 by omega] at bW
          exact bW
        · rw [if_neg z] at bW
          exact bW
    refine ⟨fun z => c84 b b6 (eqz (by omega)) ob, fun z => ⟨fun y => c84 b b6 (eqz (by omega)) ob, fun y => ⟨by decide, fun x => ⟨by omega, ?_⟩, fun x => c84 b b6 (eqz (by omega)) ob⟩⟩⟩
    rw [e53 _ (by omega)]
    have ck := cl (keep - 1) (by omega)
    refine M_wantFat b6 (by omega) (by omega) (by omega) (fun b2 b26 bu ob2 => c84 b2 b26 ?_ (fun o p => (ob2 o p).trans (ob o p)))
    rw [bu]
    unfold fzT
    rw [if_pos ⟨x, by omega⟩, if_neg (show ¬ keep = 0 by omega), ff_wb (by omega) _ (fun i hi => ?_)]
    · rw [if_pos x] at bW
      exact E_wb bW _ _ _
    · have c1 := cl (keep + i) (by omega)
      have ne := dj (keep - 1) (keep + i) (by omega) (by omega)
      exact ⟨by omega, by omega⟩
  have key : ∀ (m i : Nat) (b : AH), i + m = K - keep → Sb (b 36) → wr' = 0 → E (ub (b 36)) (ff w r keep i) → (∀ o, o ≠ 36 → b o = h o) → Go G (pI P) 265 9 [some (vR 34), some (vI (keep : Int)), some (vI (K : Int)), some (vI ((keep + i : Nat) : Int))] [] b := by
    intro m
    induction m with
    | zero =>
      intro i b hm' b6 wz bW ob
      apply q_M_frees_c9
      rw [wI_id (z := (K : Int)) (by omega) (by omega), wI_id (z := ((keep + i : Nat) : Int)) (by omega) (by omega)]
      refine ⟨fun _ => c40 b b6 ?_ ob, fun y => by omega⟩
      rw [if_pos wz, show K - keep = i by omega]
      exact bW
    | succ m ih =>
      intro i b hm' b6 wz bW ob
      have ci := cl (keep + i) (by omega)
      apply q_M_frees_c9
      rw [wI_id (z := (K : Int)) (by omega) (by omega), wI_id (z := ((keep + i : Nat) : Int)) (by omega) (by omega), ob 57 (by decide), e57, wz, ob 53 (by decide), show (((keep + i : Nat) : Int)).toNat = keep + i by omega, e53 _ (by omega)]
      refine ⟨fun y => by omega, fun _ => ⟨by decide, fun _ => ⟨by omega, ?_⟩, fun y => absurd wI_0 y⟩⟩
      refine M_wantFat b6 (by omega) (by omega) (by omega) (fun b2 b26 bu ob2 => ?_)
      rw [show ((keep + i : Nat) : Int) + 1 = ((keep + (i + 1) : Nat) : Int) by omega]
      refine ih (i + 1) b2 (by omega) b26 wz ?_ (fun o p => (ob2 o p).trans (ob o p))
      rw [bu]
      exact E_wb bW _ _ _
  by_cases wz : wr' = 0
  · have k0 := key (K - keep) 0 h (by omega) h6 wz hW (fun _ _ => rfl)
    rw [Nat.add_zero] at k0
    exact k0
  · apply q_M_frees_c9
    rw [wI_id (z := (K : Int)) (by omega) (by omega), wI_id (z := (keep : Int)) (by omega) (by omega), e57, wI_id (z := wr') (by omega) (by omega)]
    have cc := c40 h h6 (by rw [if_neg wz]; exact hW) (fun _ _ => rfl)
    exact ⟨fun _ => cc, fun _ => ⟨by decide, fun y => absurd y wz, fun _ => cc⟩⟩
end FREE
