/-! CLUSTERS that come: the mounted volume -/
section PGRO
variable {f u g : Nat → Int} {n root mp X : Int} {t R : AH}
/-- what is on the disk when CLUSTERS were taken -/
noncomputable def tkA (u : Nat → Int) (mp X : Int) (r : Nat → Int) (K : Nat) (wr' : Int) (s : Nat → Int) (k : Nat) (run : Int) : Nat → Int := tkX (tbm (tk2 (tk1 u r K wr' s k run) r K s k run) mp s k) mp X
/-- what may differ ahead of that -/
def Bas (f u : Nat → Int) (mp : Int) (t R : AH) : Prop := By u ∧ (∀ x, 512 ≤ x → x < 1024 → rd u x = rd f x) ∧ (∀ j, al t j → dirT f t j → ∀ i, i < Kt t j → ∀ x, ca (R j i) ≤ x → x < ca (R j i) + 128 → rd u x = rd f x) ∧ ∀ x, ca mp ≤ x → x < ca mp + 128 → rd u x = rd f x
theorem Bas_ft (b : Bas f u mp t R) {c : Int} (c0 : 0 ≤ c) (c1 : c ≤ 101) : ft u c = ft f c := u4_cg (fun j _ _ => b.2.1 _ (by omega) (by omega))
theorem Bas_tb (b : Bas f u mp t R) (m2 : 2 ≤ mp ∧ mp ≤ 101) {c : Int} (c0 : 2 ≤ c) (c1 : c ≤ 101) : tb u mp c = tb f mp c := by
  unfold tb
  rw [b.2.2.2 _ (by omega) (by omega)]
theorem tkA_hi {r s : Nat → Int} {K k : Nat} {wr' run : Int} (m2 : 2 ≤ mp ∧ mp ≤ 101) (hX : X = 0 ∨ (2 ≤ X ∧ X ≤ 101)) (cl : ∀ i, i < K → 2 ≤ r i ∧ r i ≤ 101) (cs : ∀ i, i < k → 2 ≤ s i ∧ s i ≤ 101) {x : Int} (x0 : 1024 ≤ x) (xm : x < ca mp ∨ ca mp + 128 ≤ x) : rd (tkA u mp X r K wr' s k run) x = rd u x := by
  unfold tkA
  rw [tkX_ne m2.1 (by omega) xm hX, tbm_ne m2.1 (by omega) xm _ cs, tk_rd cl cs x0]
theorem tkA_ft {r s : Nat → Int} {K k : Nat} {wr' run c : Int} (m2 : 2 ≤ mp ∧ mp ≤ 101) (hX : X = 0 ∨ (2 ≤ X ∧ X ≤ 101)) (cs : ∀ i, i < k → 2 ≤ s i ∧ s i ≤ 101) (c0 : 0 ≤ c) (c1 : c ≤ 101) : ft (tkA u mp X r K wr' s k run) c = ft (tk2 (tk1 u r K wr' s k run) r K s k run) c := by
  have cm : 1024 ≤ ca mp := by unfold ca; omega
  refine u4_cg (fun j _ _ => ?_)
  unfold tkA
  rw [tkX_ne m2.1 (by omega) (by omega) hX, tbm_ne m2.1 (by omega) (by omega) _ cs]
theorem By_tkA {r s : Nat → Int} {K k : Nat} {wr' run : Int} (h : By u) : By (tkA u mp X r K wr' s k run) := By_tkX (By_tbm (By_tk2 (By_tk1 h)) _)
theorem tkA_tb {r s : Nat → Int} {K k : Nat} {wr' run c : Int} (hu : By u) (m2 : 2 ≤ mp ∧ mp ≤ 101) (hX : X = 0 ∨ (2 ≤ X ∧ X ≤ 101)) (cl : ∀ i, i < K → 2 ≤ r i ∧ r i ≤ 101) (cs : ∀ i, i < k → 2 ≤ s i ∧ s i ≤ 101) (hc : 2 ≤ c ∧ c ≤ 101) (y : tb u mp c = 1 ∨ (∃ i, i < k ∧ c = s i) ∨ c = X) : tb (tkA u mp X r K wr' s k run) mp c = 1 := by
  have b2 : By (tk2 (tk1 u r K wr' s k run) r K s k run) := By_tk2 (By_tk1 hu)
  unfold tkA
  refine tb_tkX (By_tbm b2 _) m2 hc hX ?_
  rcases y with y | y | y
  · refine Or.inl (tb_tbm b2 m2 hc _ cs (Or.inl ?_))
    rw [← y]
    unfold tb
    rw [tk_rd cl cs (by unfold ca; omega)]
  · exact Or.inl (tb_tbm b2 m2 hc _ cs (Or.inr y))
  · exact Or.inr y
/-- the row that comes out, walked -/
theorem tkA_tc {r s : Nat → Int} {K k : Nat} {wr' run : Int} {w' : Nat → Int} (cl : ∀ i, i < K → 2 ≤ r i ∧ r i ≤ 101) (cs : ∀ i, i < k → 2 ≤ s i ∧ s i ≤ 101) (dr : ∀ i j, i < j → j < K → r i ≠ r j) (dse : ∀ i j, i < j → j < k → s i ≠ s j) (drs : ∀ i j, i < K → j < k → r i ≠ s j) (r01 : run = 0 ∨ run = 1) (w01 : wr' = 0 ∨ wr' = 1) (kz : k = 0 → run = wr')
    (fw : ∀ c, 2 ≤ c → c ≤ 101 → ft w' c = ft (tk2 (tk1 u r K wr' s k run) r K s k run) c) (old : wr' = 0 → ∀ i, i + 1 < K → ft u (r i) = r (i + 1)) (oe : wr' = 0 → 0 < K → ft u (r (K - 1)) = 4294967295) (con : run = 1 → ∀ i, i + 1 < K + k → app r K s (i + 1) = app r K s i + 1) (pos : 0 < K + k) : (∀ i, i < K + k → tc w' run (app r K s 0) i = app r K s i) ∧ (run = 0 → tc w' run (app r K s 0) (K + k) = 4294967295) := by
  have ran : ∀ i, i < K + k → 2 ≤ app r K s i ∧ app r K s i ≤ 101 := fun i hi => by
    unfold app
    split
    · exact cl i (by assumption)
    · exact cs (i - K) (by omega)
  have nx : run = 0 → ∀ i, i < K + k → ft w' (app r K s i) = if i + 1 < K + k then app r K s (i + 1) else 4294967295 := fun rz i hi => by
    have ra := ran i hi
    rw [fw _ ra.1 ra.2]
    by_cases k0 : k = 0
    · have wz : wr' = 0 := by rw [← kz k0]; exact rz
      have e2 : tk2 (tk1 u r K wr' s k run) r K s k run = u := by rw [tk2_id (Or.inr k0), tk1_id (Or.inr k0)]
      rw [e2]
      have ei : app r K s i = r i := by unfold app; rw [if_pos (by omega)]
      rw [ei]
      by_cases y : i + 1 < K + k
      · rw [if_pos y, old wz i (by omega)]
        unfold app
        rw [if_pos (by omega)]
      · rw [if_neg y, show i = K - 1 by omega]
        exact oe wz (by omega)
    · obtain ⟨a1, a2, a3⟩ := tk_row (w := u) (wr' := wr') cl cs dr dse drs rz (show 1 ≤ k by omega)
      by_cases y : i + 1 < K
      · have ei : app r K s i = r i := by unfold app; rw [if_pos (by omega)]
        have ej : app r K s (i + 1) = r (i + 1) := by unfold app; rw [if_pos y]
        rw [ei, ej, a1 i y, if_pos (show i + 1 < K + k by omega)]
        rcases w01 with z | z
        · rw [if_neg (show ¬ wr' = 1 by omega)]; exact old z i y
        · rw [if_pos z]
      · by_cases x : i < K
        · have ei : app r K s i = r (K - 1) := by unfold app; rw [if_pos x, show i = K - 1 by omega]
          have ej : app r K s (i + 1) = s 0 := by unfold app; rw [if_neg y, show i + 1 - K = 0 by omega]
          rw [ei, ej, a2 (by omega), if_pos (show i + 1 < K + k by omega)]
        · have ei : app r K s i = s (i - K) := by unfold app; rw [if_neg x]
          have ej : app r K s (i + 1) = s (i - K + 1) := by unfold app; rw [if_neg y, show i + 1 - K = i - K + 1 by omega]
          rw [ei, ej, a3 (i - K) (by omega)]
          by_cases v : i - K + 1 < k
          · rw [if_pos v, if_pos (show i + 1 < K + k by omega)]
          · rw [if_neg v, if_neg (show ¬ i + 1 < K + k by omega)]
  have row : ∀ i, i < K + k → tc w' run (app r K s 0) i = app r K s i := by
    intro i
    induction i with
    | zero => intro _; rfl
    | succ i ih =>
      intro hi
      show nxt w' run (tc w' run (app r K s 0) i) = _
      rw [ih (by omega)]
      unfold nxt
      rcases r01 with z | z
      · rw [if_neg (by omega), nx z i (by omega), if_pos hi]
      · rw [if_pos z, con z i hi]
  refine ⟨row, fun rz => ?_⟩
  obtain ⟨m, em⟩ : ∃ m, K + k = m + 1 := ⟨K + k - 1, by omega⟩
  rw [em]
  show nxt w' run (tc w' run (app r K s 0) m) = _
  rw [row m (by omega)]
  unfold nxt
  rw [if_neg (by omega), nx rz m (by omega), if_neg (by omega)]
theorem V_fresh (v : V f g n root mp t R) {c : Int} (h : tb f mp c = 0) : c ≠ mp ∧ ∀ j, al t j → ∀ i, i < Kt t j → R j i ≠ c := by
  refine ⟨fun z => ?_, fun j a i hi z => ?_⟩
  · rw [z, v.2.2.2.2.2.2.1] at h
    exact absurd h (by decide)
  · have := v.2.2.2.2.2.1 j a i hi
    rw [z, h] at this
    exact absurd this (by decide)
theorem ad_mp {hd c : Int} (m2 : 2 ≤ mp ∧ mp ≤ 101) (hm : hd + 64 ≤ ca mp ∨ ca mp + 128 ≤ hd) (c0 : 2 ≤ c) (c1 : c ≤ 101) : 0 ≤ ca mp + (c - 2) / 8 ∧ (ca mp + (c - 2) / 8 < hd ∨ hd + 64 ≤ ca mp + (c - 2) / 8) := by
  unfold ca at *
  omega
theorem gro_ft {r s : Nat → Int} {K k : Nat} {wr' run hd tl fs ln tm c : Int} (m2 : 2 ≤ mp ∧ mp ≤ 101) (hX : X = 0 ∨ (2 ≤ X ∧ X ≤ 101)) (cs : ∀ i, i < k → 2 ≤ s i ∧ s i ≤ 101) (h0 : 1024 ≤ hd) (c0 : 0 ≤ c) (c1 : c ≤ 101) : ft (rly (tkA u mp X r K wr' s k run) hd tl run fs ln tm) c = ft (tk2 (tk1 u r K wr' s k run) r K s k run) c := by
  have e1 : ft (rly (tkA u mp X r K wr' s k run) hd tl run fs ln tm) c = ft (tkA u mp X r K wr' s k run) c := u4_cg (fun j _ _ => rly_ne (by omega) (by omega) (by omega))
  rw [e1]
  exact tkA_ft m2 hX cs c0 c1
theorem gro_tb {r s : Nat → Int} {K k : Nat} {wr' run hd tl fs ln tm c : Int} (bas : Bas f u mp t R) (m2 : 2 ≤ mp ∧ mp ≤ 101) (hX : X = 0 ∨ (2 ≤ X ∧ X ≤ 101)) (cl : ∀ i, i < K → 2 ≤ r i ∧ r i ≤ 101) (cs : ∀ i, i < k → 2 ≤ s i ∧ s i ≤ 101) (h0 : 1024 ≤ hd) (hm : hd + 64 ≤ ca mp ∨ ca mp + 128 ≤ hd) (c0 : 2 ≤ c) (c1 : c ≤ 101) (y : tb f mp c = 1 ∨ ∃ i, i < k ∧ c = s i) : tb (rly (tkA u mp X r K wr' s k run) hd tl run fs ln tm) mp c = 1 := by
  have e1 : tb (rly (tkA u mp X r K wr' s k run) hd tl run fs ln tm) mp c = tb (tkA u mp X r K wr' s k run) mp c := by
    have ad := ad_mp m2 hm c0 c1
    unfold tb
    rw [rly_ne (by omega) ad.1 ad.2]
  rw [e1]
  refine tkA_tb bas.1 m2 hX cl cs ⟨c0, c1⟩ ?_
  rcases y with y | y
  · exact Or.inl (by rw [Bas_tb bas m2 c0 c1]; exact y)
  · exact Or.inr (Or.inl y)
/-- a file or DIRECTORY grows -/
theorem V_gro (v : V f g n root mp t R) (bas : Bas f u mp t R) {jj k : Nat} (q1 : 1 ≤ jj) (q : al t jj) (hX : X = 0 ∨ (2 ≤ X ∧ X ≤ 101)) {s : Nat → Int} (cs : ∀ i, i < k → clu n (s i) ∧ tb f mp (s i) = 0) (dse : ∀ i j, i < j → j < k → s i ≠ s j) {run : Int} (r01 : run = 0 ∨ run = 1) (kz : k = 0 → run = bR f (t 1 jj)) (con : run = 1 → ∀ i, i + 1 < Kt t jj + k → app (R jj) (Kt t jj) s (i + 1) = app (R jj) (Kt t jj) s i + 1) {ln tm : Int} (pos : 0 < Kt t jj + k) (l0 : 0 < ln ∧ ln ≤ 128 * n) (lk : (ln + 127) / 128 = ((Kt t jj + k : Nat) : Int)) (dd : isD f (ha (t 1 jj)) → ln % 128 = 0 ∧ ∀ i, i < k → ∀ o : Int, 0 ≤ o → o < 4 → rd u (ca (s i) + 32 * o) ≠ 133) : V (rly (tkA u mp X (R jj) (Kt t jj) (bR f (t 1 jj)) s k run) (ha (t 1 jj)) (ea (R (pt t jj)) (t 3 jj + 2)) run (app (R jj) (Kt t jj) s 0) ln tm) g n root mp (tk t jj (Kt t jj + k)) (up R jj (app (R jj) (Kt t jj) s)) := by
  have nn := V_n v
  have hf := V_by v
  have wa := V_at v q1 q
  have rg := V_rng v q1 q
  have ok := V_ln v q1 q
  have s3 := SetOK_3 ok
  have ds := V_ht v q1 q q1 q
  have hd := V_hd v q1 q
  have tl := V_tl v q1 q
  have wp := v.1.2.2.2.1 jj q1 q
  have wd := (v.2.1 jj q1 q).1
  have mpc := V_mp v
  unfold clu at mpc
  have m2 : 2 ≤ mp ∧ mp ≤ 101 := (by omega)
  have caM : 1024 ≤ ca mp ∧ ca mp + 128 ≤ 13824 := by unfold ca; omega
  have cl := V_rr v q
  have cs' : ∀ i, i < k → 2 ≤ s i ∧ s i ≤ 101 := fun i hi => by have := (cs i hi).1; unfold clu at this; omega
  have fr : ∀ i, i < k → s i ≠ mp ∧ ∀ j, al t j → ∀ i', i' < Kt t j → R j i' ≠ s i := fun i hi => V_fresh v (cs i hi).2
  have dr : ∀ i j, i < j → j < Kt t jj → R jj i ≠ R jj j := fun i j a b z => by
    have := (v.1.2.2.1 jj jj i j q q (by omega) b z).2
    omega
  have drs : ∀ i j, i < Kt t jj → j < k → R jj i ≠ s j := fun i j a b => (fr j b).2 jj q i a
  have w01 := bR_01 f (t 1 jj)
  obtain ⟨r1, r2, r3⟩ := v.2.2.1 jj q
  have p0 : t 1 jj ≠ 0 := by have := V_cl v q1 q; omega
  rw [rwP_n f root p0] at r2 r3
  rw [rkP_n f _ p0] at r1
  have ran : ∀ i, i < Kt t jj + k → clu n (app (R jj) (Kt t jj) s i) ∧ app (R jj) (Kt t jj) s i ≠ mp := fun i hi => by
    unfold app
    split
    · exact v.1.2.1 jj q i (by assumption)
    · exact ⟨(cs _ (by omega)).1, (fr _ (by omega)).1⟩
  have ftw : ∀ c, 2 ≤ c → c ≤ 101 → ft (rly (tkA u mp X (R jj) (Kt t jj) (bR f (t 1 jj)) s k run) (ha (t 1 jj)) (ea (R (pt t jj)) (t 3 jj + 2)) run (app (R jj) (Kt t jj) s 0) ln tm) c = ft (tk2 (tk1 u (R jj) (Kt t jj) (bR f (t 1 jj)) s k run) (R jj) (Kt t jj) s k run) c := fun c c0 c1 => gro_ft m2 hX cs' rg.1.1 (Int.le_trans (by decide) c0) c1
  have tbS : ∀ c, 2 ≤ c → c ≤ 101 → (tb f mp c = 1 ∨ ∃ i, i < k ∧ c = s i) → tb (rly (tkA u mp X (R jj) (Kt t jj) (bR f (t 1 jj)) s k run) (ha (t 1 jj)) (ea (R (pt t jj)) (t 3 jj + 2)) run (app (R jj) (Kt t jj) s 0) ln tm) mp c = 1 := fun c c0 c1 y => gro_tb bas m2 hX cl cs' rg.1.1 rg.2.2.1 c0 c1 y
  generalize ew : tkA u mp X (R jj) (Kt t jj) (bR f (t 1 jj)) s k run = w at ftw tbS
  have byw : By w := by rw [← ew]; exact By_tkA bas.1
  have whi : ∀ x, 1024 ≤ x → (x < ca mp ∨ ca mp + 128 ≤ x) → rd w x = rd u x := fun x x0 xm => by rw [← ew]; exact tkA_hi m2 hX cl cs' x0 xm
  have fs0 := (ran 0 pos).1
  unfold clu at fs0
  have wS : ∀ x, ha (t 1 jj) ≤ x → x < ha (t 1 jj) + 64 → rd w x = rd f x := fun x x0 x1 => by
    rw [whi x (by omega) (by omega)]
    exact bas.2.2.1 _ wp.1 wd _ hd.2.2.1 x (by omega) (by omega)
  have wT : ∀ x, ea (R (pt t jj)) (t 3 jj + 2) ≤ x → x < ea (R (pt t jj)) (t 3 jj + 2) + 64 → rd w x = rd f x := fun x x0 x1 => by
    rw [whi x (by omega) (by omega)]
    exact bas.2.2.1 _ wp.1 wd _ tl.2.2.1 x (by omega) (by omega)
  generalize efs : app (R jj) (Kt t jj) s 0 = fs at fs0 ftw tbS
  have sok : SetOK (rly w (ha (t 1 jj)) (ea (R (pt t jj)) (t 3 jj + 2)) run fs ln tm) g n (ha (t 1 jj)) (ea (R (pt t jj)) (t 3 jj + 2)) (4 * (Kt t (pt t jj) : Int) - t 3 jj) := by
    refine SetOK_rly ok wa.1 (by omega) (by omega) wS wT ⟨by omega, l0.2⟩ nn.2 (by omega) (fun z => ⟨by omega, (dd z).1⟩) (fun z => by omega) (fun _ => (by omega))
  generalize ev : rly w (ha (t 1 jj)) (ea (R (pt t jj)) (t 3 jj + 2)) run fs ln tm = w' at sok ftw tbS
  have wn : ∀ x, 0 ≤ x → (x < ha (t 1 jj) ∨ ha (t 1 jj) + 64 ≤ x) → rd w' x = rd w x := fun x x0 h => by rw [← ev]; exact rly_ne wa.1 x0 h
  have byw' : By w' := by rw [← ev]; unfold rly sl sst; exact By_wb (By_wb (By_wb (By_wb (By_wb (By_wb byw)))))
  have f56 : u4 w' (ha (t 1 jj) + 56) = ln := by rw [← ev]; exact rly_56 wa.1 (by omega)
  have f52 : u4 w' (ha (t 1 jj) + 52) = fs := by rw [← ev]; exact rly_52 wa.1 (by omega)
  have f33 : rd w' (ha (t 1 jj) + 33) = (if run = 0 then 1 else 3) := by rw [← ev]; exact rly_33 wa.1
  have f35 : rd w' (ha (t 1 jj) + 35) = rd f (ha (t 1 jj) + 35) := by rw [← ev, rly_in wa.1 (by omega) (by omega) (by omega)]; exact wS _ (by omega) (by omega)
  have f4 : u2 w' (ha (t 1 jj) + 4) = u2 f (ha (t 1 jj) + 4) := by
    rw [← ev]
    exact u2_cg (by rw [rly_in wa.1 (by omega) (by omega) (by omega)]; exact wS _ (by omega) (by omega)) (by rw [show ha (t 1 jj) + 4 + 1 = ha (t 1 jj) + 5 by omega, rly_in wa.1 (by omega) (by omega) (by omega)]; exact wS _ (by omega) (by omega))
  clear ev
  have gb : bR w' (t 1 jj) = run := by
    unfold bR
    rw [f33]
    rcases r01 with z | z <;> rw [z] <;> rfl
  have ftS : ∀ c, clu n c → (∀ i, i < Kt t jj → c ≠ R jj i) → (∀ i, i < k → c ≠ s i) → ft w' c = ft f c := fun c hc n1 n2 => by
    unfold clu at hc
    rw [ftw c (by omega) (by omega), tk_out cl cs' (by omega) n1 n2]
    exact Bas_ft bas (by omega) (by omega)
  have old : bR f (t 1 jj) = 0 → ∀ i, i < Kt t jj → ft u (R jj i) = tc f (bR f (t 1 jj)) (u4 f (ha (t 1 jj) + 52)) (i + 1) := fun bz i hi => by
    have ci := cl i hi
    rw [Bas_ft bas (by omega) (by omega), ← r2 i hi]
    show _ = nxt f (bR f (t 1 jj)) _
    unfold nxt
    rw [if_neg (by omega)]
  have tcs := tkA_tc (w' := w') (wr' := bR f (t 1 jj)) cl cs' dr dse drs r01 w01 kz ftw (fun bz i hi => by rw [old bz i (by omega)]; exact r2 (i + 1) hi) (fun bz K0 => by
    rw [old bz (Kt t jj - 1) (by omega), show Kt t jj - 1 + 1 = Kt t jj by omega]
    exact r3 (Or.inr bz) K0) con pos
  rw [efs] at tcs
  refine V_up v q1 q byw' (fun j a d i hi x x0 x1 no => ?_) (fun j a nj i hi => ?_) sok f35 (by unfold isD; rw [f4]) ran (fun i i' a b => ?_) (fun j a nj i i' hi hi' => ?_) ⟨?_, fun i hi => ?_, fun b _ => ?_⟩ (fun z => ⟨by omega, fun i hi => by unfold app; rw [if_pos hi], fun i h1 h2 o o0 o1 => ?_⟩) (fun j a nj i hi => ?_) (fun i hi => ?_) ?_
  · have c := v.1.2.1 j a i hi
    have c1 := c.1
    have c2 := c.2
    unfold clu at c1
    rw [wn x (by unfold ca at x0; omega) (by omega), whi x (by unfold ca at x0; omega) (by unfold ca at *; omega)]
    exact bas.2.2.1 j a d i hi x x0 x1
  · exact ftS _ (v.1.2.1 j a i hi).1 (fun i2 h2 z => nj (v.1.2.2.1 j jj i i2 a q hi h2 z).1) (fun i2 h2 => (fr i2 h2).2 j a i hi)
  · unfold app
    by_cases y : i' < Kt t jj
    · rw [if_pos y, if_pos (by omega)]; exact dr i i' a y
    · rw [if_neg y]
      by_cases x : i < Kt t jj
      · rw [if_pos x]; exact drs i _ x (by omega)
      · rw [if_neg x]; exact dse _ _ (by omega) (by omega)
  · unfold app
    split
    · rename_i y
      exact fun z => nj (v.1.2.2.1 j jj i i' a q hi y z).1
    · exact (fr _ (by omega)).2 j a i hi
  · rw [rkP_n _ _ p0, f56]; omega
  · rw [rwP_n _ root p0, gb, f52]
    exact tcs.1 i hi
  · rw [gb] at b
    rw [rwP_n _ root p0, gb, f52]
    exact tcs.2 b
  · have e : app (R jj) (Kt t jj) s i = s (i - Kt t jj) := by unfold app; rw [if_neg (by omega)]
    have c := cs' (i - Kt t jj) (by omega)
    have nm := (fr (i - Kt t jj) (by omega)).1
    have nh := (fr (i - Kt t jj) (by omega)).2 _ wp.1 _ hd.2.2.1
    rw [e, wn _ (by unfold ca; omega) (by unfold ca at *; omega), whi _ (by unfold ca; omega) (by unfold ca; omega)]
    exact (dd z).2 _ (by omega) o o0 o1
  · have c := (v.1.2.1 j a i hi).1
    unfold clu at c
    exact tbS _ (by omega) (by omega) (Or.inl (v.2.2.2.2.2.1 j a i hi))
  · have c := (ran i hi).1
    unfold clu at c
    refine tbS _ (by omega) (by omega) ?_
    unfold app
    split
    · exact Or.inl (v.2.2.2.2.2.1 jj q i (by assumption))
    · exact Or.inr ⟨i - Kt t jj, by omega, rfl⟩
  · exact tbS mp (by omega) (by omega) (Or.inl v.2.2.2.2.2.2.1)
end PGRO
