/-! CLUSTERS that come: their FAT, their bits -/
def fo (w r : Nat → Int) : Nat → Nat → Int
  | 0 => w
  | m + 1 => wb (fo w r m) (512 + 4 * r m) 4 (r (m + 1))
def fn (w s : Nat → Int) (k : Nat) : Nat → Nat → Int
  | 0 => w
  | m + 1 => wb (fn w s k m) (512 + 4 * s m) 4 (if m + 1 < k then s (m + 1) else 4294967295)
noncomputable def tbm (w : Nat → Int) (mp : Int) (s : Nat → Int) : Nat → Nat → Int
  | 0 => w
  | m + 1 => bs (tbm w mp s m) mp (s m) 1
def tk1 (w r : Nat → Int) (K : Nat) (wr' : Int) (s : Nat → Int) (k : Nat) (run : Int) : Nat → Int := if run = 1 ∨ k = 0 then w else fn (if wr' = 1 then fo w r (K - 1) else w) s k k
def tk2 (w r : Nat → Int) (K : Nat) (s : Nat → Int) (k : Nat) (run : Int) : Nat → Int := if run = 0 ∧ K ≠ 0 ∧ k ≠ 0 then wb w (512 + 4 * r (K - 1)) 4 (s 0) else w
noncomputable def tkX (w : Nat → Int) (mp X : Int) : Nat → Int := if X = 0 then w else bs w mp X 1
theorem By_fo {w r : Nat → Int} (h : By w) : ∀ m, By (fo w r m)
  | 0 => h
  | m + 1 => By_wb (By_fo h m)
theorem By_fn {w s : Nat → Int} {k : Nat} (h : By w) : ∀ m, By (fn w s k m)
  | 0 => h
  | m + 1 => By_wb (By_fn h m)
theorem By_tbm {w s : Nat → Int} {mp : Int} (h : By w) : ∀ m, By (tbm w mp s m)
  | 0 => h
  | m + 1 => By_bs (By_tbm h m)
theorem By_tk1 {w r s : Nat → Int} {K k : Nat} {wr' run : Int} (h : By w) : By (tk1 w r K wr' s k run) := by
  unfold tk1
  split
  · exact h
  · refine By_fn ?_ _
    split
    · exact By_fo h _
    · exact h
theorem By_tk2 {w r s : Nat → Int} {K k : Nat} {run : Int} (h : By w) : By (tk2 w r K s k run) := by
  unfold tk2
  split
  · exact By_wb h
  · exact h
theorem By_tkX {w : Nat → Int} {mp X : Int} (h : By w) : By (tkX w mp X) := by
  unfold tkX
  split
  · exact h
  · exact By_bs h
theorem tk1_id {w r s : Nat → Int} {K k : Nat} {wr' run : Int} (h : run = 1 ∨ k = 0) : tk1 w r K wr' s k run = w := by unfold tk1; rw [if_pos h]
theorem tk2_id {w r s : Nat → Int} {K k : Nat} {run : Int} (h : run = 1 ∨ k = 0) : tk2 w r K s k run = w := by unfold tk2; rw [if_neg (by omega)]
/-- the reference's plan -/
def Pl (h : AH) (p K : Nat) (r : Nat → Int) (wr' : Int) (k : Nat) (s : Nat → Int) (run : Int) : Prop := h 54 p = (K : Int) ∧ K ≤ 102 ∧ (∀ i, i < K → h 53 (102 * p + i) = r i) ∧ h 57 p = wr' ∧ h 56 p = (k : Int) ∧ k ≤ 102 ∧ (∀ i, i < k → h 55 (102 * p + i) = s i) ∧ h 58 p = run
theorem Pl_cg {h h' : AH} {p K k : Nat} {r s : Nat → Int} {wr' run : Int} (o : ∀ o, 53 ≤ o → o ≤ 58 → h' o = h o) (a : Pl h p K r wr' k s run) : Pl h' p K r wr' k s run := by
  unfold Pl at *
  rw [o 53 (by decide) (by decide), o 54 (by decide) (by decide), o 55 (by decide) (by decide), o 56 (by decide) (by decide), o 57 (by decide) (by decide), o 58 (by decide) (by decide)]
  exact a
section TAKE
variable {G : GG} {h : AH} {w r s : Nat → Int} {mp n X : Int} {K k : Nat} {wr' run : Int}
theorem G_layFat {P : AH → Prop} (hd : Dk h) (h3 : h 3 = w) (h71 : h 7 1 = n) (hn : 16 ≤ n ∧ n ≤ 100) (ro : Ro h 28 29 K r) (cl : ∀ i, i < K → clu n (r i)) (rf : Ro h 30 31 k s) (cs : ∀ i, i < k → clu n (s i)) (e4 : h 27 4 = wr') (w01 : wr' = 0 ∨ wr' = 1) (H : ∀ h', Upd h h' (fn (if wr' = 1 then fo w r (K - 1) else w) s k k) → P h') : RunsV G 72 [vR 27] h P := by
  have r1 := ro.2.1
  have r2 := rf.2.1
  have c55 : ∀ (w1 : Nat → Int) (b0 : AH), w1 = (if wr' = 1 then fo w r (K - 1) else w) → Upd h b0 w1 → Go G (pV P) 72 55 [some (vR 27), some (vI 0)] [] b0 := by
    intro w1 b0 ew u0
    have key : ∀ (m i : Nat) (b : AH), i + m = k → Upd h b (fn w1 s k i) → Go G (pV P) 72 55 [some (vR 27), some (vI (i : Int))] [] b := by
      intro m
      induction m with
      | zero =>
        intro i b hi u
        apply q_G_layFat_c55
        rw [u.2.2 30 (by decide) (by decide), rf.1, wI_id (z := (k : Int)) (by omega) (by omega), wI_id (z := (i : Int)) (by omega) (by omega)]
        refine ⟨fun _ => H b ?_, fun z => by omega⟩
        rw [show i = k by omega, ew] at u
        exact u
      | succ m ih =>
        intro i b hi u
        have b7 : b 7 = h 7 := u.2.2 7 (by decide) (by decide)
        have rfb : Ro b 30 31 k s := by unfold Ro; rw [u.2.2 30 (by decide) (by decide), u.2.2 31 (by decide) (by decide)]; exact rf
        apply q_G_layFat_c55
        rw [rfb.1, wI_id (z := (k : Int)) (by omega) (by omega), wI_id (z := (i : Int)) (by omega) (by omega)]
        refine ⟨fun z => by omega, fun _ => C_at_30 rfb (by omega) (by omega) ?_⟩
        rw [rfb.1, wI_id (z := (k : Int)) (by omega) (by omega), wI_id (z := (i : Int) + 1) (by omega) (by omega), show (i : Int).toNat = i by omega, show (i : Int) + 1 = ((i + 1 : Nat) : Int) by omega]
        refine ⟨fun z => ?_, fun z => ?_⟩
        · refine S_setFat u.1 (by rw [b7, h71]; exact hn) (by rw [b7, h71]; exact cs i (by omega)) (fun b2 ub2 => ?_)
          rw [u.2.1, wb4_mod (w := 4294967295) (by decide)] at ub2
          refine ih (i + 1) b2 (by omega) ?_
          rw [fn, if_neg (by omega)]
          exact u.trans ub2
        · refine C_at_30 rfb (by omega) (by omega) ?_
          rw [show (((i + 1 : Nat) : Int)).toNat = i + 1 by omega]
          refine S_setFat u.1 (by rw [b7, h71]; exact hn) (by rw [b7, h71]; exact cs i (by omega)) (fun b2 ub2 => ?_)
          rw [u.2.1] at ub2
          refine ih (i + 1) b2 (by omega) ?_
          rw [fn, if_pos (by omega)]
          exact u.trans ub2
    have k0 := key k 0 b0 (by omega) u0
    exact k0
  apply q_G_layFat
  rw [e4]
  rcases w01 with z | z
  · rw [z]
    refine ⟨fun _ => c55 w h (by rw [z, if_neg (by decide)]) ⟨hd, h3, fun _ _ _ => rfl⟩, fun y => absurd wI_0 y⟩
  · rw [z]
    refine ⟨fun y => absurd y (by decide), fun _ => ?_⟩
    have key : ∀ (m i : Nat) (b : AH), i + m = K - 1 → Upd h b (fo w r i) → Go G (pV P) 72 9 [some (vR 27), some (vI (i : Int))] [] b := by
      intro m
      induction m with
      | zero =>
        intro i b hi u
        apply q_G_layFat_c9
        rw [u.2.2 28 (by decide) (by decide), ro.1, wI_id (z := (K : Int)) (by omega) (by omega), wI_id (z := (i : Int) + 1) (by omega) (by omega)]
        refine ⟨fun _ => c55 _ b ?_ u, fun y => by omega⟩
        rw [if_pos z, show i = K - 1 by omega]
      | succ m ih =>
        intro i b hi u
        have b7 : b 7 = h 7 := u.2.2 7 (by decide) (by decide)
        have rob : Ro b 28 29 K r := by unfold Ro; rw [u.2.2 28 (by decide) (by decide), u.2.2 29 (by decide) (by decide)]; exact ro
        apply q_G_layFat_c9
        rw [rob.1, wI_id (z := (K : Int)) (by omega) (by omega), wI_id (z := (i : Int) + 1) (by omega) (by omega)]
        refine ⟨fun y => by omega, fun _ => C_at_28 rob (by omega) (by omega) (C_at_28 rob (by omega) (by omega) ?_)⟩
        rw [show (i : Int).toNat = i by omega, show ((i : Int) + 1).toNat = i + 1 by omega, show (i : Int) + 1 = ((i + 1 : Nat) : Int) by omega]
        refine S_setFat u.1 (by rw [b7, h71]; exact hn) (by rw [b7, h71]; exact cl i (by omega)) (fun b2 ub2 => ?_)
        rw [u.2.1] at ub2
        exact ih (i + 1) b2 (by omega) (u.trans ub2)
    have k0 := key (K - 1) 0 h (by omega) ⟨hd, h3, fun _ _ _ => rfl⟩
    exact k0
theorem G_take {P : Int → AH → Prop} {ws : List (Nat → Int)} {Q : Int → (Nat → Int) → Int → Int → Prop} (sy : Syn h) (h3 : h 3 = w) (hf : 0 ≤ h 1 3 ∧ h 1 3 ≤ 1000) (h71 : h 7 1 = n) (h73 : h 7 3 = mp) (h74 : h 7 4 = X) (hn : 16 ≤ n ∧ n ≤ 100) (hm : 2 ≤ mp ∧ mp ≤ 101) (hx : X = 0 ∨ clu n X) (ro : Ro h 28 29 K r) (cl : ∀ i, i < K → clu n (r i)) (rf : Ro h 30 31 k s) (cs : ∀ i, i < k → clu n (s i)) (e4 : h 27 4 = wr') (w01 : wr' = 0 ∨ wr' = 1) (e5 : h 27 5 = run) (r01 : run = 0 ∨ run = 1) (kz : k = 0 → run = wr')
    (pc : ∀ r' d' f' n', Ph w (tk1 w r K wr' s k run :: tk2 (tk1 w r K wr' s k run) r K s k run :: tkX (tbm (tk2 (tk1 w r K wr' s k run) r K s k run) mp s k) mp X :: ws) (h 1 3) (h 1 4) r' d' f' n' → Q r' d' f' n')
    (H0 : ∀ h', Q 0 (h' 2) (h' 1 3) (h' 1 4) → Syn h' → (∀ o, ¬ (1 ≤ o ∧ o ≤ 4) → h' o = h o) → P 0 h')
    (H1 : ∀ h', (∀ r' d' f' n', Ph (tkX (tbm (tk2 (tk1 w r K wr' s k run) r K s k run) mp s k) mp X) ws (h' 1 3) (h' 1 4) r' d' f' n' → Q r' d' f' n') → Syn h' → h' 3 = tkX (tbm (tk2 (tk1 w r K wr' s k run) r K s k run) mp s k) mp X → (∀ j, j < 13824 → h' 2 j = tkX (tbm (tk2 (tk1 w r K wr' s k run) r K s k run) mp s k) mp X j) → (0 ≤ h' 1 3 ∧ h' 1 3 ≤ 1000) → (∀ o, ¬ (1 ≤ o ∧ o ≤ 4) → h' o = h o) → P 1 h') : RunsI G 71 [vR 27] h P := by
  have r1 := ro.2.1
  have r2 := rf.2.1
  generalize e1 : tk1 w r K wr' s k run = w1 at pc H1
  generalize e2 : tk2 w1 r K s k run = w2 at pc H1
  have c86 : ∀ c : AH, (∀ r' d' f' n', Ph w2 (tkX (tbm w2 mp s k) mp X :: ws) (c 1 3) (c 1 4) r' d' f' n' → Q r' d' f' n') → Syn c → c 3 = w2 → (∀ j, j < 13824 → c 2 j = w2 j) → (0 ≤ c 1 3 ∧ c 1 3 ≤ 1000) → (∀ o, ¬ (1 ≤ o ∧ o ≤ 4) → c o = h o) → Go G (pI P) 71 86 [some (vR 27), some (vI 0)] [] c := by
    intro c pcc syc c3 cd cf oc
    have key : ∀ (m i : Nat) (b : AH), i + m = k → Upd c b (tbm w2 mp s i) → Go G (pI P) 71 86 [some (vR 27), some (vI (i : Int))] [] b := by
      intro m
      induction m with
      | zero =>
        intro i b hi u
        have ob : ∀ o, ¬ (1 ≤ o ∧ o ≤ 4) → b o = h o := fun o p => (u.2.2 o (by omega) (by omega)).trans (oc o p)
        rw [show i = k by omega] at u
        have last : ∀ b2 : AH, Upd c b2 (tkX (tbm w2 mp s k) mp X) → RunsI G 64 [vR 1] b2 (fun r2 h2 => ((r2 = 0 ∨ r2 = 1) ∧ P r2 h2)) := by
          intro b2 u2
          have b21 : b2 1 = c 1 := u2.2.2 1 (by decide) (by decide)
          have ob2 : ∀ o, ¬ (1 ≤ o ∧ o ≤ 4) → b2 o = h o := fun o p => (u2.2.2 o (by omega) (by omega)).trans (oc o p)
          refine D_step (f := w2) (ws := ws) (Q := Q) u2.1 (fun j hj => by rw [u2.2.2 2 (by decide) (by decide)]; exact cd j hj) u2.2.1 (by rw [b21]; exact cf) (fun r' d' f' n' p => pcc _ _ _ _ (by rw [b21] at p; exact p)) (fun e q sye oe => ⟨Or.inl rfl, H0 e q sye (fun o p => (oe o p).trans (ob2 o p))⟩) (fun e pe sye e3 ed ef oe => ⟨Or.inr rfl, H1 e pe sye e3 ed ef (fun o p => (oe o p).trans (ob2 o p))⟩)
        have b7 : b 7 = h 7 := ob 7 (by decide)
        apply q_G_take_c86
        rw [ob 30 (by decide), rf.1, wI_id (z := (k : Int)) (by omega) (by omega), wI_id (z := (i : Int)) (by omega) (by omega), b7, h74]
        refine ⟨fun _ => ?_, fun y => by omega⟩
        by_cases x0 : X = 0
        · rw [x0]
          apply q_S_setTaken
          refine S_isCluster (by rw [b7, h71]; exact hn) (by omega) (fun z => by unfold clu at z; omega) (fun _ => ⟨fun _ => last b ?_, fun y => absurd wI_0 y⟩)
          unfold tkX
          rw [if_pos x0]
          exact u
        · refine S_setTaken u.1 (by rw [b7, h71]; exact hn) (by rw [b7, h73]; exact hm) (by rw [b7, h71]; exact hx.resolve_left x0) (Or.inr rfl) (fun b2 u2 => last b2 ?_)
          rw [u.2.1, b7, h73] at u2
          unfold tkX
          rw [if_neg x0]
          exact u.trans u2
      | succ m ih =>
        intro i b hi u
        have ob : ∀ o, ¬ (1 ≤ o ∧ o ≤ 4) → b o = h o := fun o p => (u.2.2 o (by omega) (by omega)).trans (oc o p)
        have b7 : b 7 = h 7 := ob 7 (by decide)
        have rfb : Ro b 30 31 k s := by unfold Ro; rw [ob 30 (by decide), ob 31 (by decide)]; exact rf
        apply q_G_take_c86
        rw [rfb.1, wI_id (z := (k : Int)) (by omega) (by omega), wI_id (z := (i : Int)) (by omega) (by omega)]
        refine ⟨fun y => by omega, fun _ => C_at_30 rfb (by omega) (by omega) ?_⟩
        rw [show (i : Int).toNat = i by omega, show (i : Int) + 1 = ((i + 1 : Nat) : Int) by omega]
        refine S_setTaken u.1 (by rw [b7, h71]; exact hn) (by rw [b7, h73]; exact hm) (by rw [b7, h71]; exact cs i (by omega)) (Or.inr rfl) (fun b2 u2 => ?_)
        rw [u.2.1, b7, h73] at u2
        exact ih (i + 1) b2 (by omega) (u.trans u2)
    have k0 := key k 0 c (by omega) ⟨syc.1, c3, fun _ _ _ => rfl⟩
    exact k0
  have c11 : ∀ b : AH, Upd h b w1 → Go G (pI P) 71 11 [some (vR 27), none] [] b := by
    intro b u
    have b1 : b 1 = h 1 := u.2.2 1 (by decide) (by decide)
    have ob : ∀ o, ¬ (1 ≤ o ∧ o ≤ 4) → b o = h o := fun o p => u.2.2 o (by omega) (by omega)
    have bd : ∀ j, j < 13824 → b 2 j = w j := fun j hj => by rw [u.2.2 2 (by decide) (by decide), ← h3]; exact (sy.2.1 j hj).symm
    apply q_G_take_c11
    refine D_step (f := w) (ws := w2 :: tkX (tbm w2 mp s k) mp X :: ws) (Q := Q) u.1 bd u.2.1 (by rw [b1]; exact hf) (fun r' d' f' n' p => pc _ _ _ _ (by rw [b1] at p; exact p)) (fun e q sye oe => ⟨fun _ => ⟨Or.inl rfl, H0 e q sye (fun o p => (oe o p).trans (ob o p))⟩, fun y => absurd wI_0 y⟩) (fun e pe sye e3 ed ef oe => ⟨fun y => absurd y (by decide), fun _ => ?_⟩)
    have oeh : ∀ o, ¬ (1 ≤ o ∧ o ≤ 4) → e o = h o := fun o p => (oe o p).trans (ob o p)
    have e7 : e 7 = h 7 := oeh 7 (by decide)
    have roe : Ro e 28 29 K r := by unfold Ro; rw [oeh 28 (by decide), oeh 29 (by decide)]; exact ro
    have rfe : Ro e 30 31 k s := by unfold Ro; rw [oeh 30 (by decide), oeh 31 (by decide)]; exact rf
    have nx : ∀ b2 : AH, Upd e b2 w2 → RunsI G 64 [vR 1] b2 (fun r3 h3 => ((wI r3 = 0 → (((0 : Int) = 0 ∨ (0 : Int) = 1) ∧ P 0 h3)) ∧ (¬ wI r3 = 0 → Go G (pI P) 71 86 [some (vR 27), some (vI 0)] [] h3))) := by
      intro b2 u2
      have b21 : b2 1 = e 1 := u2.2.2 1 (by decide) (by decide)
      have ob2 : ∀ o, ¬ (1 ≤ o ∧ o ≤ 4) → b2 o = h o := fun o p => (u2.2.2 o (by omega) (by omega)).trans (oeh o p)
      exact D_step (f := w1) (ws := tkX (tbm w2 mp s k) mp X :: ws) (Q := Q) u2.1 (fun j hj => by rw [u2.2.2 2 (by decide) (by decide)]; exact ed j hj) u2.2.1 (by rw [b21]; exact ef) (fun r' d' f' n' p => pe _ _ _ _ (by rw [b21] at p; exact p)) (fun c q syc oc => ⟨fun _ => ⟨Or.inl rfl, H0 c q syc (fun o p => (oc o p).trans (ob2 o p))⟩, fun y => absurd wI_0 y⟩) (fun c pcc syc c3 cd cf oc => ⟨fun y => absurd y (by decide), fun _ => c86 c pcc syc c3 cd cf (fun o p => (oc o p).trans (ob2 o p))⟩)
    have same : ¬ (run = 0 ∧ K ≠ 0 ∧ k ≠ 0) → Upd e e w2 := fun no => by
      rw [← e2]
      unfold tk2
      rw [if_neg no]
      exact ⟨sye.1, e3, fun _ _ _ => rfl⟩
    rw [oeh 27 (by decide), e5, roe.1, rfe.1, wI_id (z := (K : Int)) (by omega) (by omega), wI_id (z := (k : Int)) (by omega) (by omega)]
    rcases r01 with z | z
    · rw [z]
      refine ⟨fun _ => ⟨fun y => nx e (same (by omega)), fun y => ⟨fun x => nx e (same (by omega)), fun x => ?_⟩⟩, fun y => absurd wI_0 y⟩
      apply q_C_last_28
      rw [roe.1]
      refine C_at_28 roe (by omega) (by omega) (C_at_30 rfe (by omega) (by omega) ?_)
      rw [show ((K : Int) - 1).toNat = K - 1 by omega, show ((0 : Int)).toNat = 0 by rfl]
      refine S_setFat sye.1 (by rw [e7, h71]; exact hn) (by rw [e7, h71]; exact cl _ (by omega)) (fun b2 u2 => nx b2 ?_)
      rw [e3] at u2
      rw [← e2]
      unfold tk2
      rw [if_pos ⟨z, by omega, by omega⟩]
      exact u2
    · rw [z]
      exact ⟨fun y => absurd y (by decide), fun _ => nx e (same (by omega))⟩
  apply q_G_take
  rw [e5]
  rcases r01 with z | z
  · rw [z]
    refine ⟨fun _ => G_layFat sy.1 h3 h71 hn ro cl rf cs e4 w01 (fun b u => c11 b ?_), fun y => absurd wI_0 y⟩
    rw [← e1]
    unfold tk1
    by_cases k0 : k = 0
    · rw [if_pos (Or.inr k0)]
      have wz : wr' = 0 := by rw [← kz k0]; exact z
      rw [wz, if_neg (by decide), k0] at u
      exact u
    · rw [if_neg (by omega)]
      exact u
  · rw [z]
    refine ⟨fun y => absurd y (by decide), fun _ => c11 h ?_⟩
    rw [← e1]
    unfold tk1
    rw [if_pos (Or.inl z)]
    exact ⟨sy.1, h3, fun _ _ _ => rfl⟩
end TAKE
