/-! make, move: the reference lays the SET -/
def bl4 (w r : Nat → Int) (e : Int) : Nat → Nat → Int
  | 0 => w
  | q + 1 => fil (bl4 w r e q) (ea r (e + q)) 32 0
theorem bl4_lay {w r : Nat → Int} {e : Int} {m2 : Nat} (mm : m2 = 1 ∨ m2 = 2) (e0 : 0 ≤ e) (e2 : e % 2 = 0) (h0 : 0 ≤ ea r e) (t0 : 0 ≤ ea r (e + 2)) : bl4 w r e (2 + m2) = lay w (ea r e) (ea r (e + 2)) m2 (fun _ => 0) (fun _ => 0) := by
  have e1 : ea r (e + ((1 : Nat) : Int)) = ea r e + 32 := ea_s e0 e2
  have e3 : ea r (e + ((3 : Nat) : Int)) = ea r (e + 2) + 32 := by rw [show e + ((3 : Nat) : Int) = e + 2 + 1 by omega]; exact ea_s (by omega) (by omega)
  have e0' : ea r (e + ((0 : Nat) : Int)) = ea r e := by rw [show e + ((0 : Nat) : Int) = e by omega]
  have e2' : ea r (e + ((2 : Nat) : Int)) = ea r (e + 2) := rfl
  have b3 : bl4 w r e 3 = fil (fil (fil w (ea r e) 32 0) (ea r e + 32) 32 0) (ea r (e + 2)) 32 0 := by rw [bl4, bl4, bl4, bl4, e0', e1, e2']
  generalize ea r e = A at *
  generalize ea r (e + 2) = B at *
  rcases mm with z | z
  · subst z
    show bl4 w r e 3 = _
    rw [b3]
    funext k
    unfold fil lay
    by_cases c1 : A.toNat ≤ k ∧ k < A.toNat + 64
    · rw [if_pos c1]
      by_cases c2 : B.toNat ≤ k ∧ k < B.toNat + 32
      · rw [if_pos c2]
      · rw [if_neg c2]
        by_cases c3 : (A + 32).toNat ≤ k ∧ k < (A + 32).toNat + 32
        · rw [if_pos c3]
        · rw [if_neg c3, if_pos (by omega)]
    · rw [if_neg c1]
      by_cases c2 : B.toNat ≤ k ∧ k < B.toNat + 32
      · rw [if_pos c2, if_pos (by omega)]
      · rw [if_neg c2, if_neg (by omega), if_neg (by omega), if_neg (by omega)]
  · subst z
    show fil (bl4 w r e 3) (ea r (e + ((3 : Nat) : Int))) 32 0 = _
    rw [b3, e3]
    funext k
    unfold fil lay
    by_cases c1 : A.toNat ≤ k ∧ k < A.toNat + 64
    · rw [if_pos c1]
      by_cases c0 : (B + 32).toNat ≤ k ∧ k < (B + 32).toNat + 32
      · rw [if_pos c0]
      · rw [if_neg c0]
        by_cases c2 : B.toNat ≤ k ∧ k < B.toNat + 32
        · rw [if_pos c2]
        · rw [if_neg c2]
          by_cases c3 : (A + 32).toNat ≤ k ∧ k < (A + 32).toNat + 32
          · rw [if_pos c3]
          · rw [if_neg c3, if_pos (by omega)]
    · rw [if_neg c1]
      by_cases c0 : (B + 32).toNat ≤ k ∧ k < (B + 32).toNat + 32
      · rw [if_pos c0, if_pos (by omega)]
      · rw [if_neg c0]
        by_cases c2 : B.toNat ≤ k ∧ k < B.toNat + 32
        · rw [if_pos c2, if_pos (by omega)]
        · rw [if_neg c2, if_neg (by omega), if_neg (by omega), if_neg (by omega)]
theorem wb_self {w : Nat → Int} {a : Int} (hw : By w) (a0 : 0 ≤ a) (a1 : a < 13824) : E (wb w a 1 (rd w a)) w := fun k hk => by
  unfold wb
  by_cases c : a.toNat ≤ k ∧ k < a.toNat + 1
  · rw [if_pos c, show k - a.toNat = 0 by omega, Int.pow_zero, Int.ediv_one, show k = a.toNat by omega]
    have := hw.rd a0 a1
    unfold rd at *
    omega
  · rw [if_neg c]
section ZLA
variable {w r nm g : Nat → Int} {G : GG} {h : AH}
theorem M_laySet {P : AH → Prop} {K m2 sz : Nat} {e att made chg rn fs ln : Int} (h6 : Sb (h 36)) (hW : E (ub (h 36)) w) (hr : ∀ i, i < K → h 39 i = r i) (kk : K ≤ 102) (rr : ∀ i, i < K → 2 ≤ r i ∧ r i ≤ 101) (e0 : 0 ≤ e) (e2 : e % 2 = 0) (mm : (m2 = 1 ∧ sz ≤ 15) ∨ (m2 = 2 ∧ 15 < sz ∧ sz ≤ 30)) (em : e + (2 + (m2 : Int)) ≤ 4 * (K : Int)) (ds : ea r e + 64 ≤ ea r (e + 2) ∨ ea r (e + 2) + 64 ≤ ea r e) (nmo : isNm nm sz) (hn : ∀ i, i < sz → h 52 i = nm i) (g38 : E2 (h 38) g) (gg : Gr g) (at' : At att) (ma : -9223372036854775808 ≤ made ∧ made < 9223372036854775808) (cg : -9223372036854775808 ≤ chg ∧ chg < 9223372036854775808) (r01 : rn = 0 ∨ rn = 1) (l0 : 0 ≤ ln ∧ ln < 4294967296) (f0 : 0 ≤ fs ∧ fs ≤ 1000)
    (H : ∀ h', Sb (h' 36) → E (ub (h' 36)) (nset (mks w r e.toNat) g nm (ea r e) (ea r (e + 2)) m2 sz att made chg rn fs ln) → (∀ o, o ≠ 36 → h' o = h o) → P h') : RunsV G 254 [vR 34, vI e, vI (sz : Int), vI att, vL made, vL chg, vL ln, vI fs, vI rn] h P := by
  have sz1 := nmo.1
  have mr : (m2 = 1 ∨ m2 = 2) ∧ sz ≤ 30 := by rcases mm with y | y <;> omega
  have nmr : ∀ i : Nat, i < sz → 32 ≤ nm i ∧ nm i ≤ 255 := fun i hi => isLet_rng (nmo.2.2.1 i (by omega))
  have m22 : m2 ≤ 2 := (by omega)
  have er : ∀ q : Int, 0 ≤ q → q < 4 * (K : Int) → 1024 ≤ ea r q ∧ ea r q + 32 ≤ 13824 := fun q q0 q1 => ea_rng q0 (rr _ (by omega))
  have ee := er e e0 (by omega)
  have et := er (e + 2) (by omega) (by omega)
  have ea1 : ea r (e + 1) = ea r e + 32 := ea_s e0 e2
  have r1 := er (e + 1) (by omega) (by omega)
  have t64 : m2 = 2 → ea r (e + 3) = ea r (e + 2) + 32 ∧ ea r (e + 2) + 64 ≤ 13824 := fun y => by
    have := er (e + 3) (by omega) (by omega)
    have x : ea r (e + 3) = ea r (e + 2) + 32 := by rw [show e + 3 = e + 2 + 1 by omega]; exact ea_s (by omega) (by omega)
    exact ⟨x, by omega⟩
  have tl2 : ea r (e + 2) + 32 * (m2 : Int) ≤ 13824 := by
    rcases mr.1 with y | y
    · omega
    · have := t64 y; omega
  have att0 : 0 ≤ att ∧ att ≤ 17 := by rcases at' with y | y | y | y <;> omega
  generalize eF : mks w r e.toNat = w1 at H
  -- types of NAMES, then the sum
  have c296 : ∀ (z i : Nat) (b : AH), i + z = 2 + m2 → 2 ≤ i → Sb (b 36) → E (ub (b 36)) (lay w1 (ea r e) (ea r (e + 2)) m2 (nh m2 sz (hsh g nm sz) att made chg rn fs ln) (tlt (if i = 2 then (fun _ => 0) else if i = 3 then wb (fun _ => 0) 0 1 193 else wb (wb (fun _ => 0) 0 1 193) 32 1 193) nm sz)) → (∀ o, o ≠ 36 → b o = h o) → Go G (pV P) 254 296 [some (vR 34), some (vI e), none, none, none, none, none, none, none, none, none, none, some (vI (2 + (m2 : Int))), none, none, some (vI (i : Int))] [] b := by
    intro z
    induction z with
    | zero =>
      intro i b hi i2 b6 bW ob
      apply q_M_laySet_c296
      rw [wI_id (z := 2 + (m2 : Int)) (by omega) (by omega), wI_id (z := (i : Int)) (by omega) (by omega)]
      refine ⟨fun _ => ?_, fun y => by omega⟩
      have tte : (if i = 2 then (fun _ => 0) else if i = 3 then wb (fun _ => 0) 0 1 193 else wb (wb (fun _ => 0) 0 1 193) 32 1 193) = tt0 m2 := by
        unfold tt0
        rcases mr.1 with y | y
        · rw [if_neg (by omega), if_pos (by omega), if_neg (by omega)]
        · rw [if_neg (by omega), if_neg (by omega), if_pos (by omega)]
      rw [tte] at bW
      have ms := M_seal (G := G) (P := P) (h := b) (w := lay w1 (ea r e) (ea r (e + 2)) m2 (nh m2 sz (hsh g nm sz) att made chg rn fs ln) (tlt (tt0 m2) nm sz)) (r := r) (e := e) (m := 2 + m2) (K := K) b6 bW (fun i hi => by rw [ob 39 (by decide)]; exact hr i hi) rr e0 e2 (by omega) (by omega) kk ?_ (fun c c6 cW oc => H c c6 cW (fun o p => (oc o p).trans (ob o p)))
      · rw [show ((2 + m2 : Nat) : Int) = 2 + (m2 : Int) by omega] at ms
        exact ms
      · rw [rd_lay_h (by omega) (by decide) (by decide)]
        show ((2 + m2 : Nat) : Int) = 1 + (1 + (m2 : Int)) / 256 ^ 0 % 256
        rw [Int.pow_zero, Int.ediv_one]
        omega
    | succ z ih =>
      intro i b hi i2 b6 bW ob
      have ei := er (e + i) (by omega) (by omega)
      apply q_M_laySet_c296
      rw [wI_id (z := 2 + (m2 : Int)) (by omega) (by omega), wI_id (z := (i : Int)) (by omega) (by omega), show (i : Int) + 1 = ((i + 1 : Nat) : Int) by omega]
      refine ⟨fun y => by omega, fun _ => M_entryAt (by omega) (by omega) ?_⟩
      rw [ea_cg (K := K) (r' := r) (fun i hi => by rw [ob 39 (by decide)]; exact hr i hi) (show 0 ≤ e + (i : Int) by omega) (by omega), wI_id (z := ea r (e + i)) (by omega) (by omega), show w8 (-63) = w8 (w8 193) by rfl]
      refine ⟨by omega, ih (i + 1) _ (by omega) (by omega) (Sb_set b6 _ (w8_rng _).1 (w8_rng _).2) ?_ (fun o p => (hs_o _ _ _ _ _ p).trans (ob o p))⟩
      rw [ub_w8, show (((ea r (e + i)).toNat : Nat) : Int) = ea r (e + i) by omega]
      have st := E_wb bW (ea r (e + i)) 1 193
      rcases (show i = 2 ∨ i = 3 by omega) with y | y
      · subst y
        rw [if_pos rfl] at st
        rw [if_neg (show ¬ 2 + 1 = 2 by decide), if_pos rfl, tlt_comm (Or.inl rfl) sz mr.2]
        have x := lay_tl (w := w1) (hd := ea r e) (tl := ea r (e + 2)) (m2 := m2) (V := nh m2 sz (hsh g nm sz) att made chg rn fs ln) (T := tlt (fun _ => 0) nm sz) (o := 0) (v := 193) (n := 1) (by omega) (by omega) ds m22 (by decide) (by omega)
        rw [show ea r (e + 2) + 0 = ea r (e + 2) by omega] at x
        rw [← x]
        exact st
      · subst y
        rw [if_neg (show ¬ 3 = 2 by decide), if_pos rfl] at st
        have y2 : m2 = 2 := (by omega)
        rw [if_neg (show ¬ 3 + 1 = 2 by decide), if_neg (show ¬ 3 + 1 = 3 by decide), tlt_comm (Or.inr rfl) sz mr.2]
        have e3 : ea r (e + ((3 : Nat) : Int)) = ea r (e + 2) + 32 := (t64 y2).1
        rw [e3] at st
        rw [e3, ← lay_tl (w := w1) (hd := ea r e) (tl := ea r (e + 2)) (m2 := m2) (V := nh m2 sz (hsh g nm sz) att made chg rn fs ln) (T := tlt (wb (fun _ => 0) 0 1 193) nm sz) (o := 32) (v := 193) (n := 1) (by omega) (by omega) ds m22 (by decide) (by omega)]
        exact st
  -- letters
  have c242 : ∀ (z i : Nat) (b : AH), i + z = sz → Sb (b 36) → E (ub (b 36)) (lay w1 (ea r e) (ea r (e + 2)) m2 (nh m2 sz (hsh g nm sz) att made chg rn fs ln) (tlt (fun _ => 0) nm i)) → (∀ o, o ≠ 36 → b o = h o) → Go G (pV P) 254 242 [some (vR 34), some (vI e), some (vI (sz : Int)), none, none, none, none, none, none, none, none, none, some (vI (2 + (m2 : Int))), none, none, some (vI (i : Int))] [] b := by
    intro z
    induction z with
    | zero =>
      intro i b hi b6 bW ob
      apply q_M_laySet_c242
      rw [wI_id (z := (sz : Int)) (by omega) (by omega), wI_id (z := (i : Int)) (by omega) (by omega)]
      refine ⟨fun _ => c296 m2 2 b (by omega) (Nat.le_refl _) b6 ?_ ob, fun y => by omega⟩
      rw [if_pos rfl]
      rw [show i = sz by omega] at bW
      exact bW
    | succ z ih =>
      intro i b hi b6 bW ob
      have lr := lof_rng (i := (i : Int)) (by omega) (by omega)
      have rng : lof (i : Int) + 2 ≤ 32 * (m2 : Int) := by rcases mm with z | z <;> omega
      have ni := nmr i (by omega)
      apply q_M_laySet_c242
      rw [wI_id (z := (sz : Int)) (by omega) (by omega), wI_id (z := (i : Int)) (by omega) (by omega), tdiv_pos (by omega), tmod_pos (by omega), show (i : Int) + 1 = ((i + 1 : Nat) : Int) by omega]
      refine ⟨fun y => by omega, fun _ => ⟨by decide, M_entryAt (e := e + 2 + (i : Int) / 15) (by omega) (by omega) ⟨by decide, by omega, ?_⟩⟩⟩
      have ad : ea (b 39) (e + 2 + (i : Int) / 15) + 2 + 2 * ((i : Int) % 15) = ea r (e + 2) + lof (i : Int) := by
        rw [ea_cg (K := K) (r' := r) (fun i hi => by rw [ob 39 (by decide)]; exact hr i hi) (show 0 ≤ e + 2 + (i : Int) / 15 by omega) (by rcases mm with z | z <;> omega)]
        by_cases y : i < 15
        · rw [show e + 2 + (i : Int) / 15 = e + 2 by omega]
          unfold lof
          rw [if_pos (by omega)]
          omega
        · have m2' : m2 = 2 := by rcases mm with z | z <;> omega
          rw [show e + 2 + (i : Int) / 15 = e + 3 by omega, (t64 m2').1]
          unfold lof
          rw [if_neg (by omega)]
          omega
      rw [ad, ob 52 (by decide), show (i : Int).toNat = i by omega, hn i (by omega), wI_id (z := nm i) (by omega) (by omega)]
      refine M_put_36 (n := 2) b6 (by omega) (by omega) (by omega) (by omega) (fun c c6 cu oc => ih (i + 1) c (by omega) c6 ?_ (fun o p => (oc o p).trans (ob o p)))
      rw [cu, tlt, ← lay_tl (by omega) (by omega) ds m22 (by omega) (by omega)]
      exact E_wb bW _ _ _
  -- the head
  have head : ∀ (b : AH), Sb (b 36) → E (ub (b 36)) (lay w1 (ea r e) (ea r (e + 2)) m2 (fun _ => 0) (fun _ => 0)) → (∀ o, o ≠ 36 → b o = h o) → Go G (pV P) 254 56 [some (vR 34), some (vI e), some (vI (sz : Int)), some (vI att), some (vL made), none, some (vL chg), none, some (vL ln), none, some (vI fs), some (vI rn), some (vI (2 + (m2 : Int))), some (vI (2 + (m2 : Int))), none, none] [] b := by
    intro b b6 bW ob
    have hrb : ∀ i, i < K → b 39 i = r i := fun i hi => by rw [ob 39 (by decide)]; exact hr i hi
    apply q_M_laySet_c56
    rw [wI_id (z := 2 + (m2 : Int)) (by omega) (by omega)]
    refine ⟨fun _ => M_entryAt e0 (by omega) ?_, fun y => absurd (Int.le_refl _) y⟩
    rw [ea_cg (K := K) (r' := r) hrb e0 (by omega), wI_id (z := ea r e) (by omega) (by omega), wI_id (z := ea r e + 1) (by omega) (by omega), show w8 (-123) = w8 (w8 133) by rfl]
    refine ⟨by omega, by omega, ?_⟩
    generalize eg : hs (hs b 36 (ea r e).toNat (w8 (w8 133))) 36 (ea r e + 1).toNat (w8 (w8 (2 + (m2 : Int) - 1))) = c
    have c6 : Sb (c 36) := by rw [← eg]; exact Sb_set (Sb_set b6 _ (w8_rng _).1 (w8_rng _).2) _ (w8_rng _).1 (w8_rng _).2
    have oc : ∀ o, o ≠ 36 → c o = h o := fun o p => by rw [← eg, hs_o _ _ _ _ _ p, hs_o _ _ _ _ _ p]; exact ob o p
    have x0 : wb (lay w1 (ea r e) (ea r (e + 2)) m2 (fun _ => 0) (fun _ => 0)) (ea r e) 1 133 = lay w1 (ea r e) (ea r (e + 2)) m2 (wb (fun _ => 0) 0 1 133) (fun _ => 0) := by
      have := lay_hd (w := w1) (hd := ea r e) (tl := ea r (e + 2)) (m2 := m2) (V := fun _ => 0) (T := fun _ => 0) (o := 0) (v := 133) (n := 1) (by omega) (by decide) (by decide)
      rw [show ea r e + 0 = ea r e by omega] at this
      exact this
    have cW : E (ub (c 36)) (lay w1 (ea r e) (ea r (e + 2)) m2 (wb (wb (fun _ => 0) 0 1 133) 1 1 (1 + (m2 : Int))) (fun _ => 0)) := by
      rw [← eg, ub_w8, ub_w8, show (((ea r e + 1).toNat : Nat) : Int) = ea r e + 1 by omega, show (((ea r e).toNat : Nat) : Int) = ea r e by omega, show 2 + (m2 : Int) - 1 = 1 + (m2 : Int) by omega, ← lay_hd (by omega) (by decide) (by decide), ← x0]
      exact E_wb (E_wb bW _ _ _) _ _ _
    clear eg
    rw [wI_id (z := att) (by omega) (by omega)]
    refine M_put_36 (n := 2) c6 (by omega) (by omega) (by omega) (by omega) (fun d1 d16 d1u od1 => ?_)
    have d1W : E (ub (d1 36)) (lay w1 (ea r e) (ea r (e + 2)) m2 (wb (wb (wb (fun _ => 0) 0 1 133) 1 1 (1 + (m2 : Int))) 4 2 att) (fun _ => 0)) := by
      rw [d1u, ← lay_hd (by omega) (by decide) (by decide)]
      exact E_wb cW _ _ _
    refine M_put_36 (n := 4) d16 (by omega) (by omega) (by omega) ma (fun d2 d26 d2u od2 => ?_)
    have d2W : E (ub (d2 36)) (lay w1 (ea r e) (ea r (e + 2)) m2 (wb (wb (wb (wb (fun _ => 0) 0 1 133) 1 1 (1 + (m2 : Int))) 4 2 att) 8 4 made) (fun _ => 0)) := by
      rw [d2u, ← lay_hd (by omega) (by decide) (by decide)]
      exact E_wb d1W _ _ _
    refine M_put_36 (n := 4) d26 (by omega) (by omega) (by omega) cg (fun d3 d36 d3u od3 => ?_)
    have d3W : E (ub (d3 36)) (lay w1 (ea r e) (ea r (e + 2)) m2 (wb (wb (wb (wb (wb (fun _ => 0) 0 1 133) 1 1 (1 + (m2 : Int))) 4 2 att) 8 4 made) 12 4 chg) (fun _ => 0)) := by
      rw [d3u, ← lay_hd (by omega) (by decide) (by decide)]
      exact E_wb d2W _ _ _
    have od : ∀ o, o ≠ 36 → d3 o = h o := fun o p => (od3 o p).trans ((od2 o p).trans ((od1 o p).trans (oc o p)))
    refine M_entryAt (e := e + 1) (by omega) (by omega) ?_
    rw [ea_cg (K := K) (r' := r) (fun i hi => by rw [od 39 (by decide)]; exact hr i hi) (show 0 ≤ e + 1 by omega) (by omega), ea1, wI_id (z := ea r e + 32) (by omega) (by omega), wI_id (z := ea r e + 32 + 3) (by omega) (by omega), show w8 (-64) = w8 (w8 192) by rfl]
    refine ⟨by omega, by omega, ?_⟩
    generalize eg : hs (hs d3 36 (ea r e + 32).toNat (w8 (w8 192))) 36 (ea r e + 32 + 3).toNat (w8 (w8 (sz : Int))) = d4'
    have d46 : Sb (d4' 36) := by rw [← eg]; exact Sb_set (Sb_set d36 _ (w8_rng _).1 (w8_rng _).2) _ (w8_rng _).1 (w8_rng _).2
    have od4 : ∀ o, o ≠ 36 → d4' o = h o := fun o p => by rw [← eg, hs_o _ _ _ _ _ p, hs_o _ _ _ _ _ p]; exact od o p
    have d4W : E (ub (d4' 36)) (lay w1 (ea r e) (ea r (e + 2)) m2 (wb (wb (wb (wb (wb (wb (wb (fun _ => 0) 0 1 133) 1 1 (1 + (m2 : Int))) 4 2 att) 8 4 made) 12 4 chg) 32 1 192) 35 1 sz) (fun _ => 0)) := by
      rw [← eg, ub_w8, ub_w8, show (((ea r e + 32 + 3).toNat : Nat) : Int) = ea r e + 35 by omega, show (((ea r e + 32).toNat : Nat) : Int) = ea r e + 32 by omega, ← lay_hd (by omega) (by decide) (by decide), ← lay_hd (by omega) (by decide) (by decide)]
      exact E_wb (E_wb d3W _ _ _) _ _ _
    clear eg
    refine M_hashOf_52 (by omega) (fun i hi => by rw [od4 52 (by decide), hn i (by omega)]; have := nmr i (by omega); omega) (fun i hi => by rw [od4 38 (by decide), g38 i hi]; exact gg i hi) ?_
    have he : hsh (d4' 38) (d4' 52) ((sz : Int)).toNat = hsh g nm sz := by
      rw [show ((sz : Int)).toNat = sz by omega, od4 38 (by decide), od4 52 (by decide)]
      exact hsh_congr (fun i hi => by rw [hn i hi]; have := nmr i hi; exact ⟨rfl, by omega, by omega⟩) g38
    have hrr := hsh_rng g nm sz
    rw [he, wI_id (z := hsh g nm sz) (by omega) (by omega), show ea r e + 32 + 4 = ea r e + 36 by omega]
    refine M_put_36 (n := 2) d46 (by omega) (by omega) (by omega) (by omega) (fun d5 d56 d5u od5 => ?_)
    have d5W : E (ub (d5 36)) (lay w1 (ea r e) (ea r (e + 2)) m2 (wb (wb (wb (wb (wb (wb (wb (wb (fun _ => 0) 0 1 133) 1 1 (1 + (m2 : Int))) 4 2 att) 8 4 made) 12 4 chg) 32 1 192) 35 1 sz) 36 2 (hsh g nm sz)) (fun _ => 0)) := by
      rw [d5u, ← lay_hd (by omega) (by decide) (by decide)]
      exact E_wb d4W _ _ _
    have zz : ∀ x : Int, (44 ≤ x ∧ x < 48) ∨ (60 ≤ x ∧ x < 64) → rd (wb (wb (wb (wb (wb (wb (wb (wb (fun _ => 0) 0 1 133) 1 1 (1 + (m2 : Int))) 4 2 att) 8 4 made) 12 4 chg) 32 1 192) 35 1 sz) 36 2 (hsh g nm sz)) x = 0 := fun x hx => by
      rw [rd_wb_ne (by omega) (by omega) (by omega), rd_wb_ne (by omega) (by omega) (by omega), rd_wb_ne (by omega) (by omega) (by omega), rd_wb_ne (by omega) (by omega) (by omega), rd_wb_ne (by omega) (by omega) (by omega), rd_wb_ne (by omega) (by omega) (by omega), rd_wb_ne (by omega) (by omega) (by omega), rd_wb_ne (by omega) (by omega) (by omega)]
      rfl
    refine M_wantStream d56 d5W (by omega) (by omega) (fun x x0 x1 => ?_) (fun x x0 x1 => ?_) r01 l0 f0 (fun d6 d66 d6W od6 => ?_)
    · have := rd_lay_h (w := w1) (hd := ea r e) (tl := ea r (e + 2)) (m2 := m2) (V := wb (wb (wb (wb (wb (wb (wb (wb (fun _ => 0) 0 1 133) 1 1 (1 + (m2 : Int))) 4 2 att) 8 4 made) 12 4 chg) 32 1 192) 35 1 sz) 36 2 (hsh g nm sz)) (T := fun _ => 0) (x := x - ea r e) (by omega) (by omega) (by omega)
      rw [show ea r e + (x - ea r e) = x by omega] at this
      rw [this]
      exact zz _ (by omega)
    · have := rd_lay_h (w := w1) (hd := ea r e) (tl := ea r (e + 2)) (m2 := m2) (V := wb (wb (wb (wb (wb (wb (wb (wb (fun _ => 0) 0 1 133) 1 1 (1 + (m2 : Int))) 4 2 att) 8 4 made) 12 4 chg) 32 1 192) 35 1 sz) 36 2 (hsh g nm sz)) (T := fun _ => 0) (x := x - ea r e) (by omega) (by omega) (by omega)
      rw [show ea r e + (x - ea r e) = x by omega] at this
      rw [this]
      exact zz _ (by omega)
    · have k0 := c242 sz 0 d6 (by omega) d66 ?_ (fun o p => (od6 o p).trans ((od5 o p).trans (od4 o p)))
      · exact k0
      · unfold sst at d6W
        rw [lay_hd (by omega) (by decide) (by decide), lay_hd (by omega) (by decide) (by decide), lay_hd (by omega) (by decide) (by decide), lay_hd (by omega) (by decide) (by decide), lay_cg nh_ref (fun _ _ => rfl)] at d6W
        exact d6W
  -- what lay there is emptied
  have c56 : ∀ (z q : Nat) (b : AH), q + z = 2 + m2 → Sb (b 36) → E (ub (b 36)) (bl4 w1 r e q) → (∀ o, o ≠ 36 → b o = h o) → Go G (pV P) 254 56 [some (vR 34), some (vI e), some (vI (sz : Int)), some (vI att), some (vL made), none, some (vL chg), none, some (vL ln), none, some (vI fs), some (vI rn), some (vI (2 + (m2 : Int))), some (vI (q : Int)), none, none] [] b := by
    intro z
    induction z with
    | zero =>
      intro q b hq b6 bW ob
      rw [show (q : Int) = 2 + (m2 : Int) by omega]
      refine head b b6 ?_ ob
      rw [← bl4_lay mr.1 e0 e2 (by omega) (by omega), show 2 + m2 = q by omega]
      exact bW
    | succ z ih =>
      intro q b hq b6 bW ob
      have eq' := er (e + q) (by omega) (by omega)
      have inn : ∀ (d i : Nat) (c : AH), i + d = 32 → Sb (c 36) → E (ub (c 36)) (fil (bl4 w1 r e q) (ea r (e + q)) i 0) → (∀ o, o ≠ 36 → c o = h o) → Go G (pV P) 254 66 [some (vR 34), some (vI e), some (vI (sz : Int)), some (vI att), some (vL made), none, some (vL chg), none, some (vL ln), none, some (vI fs), some (vI rn), some (vI (2 + (m2 : Int))), some (vI (q : Int)), some (vI (i : Int)), none] [] c := by
        intro d
        induction d with
        | zero =>
          intro i c hi c6 cW oc
          apply q_M_laySet_c66
          rw [wI_id (z := (i : Int)) (by omega) (by omega), show (q : Int) + 1 = ((q + 1 : Nat) : Int) by omega]
          refine ⟨fun _ => ih (q + 1) c (by omega) c6 ?_ oc, fun y => by omega⟩
          rw [show i = 32 by omega] at cW
          exact cW
        | succ d id' =>
          intro i c hi c6 cW oc
          apply q_M_laySet_c66
          rw [wI_id (z := (i : Int)) (by omega) (by omega)]
          refine ⟨fun y => by omega, fun _ => M_entryAt (by omega) (by omega) ?_⟩
          rw [ea_cg (K := K) (r' := r) (fun i hi => by rw [oc 39 (by decide)]; exact hr i hi) (show 0 ≤ e + (q : Int) by omega) (by omega), wI_id (z := ea r (e + q) + (i : Int)) (by omega) (by omega), show (i : Int) + 1 = ((i + 1 : Nat) : Int) by omega, show w8 0 = w8 (w8 0) by rfl]
          refine ⟨by omega, id' (i + 1) _ (by omega) (Sb_set c6 _ (w8_rng _).1 (w8_rng _).2) ?_ (fun o p => (hs_o _ _ _ _ _ p).trans (oc o p))⟩
          rw [ub_w8, show (((ea r (e + q) + (i : Int)).toNat : Nat) : Int) = ea r (e + q) + (i : Int) by omega, ← fil_wb (by omega)]
          exact E_wb cW _ _ _
      apply q_M_laySet_c56
      rw [wI_id (z := 2 + (m2 : Int)) (by omega) (by omega), wI_id (z := (q : Int)) (by omega) (by omega)]
      refine ⟨fun y => by omega, fun _ => ?_⟩
      have i0 := inn 32 0 b (by omega) b6 (by rw [fil_0]; exact bW) ob
      exact i0
  -- marks
  have key : ∀ (z q : Nat) (b : AH), q + z = e.toNat → Sb (b 36) → E (ub (b 36)) (mks w r q) → (∀ o, o ≠ 36 → b o = h o) → Go G (pV P) 254 3 [some (vR 34), some (vI e), some (vI (sz : Int)), some (vI att), some (vL made), none, some (vL chg), none, some (vL ln), none, some (vI fs), some (vI rn), some (vI (q : Int)), none, none, none] [] b := by
    intro z
    induction z with
    | zero =>
      intro q b hq b6 bW ob
      apply q_M_laySet_c3
      rw [wI_id (z := e) (by omega) (by omega), wI_id (z := (q : Int)) (by omega) (by omega), wI_id (z := (sz : Int)) (by omega) (by omega)]
      rw [show q = e.toNat by omega, eF] at bW
      refine ⟨fun _ => ⟨fun y => ?_, fun y => ?_⟩, fun y => by omega⟩
      · have c := c56 (2 + m2) 0 b (by omega) b6 bW ob
        rw [show (2 : Int) + (m2 : Int) = 3 by rcases mm with x | x <;> omega] at c
        exact c
      · have c := c56 (2 + m2) 0 b (by omega) b6 bW ob
        rw [show (2 : Int) + (m2 : Int) = 4 by rcases mm with x | x <;> omega] at c
        exact c
    | succ z ih =>
      intro q b hq b6 bW ob
      have eq' := er (q : Int) (by omega) (by omega)
      have byq : By (mks w r q) := bW.by (ub_By _)
      have hv := byq.rd (show 0 ≤ ea r (q : Int) by omega) (show ea r (q : Int) < 13824 by omega)
      have hrb : ∀ i, i < K → b 39 i = r i := fun i hi => by rw [ob 39 (by decide)]; exact hr i hi
      apply q_M_laySet_c3
      rw [wI_id (z := e) (by omega) (by omega), wI_id (z := (q : Int)) (by omega) (by omega), show (q : Int) + 1 = ((q + 1 : Nat) : Int) by omega]
      refine ⟨fun y => by omega, fun _ => M_wantedType (K := K) (r := r) bW hrb rr kk (by omega) (by omega) ?_⟩
      rw [wI_id (z := rd (mks w r q) (ea r (q : Int))) (by omega) (by omega)]
      refine ⟨fun y => ?_, fun y => ?_⟩
      · refine M_wtV (K := K) (r := r) b6 bW hrb rr kk (by omega) (by omega) (fun c c6 cW oc => ih (q + 1) c (by omega) c6 ?_ (fun o p => (oc o p).trans (ob o p)))
        rw [mks, if_pos y]
        exact cW
      · refine M_wantedType (K := K) (r := r) bW hrb rr kk (by omega) (by omega) ?_
        refine M_wtV (K := K) (r := r) b6 bW hrb rr kk (by omega) (by omega) (fun c c6 cW oc => ih (q + 1) c (by omega) c6 ?_ (fun o p => (oc o p).trans (ob o p)))
        rw [mks, if_neg y]
        exact cW.tr (wb_self byq (by omega) (by omega))
  apply q_M_laySet
  have k0 := key e.toNat 0 h (by omega) h6 hW (fun _ _ => rfl)
  exact k0
end ZLA
