/-! read -/
def rb (f r : Nat → Int) (len p : Int) : Int := if p < len then rd f (ca (r (p / 128).toNat) + p % 128) else 0
def qs (f r : Nat → Int) (len a : Int) : Nat → Int
  | 0 => 0
  | m + 1 => qs f r len a m * 256 + rb f r len (a + (7 - (m : Int)))
def rs8 (f r : Nat → Int) (len a : Int) : Nat → Int
  | 0 => 0
  | i + 1 => rs8 f r len a i + rb f r len (a + (i : Int)) * 2 ^ (8 * i)
theorem rs_qs (f r : Nat → Int) (len a : Int) : rs8 f r len a 8 = qs f r len a 8 := by
  simp only [rs8, qs]
  have e0 : a + (7 - ((0 : Nat) : Int)) = a + ((7 : Nat) : Int) := rfl
  have e1 : a + (7 - ((1 : Nat) : Int)) = a + ((6 : Nat) : Int) := rfl
  have e2 : a + (7 - ((2 : Nat) : Int)) = a + ((5 : Nat) : Int) := rfl
  have e3 : a + (7 - ((3 : Nat) : Int)) = a + ((4 : Nat) : Int) := rfl
  have e4 : a + (7 - ((4 : Nat) : Int)) = a + ((3 : Nat) : Int) := rfl
  have e5 : a + (7 - ((5 : Nat) : Int)) = a + ((2 : Nat) : Int) := rfl
  have e6 : a + (7 - ((6 : Nat) : Int)) = a + ((1 : Nat) : Int) := rfl
  have e7 : a + (7 - ((7 : Nat) : Int)) = a + ((0 : Nat) : Int) := rfl
  rw [e0, e1, e2, e3, e4, e5, e6, e7]
  have p0 : (2 : Int) ^ (8 * 0) = 1 := rfl
  have p1 : (2 : Int) ^ (8 * 1) = 256 := rfl
  have p2' : (2 : Int) ^ (8 * 2) = 65536 := rfl
  have p3 : (2 : Int) ^ (8 * 3) = 16777216 := rfl
  have p4 : (2 : Int) ^ (8 * 4) = 4294967296 := rfl
  have p5 : (2 : Int) ^ (8 * 5) = 1099511627776 := rfl
  have p6 : (2 : Int) ^ (8 * 6) = 281474976710656 := rfl
  have p7 : (2 : Int) ^ (8 * 7) = 72057594037927936 := rfl
  rw [p0, p1, p2', p3, p4, p5, p6, p7]
  generalize rb f r len (a + ((0 : Nat) : Int)) = b0
  generalize rb f r len (a + ((1 : Nat) : Int)) = b1
  generalize rb f r len (a + ((2 : Nat) : Int)) = b2
  generalize rb f r len (a + ((3 : Nat) : Int)) = b3
  generalize rb f r len (a + ((4 : Nat) : Int)) = b4
  generalize rb f r len (a + ((5 : Nat) : Int)) = b5
  generalize rb f r len (a + ((6 : Nat) : Int)) = b6
  generalize rb f r len (a + ((7 : Nat) : Int)) = b7
  omega
theorem rs_end {f r : Nat → Int} {len a : Int} : ∀ (d i : Nat), len ≤ a + i → rs8 f r len a (i + d) = rs8 f r len a i
  | 0, _, _ => rfl
  | d + 1, i, h => by
    show rs8 f r len a (i + d) + rb f r len (a + ((i + d : Nat) : Int)) * 2 ^ (8 * (i + d)) = _
    have e : rb f r len (a + ((i + d : Nat) : Int)) = 0 := by unfold rb; rw [if_neg (by omega)]
    rw [e, Int.zero_mul, Int.add_zero]
    exact rs_end d i h
theorem qs_0 {f r : Nat → Int} {len a : Int} (h : len ≤ a) : ∀ m : Nat, m ≤ 8 → qs f r len a m = 0
  | 0, _ => rfl
  | m + 1, hm => by
    have e : rb f r len (a + (7 - (m : Int))) = 0 := by unfold rb; rw [if_neg (by omega)]
    rw [qs, qs_0 h m (by omega), e]
    rfl
section READ
variable {G : GG} {h : AH} {f g : Nat → Int} {n root mp : Int} {t R : AH}
theorem rb_rng (hf : By f) {r : Nat → Int} {K : Nat} {len : Int} (hr : ∀ i, i < K → 2 ≤ r i ∧ r i ≤ 101) (hl : len ≤ 128 * (K : Int)) {p : Int} (p0 : 0 ≤ p) : 0 ≤ rb f r len p ∧ rb f r len p < 256 := by
  unfold rb
  split
  · rename_i c
    have := hr (p / 128).toNat (by omega)
    exact hf.rd (by unfold ca; omega) (by unfold ca; omega)
  · decide
theorem rs_rng (hf : By f) {r : Nat → Int} {K : Nat} {len : Int} (hr : ∀ i, i < K → 2 ≤ r i ∧ r i ≤ 101) (hl : len ≤ 128 * (K : Int)) {a : Int} (a0 : 0 ≤ a) : ∀ i : Nat, 0 ≤ rs8 f r len a i ∧ rs8 f r len a i < 2 ^ (8 * i)
  | 0 => by rw [rs8]; decide
  | i + 1 => by
    have ih := rs_rng hf hr hl a0 i
    have b := rb_rng hf hr hl (p := a + (i : Int)) (by omega)
    have e : (2 : Int) ^ (8 * (i + 1)) = 2 ^ (8 * i) * 256 := by rw [show 8 * (i + 1) = 8 * i + 8 by omega, Int.pow_add]; rfl
    have pz : (0 : Int) < 2 ^ (8 * i) := Int.pow_pos (by decide)
    rw [rs8, e]
    generalize (2 : Int) ^ (8 * i) = P at *
    generalize rb f r len (a + (i : Int)) = B at *
    generalize rs8 f r len a i = S at *
    have h1 : 0 ≤ B * P := Int.mul_nonneg b.1 (by omega)
    have h2 : B * P ≤ 255 * P := Int.mul_le_mul_of_nonneg_right (by omega) (by omega)
    refine ⟨by omega, ?_⟩
    have h3 : P * 256 = 255 * P + P := by omega
    omega
theorem T_octets {P : Int → AH → Prop} {jj : Nat} {x2 : Int} (v : V f g n root mp t R) (h3 : h 3 = f) (h71 : h 7 1 = n) (h72 : h 7 2 = root) (j1 : 1 ≤ jj) (a : al t jj) (hy : in32 x2)
    (H : ∀ b r, (∀ o, o ≠ 15 → o ≠ 16 → b o = h o) → ((0 ≤ x2 ∧ wL r = wL (qs f (R jj) (u4 f (ha (t 1 jj) + 56)) x2 8)) ∨ (x2 < 0 ∧ r = 0)) → P r b) : RunsL G 138 [vR 11, vI (t 1 jj), vI x2] h P := by
  unfold in32 at hy
  have nn := V_n v
  have kn := V_K v a
  have wa := V_at v j1 a
  have ok := V_ln v j1 a
  have l56 := ok.2.2.1.1
  have hf := V_by v
  have u5 := u4_rng hf (show 0 ≤ ha (t 1 jj) + 56 by omega) (show ha (t 1 jj) + 56 + 3 < 13824 by omega)
  have cl := V_cl v j1 a
  have r1 := (v.2.2.1 jj a).1
  unfold rkP at r1
  rw [if_neg (by omega)] at r1
  apply q_T_octets
  apply q_T_headOf
  show RunsI G 88 [vR 10, vI (ha (t 1 jj))] h _
  apply q_E_length
  refine D_get4 (by rw [h3]; exact hf) (by omega) (by omega) ?_
  rw [h3]
  generalize el : u4 f (ha (t 1 jj) + 56) = len at *
  rw [wI_wI, wI_id (z := len) (by omega) (by omega), wI_id (z := x2) (by omega) (by omega)]
  refine ⟨fun z => H h 0 (fun _ _ _ => rfl) (Or.inr ⟨z, rfl⟩), fun z => ⟨fun lt' => ?_, fun ge => H h 0 (fun _ _ _ => rfl) (Or.inl ⟨by omega, by rw [qs_0 (by omega) 8 (Nat.le_refl 8)]⟩)⟩⟩
  refine T_openV_15 v h3 h71 h72 a (fun b ro fr => ?_)
  have b3 : b 3 = f := (fr 3 (by decide) (by decide)).trans h3
  have rr : ∀ i, i < Kt t jj → 2 ≤ R jj i ∧ R jj i ≤ 101 := fun i hi => by
    have := (v.1.2.1 jj a i hi).1
    unfold clu at this
    omega
  have lK : len ≤ 128 * (Kt t jj : Int) := (by omega)
  have fin : ∀ (i : Nat), i ≤ 8 → (i = 8 ∨ len ≤ x2 + i) → ∀ y, wL y = wL (rs8 f (R jj) len x2 i) → P y b := fun i hi e y ey => by
    refine H b y fr (Or.inl ⟨by omega, ?_⟩)
    rw [ey, ← rs_qs]
    rcases e with e | e
    · rw [e]
    · have := rs_end (f := f) (r := R jj) (8 - i) i e
      rw [show i + (8 - i) = 8 by omega] at this
      rw [this]
  have key : ∀ (m i : Nat) (y : Int), i + m = 8 → y = wL (rs8 f (R jj) len x2 i) → Go G (pL P) 138 38 [some (vR 11), none, some (vI x2), some (vI len), some (vL y), none, some (vI (i : Int)), none] [] b := by
    intro m
    induction m with
    | zero =>
      intro i y hm ey
      have ei : i = 8 := (by omega)
      subst ei
      apply q_T_octets_c38
      refine ⟨fun _ => fin 8 (Nat.le_refl 8) (Or.inl rfl) y (by rw [ey]; unfold wL; omega), fun q => absurd (by decide) q⟩
    | succ m ih =>
      intro i y hm ey
      apply q_T_octets_c38
      rw [wI_id (z := (i : Int)) (by omega) (by omega), wI_id (z := len) (by omega) (by omega), wI_id (z := x2 + (i : Int)) (by omega) (by omega)]
      refine ⟨fun q => by omega, fun _ => ⟨fun q => fin i (by omega) (Or.inr q) y (by rw [ey]; unfold wL; omega), fun q => ⟨by decide, ?_⟩⟩⟩
      rw [tdiv_pos (by omega), tmod_pos (by omega)]
      refine C_at_15 ro (by omega) (by omega) ?_
      apply q_S_address
      refine ⟨by decide, ?_⟩
      have cR := rr ((x2 + (i : Int)) / 128).toNat (by omega)
      have ec : 1024 + 128 * (R jj ((x2 + (i : Int)) / 128).toNat - 2) = ca (R jj ((x2 + (i : Int)) / 128).toNat) := rfl
      rw [ec]
      have cr : 1024 ≤ ca (R jj ((x2 + (i : Int)) / 128).toNat) ∧ ca (R jj ((x2 + (i : Int)) / 128).toNat) + 128 ≤ 13824 := by unfold ca; omega
      refine D_get (by omega) (by omega) ?_
      have e : rd (b 3) (ca (R jj ((x2 + (i : Int)) / 128).toNat) + (x2 + (i : Int)) % 128) = rb f (R jj) len (x2 + i) := by rw [b3]; unfold rb; rw [if_pos (by omega)]
      rw [e]
      have bb := rb_rng hf rr lK (p := x2 + (i : Int)) (by omega)
      have rg := rs_rng hf rr lK (a := x2) (by omega) i
      have p63 : (2 : Int) ^ (8 * i) ≤ 72057594037927936 := by
        rcases (show i = 0 ∨ i = 1 ∨ i = 2 ∨ i = 3 ∨ i = 4 ∨ i = 5 ∨ i = 6 ∨ i = 7 by omega) with w | w | w | w | w | w | w | w <;> subst w <;> decide
      rw [wL_id (by omega) (by omega)] at ey
      have sl : sLL (wI (rb f (R jj) len (x2 + i))) (8 * (i : Int)) = rb f (R jj) len (x2 + i) * 2 ^ (8 * i) := by
        unfold sLL
        rw [wI_id (by omega) (by omega), show ((8 * (i : Int)) % 64).toNat = 8 * i by omega]
      have cN : (((2 ^ (8 * i) : Nat)) : Int) = (2 : Int) ^ (8 * i) := by
        rcases (show i = 0 ∨ i = 1 ∨ i = 2 ∨ i = 3 ∨ i = 4 ∨ i = 5 ∨ i = 6 ∨ i = 7 by omega) with w | w | w | w | w | w | w | w <;> subst w <;> rfl
      rw [sl, ey, bOL_add _ _ (8 * i) (by omega) rg.1 (by rw [cN]; exact rg.2) (by rw [cN]; exact ⟨rb f (R jj) len (x2 + i), Int.mul_comm _ _⟩), show (i : Int) + 1 = ((i + 1 : Nat) : Int) by omega]
      exact ih (i + 1) _ (by omega) rfl
  exact key 8 0 0 rfl rfl
theorem T_read (hI : Inv Mo h) {x1 x2 : Int} (hx : in32 x1) (hy : in32 x2) : okL G (Inv Mo) 158 271 [vI x1, vI x2] h := by
  have c01 := hI.1.2.1.2.2.2.2.1
  have e34 := hI.1.2.1.2.2.2.1
  rcases c01 with h8 | h8
  · exact O_read hI h8
  obtain ⟨t, R, v, hd, X, gr, m2⟩ := Mo_get hI h8
  have hy' := hy
  unfold in32 at hy'
  have nn := V_n v
  have hf := V_by v
  apply q_V_read
  rw [h8]
  refine ⟨fun z => absurd z (by decide), fun _ => ?_⟩
  have ref : ∀ (b : AH) (r : Int), FQ h b → ((∀ jj, al t jj → t 1 jj = x1 → dirT (h 3) t jj) ∧ r = 0 ∨ ∃ jj, 1 ≤ jj ∧ al t jj ∧ t 1 jj = x1 ∧ ¬ dirT (h 3) t jj ∧ ((0 ≤ x2 ∧ wL r = wL (qs (h 3) (R jj) (u4 (h 3) (ha x1 + 56)) x2 8)) ∨ (x2 < 0 ∧ r = 0))) → RunsL G 271 [vR 34, vI x1, vI x2] b (fun r2 h2 => wL r = wL r2 ∧ Inv Mo h2) := by
    intro b r fq cs
    apply q_M_read
    rw [fq.2 3 (by omega), ← e34, h8]
    refine ⟨fun z => absurd z (by decide), fun _ => ?_⟩
    refine M_fileAt v (RX_Q fq X) hx (fun b2 z k jj Z hk a e ez k2 k0 dd fr => ?_) (fun b2 no fr => ?_)
    · have fq2 := fq.tr (FQ_n fr)
      have j1 : 1 ≤ jj := by
        by_cases q : jj = 0
        · exact absurd (Or.inl q) dd
        · omega
      have cs' : (0 ≤ x2 ∧ wL r = wL (qs (h 3) (R jj) (u4 (h 3) (ha x1 + 56)) x2 8)) ∨ (x2 < 0 ∧ r = 0) := by
        rcases cs with ⟨no, _⟩ | ⟨j2, _, a2, e2, _, cs⟩
        · exact absurd (no jj a e) dd
        · have : j2 = jj := V_inj v a2 a (e2.trans e.symm)
          subst this
          exact cs
      apply q_M_read_c17
      rw [wI_id (z := (k : Int)) (by omega) (by omega), wI_id (z := x2) (by omega) (by omega)]
      refine ⟨fun q => by omega, fun _ => ⟨fun p0 => ?_, fun p0 => ⟨?_, Inv_Q hI fq2⟩⟩⟩
      · rcases cs' with ⟨_, rv⟩ | ⟨q, _⟩
        · obtain ⟨kp, p42, pk, pp, p43, p44, p46, p47, p48, p49, _⟩ := ZR_par v Z hk a (by rw [e, ez]) (by omega)
          have kn := V_K v a
          have wa := V_at v j1 a
          have l56 := (V_ln v j1 a).2.2.1.1
          have r1 := (v.2.2.1 jj a).1
          have cl := V_cl v j1 a
          unfold rkP at r1
          rw [if_neg (by omega)] at r1
          rw [e] at p47 wa l56 r1
          have u5 := u4_rng hf (show 0 ≤ ha x1 + 56 by omega) (show ha x1 + 56 + 3 < 13824 by omega)
          refine M_rowZ v (RX_Q fq2 X) Z hk a (by rw [e, ez]) (fun b3 rm k3 o3 => ?_)
          have fq3 := fq2.tr (FQ_17 k3 o3)
          have X3 := RX_Q fq3 X
          have IV := Inv_Q hI fq3
          generalize el : u4 (h 3) (ha x1 + 56) = len at *
          have b47 : b3 47 k = len := by rw [o3 47 (by decide) (by decide)]; exact p47
          have rr : ∀ i, i < Kt t jj → 2 ≤ R jj i ∧ R jj i ≤ 101 := fun i hi => by
            have := (v.1.2.1 jj a i hi).1
            unfold clu at this
            omega
          have lK : len ≤ 128 * (Kt t jj : Int) := (by omega)
          have key : ∀ (m : Nat) (y : Int), m ≤ 8 → y = wL (qs (h 3) (R jj) len x2 m) → Go G (pL (fun r2 h2 => wL r = wL r2 ∧ Inv Mo h2)) 271 42 [some (vR 34), none, some (vI x2), some (vI (k : Int)), some (vL y), none, some (vI (7 - (m : Int))), none, none] [] b3 := by
            suffices hh : ∀ (d m : Nat) (y : Int), m + d = 8 → y = wL (qs (h 3) (R jj) len x2 m) → Go G (pL (fun r2 h2 => wL r = wL r2 ∧ Inv Mo h2)) 271 42 [some (vR 34), none, some (vI x2), some (vI (k : Int)), some (vL y), none, some (vI (7 - (m : Int))), none, none] [] b3 from fun m y hm ey => hh (8 - m) m y (by omega) ey
            intro d
            induction d with
            | zero =>
              intro m y hm ey
              have em : m = 8 := (by omega)
              subst em
              apply q_M_read_c42
              refine ⟨fun _ => ⟨?_, IV⟩, fun q => absurd (by decide) q⟩
              rw [rv, ey]
              unfold wL
              omega
            | succ d ih =>
              intro m y hm ey
              apply q_M_read_c42
              rw [wI_id (z := 7 - (m : Int)) (by omega) (by omega), wI_id (z := (k : Int)) (by omega) (by omega), show (k : Int).toNat = k by omega, b47, wI_id (z := x2) (by omega) (by omega), wL_id (z := len) (by omega) (by omega), wL_id (z := x2 + (7 - (m : Int))) (by omega) (by omega)]
              refine ⟨fun q => by omega, fun _ => ⟨by omega, fun q => ?_, fun q => ⟨by decide, ?_⟩⟩⟩
              · have nx := ih (m + 1) (bOL (sLL y 8) 0) (by omega) ?_
                · rw [show 7 - (m : Int) + (-1) = 7 - ((m + 1 : Nat) : Int) by omega]
                  exact nx
                · have e : rb (h 3) (R jj) len (x2 + (7 - (m : Int))) = 0 := by unfold rb; rw [if_neg (by omega)]
                  rw [bOL_comm, bOL_add 0 (sLL y 8) 8 (by omega) (by omega) (by decide) ⟨y, by unfold sLL; rw [Int.mul_comm]; rfl⟩, qs, e, ey]
                  have sl : sLL (wL (qs (h 3) (R jj) len x2 m)) 8 = wL (qs (h 3) (R jj) len x2 m) * 256 := rfl
                  rw [sl]
                  unfold wL
                  omega
              · have q' : x2 + (7 - (m : Int)) < len := (by omega)
                rw [tdiv_pos (by omega), tmod_pos (by omega), wI_id (z := (x2 + (7 - (m : Int))) / 128) (by omega) (by omega), rm.2.2 _ (by omega)]
                refine ⟨by omega, ?_⟩
                apply q_M_clusterAt
                have cR := rr ((x2 + (7 - (m : Int))) / 128).toNat (by omega)
                have ec : 1024 + 128 * (R jj ((x2 + (7 - (m : Int))) / 128).toNat - 2) = ca (R jj ((x2 + (7 - (m : Int))) / 128).toNat) := rfl
                rw [ec]
                have cr : 1024 ≤ ca (R jj ((x2 + (7 - (m : Int))) / 128).toNat) ∧ ca (R jj ((x2 + (7 - (m : Int))) / 128).toNat) + 128 ≤ 13824 := by unfold ca; omega
                rw [wI_id (z := ca (R jj ((x2 + (7 - (m : Int))) / 128).toNat) + (x2 + (7 - (m : Int))) % 128) (by omega) (by omega)]
                refine ⟨by decide, by omega, ?_⟩
                rw [oct X3.2.1 (by omega) (by omega)]
                have bb := rb_rng hf rr lK (p := x2 + (7 - (m : Int))) (by omega)
                have e : rd (h 3) (ca (R jj ((x2 + (7 - (m : Int))) / 128).toNat) + (x2 + (7 - (m : Int))) % 128) = rb (h 3) (R jj) len (x2 + (7 - (m : Int))) := by unfold rb; rw [if_pos q']
                rw [e, wI_id (z := rb (h 3) (R jj) len (x2 + (7 - (m : Int)))) (by omega) (by omega)]
                have nx := ih (m + 1) (bOL (sLL y 8) (rb (h 3) (R jj) len (x2 + (7 - (m : Int))))) (by omega) ?_
                · rw [show 7 - (m : Int) + (-1) = 7 - ((m + 1 : Nat) : Int) by omega]
                  exact nx
                · rw [bOL_comm, bOL_add _ (sLL y 8) 8 (by omega) bb.1 bb.2 ⟨y, by unfold sLL; rw [Int.mul_comm]; rfl⟩, qs, ey]
                  have sl : sLL (wL (qs (h 3) (R jj) len x2 m)) 8 = wL (qs (h 3) (R jj) len x2 m) * 256 := rfl
                  rw [sl]
                  generalize rb (h 3) (R jj) len (x2 + (7 - (m : Int))) = B at *
                  unfold wL
                  omega
          exact key 0 0 (by omega) rfl
        · omega
      · rcases cs' with ⟨q, _⟩ | ⟨_, rv⟩
        · omega
        · rw [rv]
    · apply q_M_read_c17
      refine ⟨fun _ => ⟨?_, Inv_Q hI (fq.tr (FQ_n fr))⟩, fun q => absurd (by decide) q⟩
      rcases cs with ⟨_, q⟩ | ⟨j2, _, a2, e2, d2, _⟩
      · rw [q]
      · exact absurd (no j2 a2 e2) d2
  refine T_isFile v rfl rfl hd hx (fun jj j1 a d e => ⟨fun z => absurd z (by decide), fun _ => ?_⟩) (fun no => ⟨fun _ => ref h 0 (FQ.rf h) (Or.inl ⟨no, rfl⟩), fun z => absurd wI_0 z⟩)
  rw [← e]
  refine T_octets v rfl rfl rfl j1 a hy (fun b r fr cs => ?_)
  rw [e] at cs ⊢
  exact ref b r (FQ_15 fr) (Or.inr ⟨jj, j1, a, e, d, cs⟩)
end READ
