/-! acts: bits, streams, plans -/
theorem or_bit : ∀ v, v < 256 → ∀ i, i < 8 → ∀ j, j < 8 → ((v ||| 2 ^ j) % 256) / 2 ^ i % 2 = if i = j then 1 else v / 2 ^ i % 2 := by decide +kernel
theorem and_bit : ∀ v, v < 256 → ∀ i, i < 8 → ∀ j, j < 8 → ((v &&& (255 - 2 ^ j)) % 256) / 2 ^ i % 2 = if i = j then 0 else v / 2 ^ i % 2 := by decide +kernel
theorem p2_n {y : Int} (h0 : 0 ≤ y) (h1 : y < 8) : p2 y = ((2 ^ y.toNat : Nat) : Int) := by
  rcases (show y = 0 ∨ y = 1 ∨ y = 2 ∨ y = 3 ∨ y = 4 ∨ y = 5 ∨ y = 6 ∨ y = 7 by omega) with z | z | z | z | z | z | z | z <;> rw [z] <;> rfl
theorem sLI_n {y : Int} (h0 : 0 ≤ y) (h1 : y < 8) : (sLI 1 y % 256).toNat = 2 ^ y.toNat := by
  rcases (show y = 0 ∨ y = 1 ∨ y = 2 ∨ y = 3 ∨ y = 4 ∨ y = 5 ∨ y = 6 ∨ y = 7 by omega) with z | z | z | z | z | z | z | z <;> rw [z] <;> rfl
theorem sXI_n {y : Int} (h0 : 0 ≤ y) (h1 : y < 8) : (bX (sLI 1 y) (-1) % 256).toNat = 255 - 2 ^ y.toNat := by
  rcases (show y = 0 ∨ y = 1 ∨ y = 2 ∨ y = 3 ∨ y = 4 ∨ y = 5 ∨ y = 6 ∨ y = 7 by omega) with z | z | z | z | z | z | z | z <;> rw [z] <;> decide
noncomputable def bs (w : Nat → Int) (mp c b : Int) : Nat → Int := wb w (ca mp + (c - 2) / 8) 1 (if b = 0 then bA (rd w (ca mp + (c - 2) / 8)) (bX (sLI 1 ((c - 2) % 8)) (-1)) else bO (rd w (ca mp + (c - 2) / 8)) (sLI 1 ((c - 2) % 8)))
theorem bs_ne {w : Nat → Int} {mp c b x : Int} (m : 2 ≤ mp) (hc : 2 ≤ c) (x0 : 0 ≤ x) (h : x ≠ ca mp + (c - 2) / 8) : rd (bs w mp c b) x = rd w x := by
  unfold bs
  exact rd_wb_ne (by unfold ca; omega) x0 (by omega)
theorem tb_bs {w : Nat → Int} {mp c c' b : Int} (hw : By w) (m : 2 ≤ mp ∧ mp ≤ 101) (hc : 2 ≤ c ∧ c ≤ 101) (hc' : 2 ≤ c' ∧ c' ≤ 101) (b01 : b = 0 ∨ b = 1) : tb (bs w mp c b) mp c' = if c' = c then b else tb w mp c' := by
  have a0 : 0 ≤ ca mp + (c - 2) / 8 := by unfold ca; omega
  unfold tb
  by_cases e : (c' - 2) / 8 = (c - 2) / 8
  · rw [e]
    have hb := hw.rd a0 (by unfold ca; omega)
    have i0 : ((c' - 2) % 8).toNat < 8 := (by omega)
    have j0 : ((c - 2) % 8).toNat < 8 := (by omega)
    have vN : (rd w (ca mp + (c - 2) / 8)).toNat < 256 := (by omega)
    have key : rd (bs w mp c b) (ca mp + (c - 2) / 8) / p2 ((c' - 2) % 8) % 2 = if ((c' - 2) % 8).toNat = ((c - 2) % 8).toNat then b else rd w (ca mp + (c - 2) / 8) / p2 ((c' - 2) % 8) % 2 := by
      unfold bs
      rw [rd_wb a0 a0, if_pos (by omega), show (ca mp + (c - 2) / 8 - (ca mp + (c - 2) / 8)).toNat = 0 by omega, Int.pow_zero, Int.ediv_one, p2_n (by omega) (by omega)]
      have ev : rd w (ca mp + (c - 2) / 8) = (((rd w (ca mp + (c - 2) / 8)).toNat : Nat) : Int) := (by omega)
      rcases b01 with z | z
      · rw [z, if_pos rfl, bA_mod, sXI_n (by omega) (by omega), show (rd w (ca mp + (c - 2) / 8) % 256).toNat = (rd w (ca mp + (c - 2) / 8)).toNat by omega]
        have k := and_bit _ vN _ i0 _ j0
        rw [Nat.mod_eq_of_lt (Nat.lt_of_le_of_lt Nat.and_le_left vN)] at k
        rw [ev, Int.toNat_natCast]
        have k' : ((((rd w (ca mp + (c - 2) / 8)).toNat &&& (255 - 2 ^ ((c - 2) % 8).toNat) : Nat) : Int)) / ((2 ^ ((c' - 2) % 8).toNat : Nat) : Int) % 2 = ((((rd w (ca mp + (c - 2) / 8)).toNat &&& (255 - 2 ^ ((c - 2) % 8).toNat)) / 2 ^ ((c' - 2) % 8).toNat % 2 : Nat) : Int) := rfl
        rw [k', k]
        split
        · rfl
        · rfl
      · rw [z, if_neg (by decide), bO_mod, sLI_n (by omega) (by omega), show (rd w (ca mp + (c - 2) / 8) % 256).toNat = (rd w (ca mp + (c - 2) / 8)).toNat by omega]
        have k := or_bit _ vN _ i0 _ j0
        have lt' : (rd w (ca mp + (c - 2) / 8)).toNat ||| 2 ^ ((c - 2) % 8).toNat < 256 := Nat.or_lt_two_pow (n := 8) vN (Nat.pow_lt_pow_right (by decide) j0)
        rw [Nat.mod_eq_of_lt lt'] at k
        rw [ev, Int.toNat_natCast]
        have k' : ((((rd w (ca mp + (c - 2) / 8)).toNat ||| 2 ^ ((c - 2) % 8).toNat : Nat) : Int)) / ((2 ^ ((c' - 2) % 8).toNat : Nat) : Int) % 2 = ((((rd w (ca mp + (c - 2) / 8)).toNat ||| 2 ^ ((c - 2) % 8).toNat) / 2 ^ ((c' - 2) % 8).toNat % 2 : Nat) : Int) := rfl
        rw [k', k]
        split
        · rfl
        · rfl
    rw [key]
    by_cases z : c' = c
    · rw [if_pos (by omega), if_pos z]
    · rw [if_neg (by omega), if_neg z]
  · rw [bs_ne m.1 hc.1 (by unfold ca; omega) (by omega), if_neg (by omega)]
section ACTS
variable {G : GG} {h : AH}
theorem S_setTaken {P : AH → Prop} {c b : Int} (hd : Dk h) (hn : 16 ≤ h 7 1 ∧ h 7 1 ≤ 100) (hm : 2 ≤ h 7 3 ∧ h 7 3 ≤ 101) (hc : clu (h 7 1) c) (b01 : b = 0 ∨ b = 1) (H : ∀ h', Upd h h' (bs (h 3) (h 7 3) c b) → P h') : RunsV G 114 [vR 7, vI c, vI b] h P := by
  have hc' := hc
  unfold clu at hc'
  apply q_S_setTaken
  refine S_isCluster hn (by omega) (fun _ => ⟨fun z => absurd z (by decide), fun _ => ?_⟩) (fun k => absurd hc k)
  apply q_S_address
  have ec : 1024 + 128 * (h 7 3 - 2) = ca (h 7 3) := rfl
  have cr : 1024 ≤ ca (h 7 3) ∧ ca (h 7 3) + 128 ≤ 13824 := by unfold ca; omega
  rw [ec, wI_id (z := c - 2) (by omega) (by omega), tdiv_pos (by omega), tmod_pos (by omega)]
  refine ⟨by decide, by decide, ?_⟩
  unfold bs at H
  rcases b01 with z | z
  · rw [z] at H ⊢
    rw [if_pos rfl] at H
    exact ⟨fun _ => D_get (by omega) (by omega) (D_wb1 hd (by omega) (by omega) H), fun y => absurd wI_0 y⟩
  · rw [z] at H ⊢
    rw [if_neg (by decide)] at H
    exact ⟨fun y => absurd y (by decide), fun _ => D_get (by omega) (by omega) (D_wb1 hd (by omega) (by omega) H)⟩
theorem M_wantBit {P : AH → Prop} {w : Nat → Int} {c b : Int} (h6 : Sb (h 36)) (hW : E (ub (h 36)) w) (hm : 2 ≤ h 34 2 ∧ h 34 2 ≤ 101) (hc : 2 ≤ c ∧ c ≤ 101) (b01 : b = 0 ∨ b = 1) (H : ∀ h', Sb (h' 36) → E (ub (h' 36)) (bs w (h 34 2) c b) → (∀ o, o ≠ 36 → h' o = h o) → P h') : RunsV G 174 [vR 34, vI c, vI b] h P := by
  have hw : By w := hW.by (ub_By _)
  have cr : 1024 ≤ ca (h 34 2) ∧ ca (h 34 2) + 128 ≤ 13824 := by unfold ca; omega
  apply q_M_wantBit
  apply q_M_clusterAt
  have ec : 1024 + 128 * (h 34 2 - 2) = ca (h 34 2) := rfl
  rw [ec, wI_id (z := c - 2) (by omega) (by omega), tdiv_pos (by omega), tmod_pos (by omega), wI_id (z := ca (h 34 2) + (c - 2) / 8) (by omega) (by omega)]
  refine ⟨by decide, by decide, ?_⟩
  have q := hW (ca (h 34 2) + (c - 2) / 8).toNat (by omega)
  have hb := hw (ca (h 34 2) + (c - 2) / 8).toNat (by omega)
  unfold ub at q
  have em : h 36 (ca (h 34 2) + (c - 2) / 8).toNat % 256 = rd w (ca (h 34 2) + (c - 2) / 8) % 256 := by
    rw [q]
    show w _ = w _ % 256
    omega
  have fin : ∀ v v', v % 256 = v' % 256 → bs w (h 34 2) c b = wb w (ca (h 34 2) + (c - 2) / 8) 1 v' → P (hs h 36 (ca (h 34 2) + (c - 2) / 8).toNat (w8 (w8 v))) := by
    intro v v' ev eb
    refine H _ (Sb_set h6 _ (w8_rng _).1 (w8_rng _).2) ?_ (fun o p => hs_o _ _ _ _ _ p)
    rw [ub_w8, show (((ca (h 34 2) + (c - 2) / 8).toNat : Nat) : Int) = ca (h 34 2) + (c - 2) / 8 by omega, wb1_mod' ev, eb]
    exact E_wb hW _ _ _
  rcases b01 with z | z
  · rw [z] at fin ⊢
    exact ⟨fun _ => ⟨by omega, by omega, fin _ _ (bA_mod_congr _ em) (by unfold bs; rw [if_pos rfl])⟩, fun y => absurd wI_0 y⟩
  · rw [z] at fin ⊢
    exact ⟨fun y => absurd y (by decide), fun _ => ⟨by omega, by omega, fin _ _ (bO_mod_congr _ em) (by unfold bs; rw [if_neg (by decide)])⟩⟩
/-- a stream is told anew -/
def sst (w : Nat → Int) (hd rn fs ln : Int) : Nat → Int := wb (wb (wb (wb w (hd + 33) 1 (if rn = 0 then 1 else 3)) (hd + 40) 4 ln) (hd + 52) 4 fs) (hd + 56) 4 ln
noncomputable def rly (w : Nat → Int) (hd tl rn fs ln tm : Int) : Nat → Int := sl (wb (sst w hd rn fs ln) (hd + 12) 4 tm) hd tl
theorem E_setStream {P : AH → Prop} {x rn fs ln : Int} (hd : Dk h) (x0 : 0 ≤ x) (x1 : x + 64 ≤ 13824) (r01 : rn = 0 ∨ rn = 1) (H : ∀ h', Upd h h' (sst (h 3) x rn fs ln) → P h') : RunsV G 104 [vR 10, vI x, vI rn, vI fs, vI ln] h P := by
  have go : ∀ v, v = (if rn = 0 then 1 else 3) → Go G (pV P) 104 17 [some (vR 10), some (vI x), none, some (vI fs), some (vI ln)] [vI v, vI (x + 33), vR 1] h := by
    intro v ev
    apply q_E_setStream_c17
    refine D_wb1 hd (by omega) (by omega) (fun b1 u1 => D_wb4 u1.1 (by omega) (by omega) (fun b2 u2 => D_wb4 u2.1 (by omega) (by omega) (fun b3 u3 => D_wb4 u3.1 (by omega) (by omega) (fun b4 u4 => H b4 ?_))))
    rw [u3.2.1, u2.2.1, u1.2.1, ev] at u4
    exact ((u1.trans u2).trans u3).trans u4
  apply q_E_setStream
  rcases r01 with z | z
  · rw [z] at go ⊢
    exact ⟨fun _ => go 1 rfl, fun y => absurd wI_0 y⟩
  · rw [z] at go ⊢
    exact ⟨fun y => absurd y (by decide), fun _ => go 3 rfl⟩
theorem A_relay {P : Int → AH → Prop} {f g : Nat → Int} {n root mp : Int} {t R : AH} {jj : Nat} {rn fs ln : Int} (v : V f g n root mp t R) (hdd : Hd f t R h) (sy : Dk h) (hf : 0 ≤ h 1 3 ∧ h 1 3 ≤ 1000) (q1 : 1 ≤ jj) (q : al t jj) (r01 : rn = 0 ∨ rn = 1) (hk : 1 ≤ rd (h 3) (ha (t 1 jj) + 1) ∧ rd (h 3) (ha (t 1 jj) + 1) ≤ 3)
    (H : ∀ r h', Fl 216 (h 2) (rly (h 3) (ha (t 1 jj)) (ea (R (pt t jj)) (t 3 jj + 2)) rn fs ln (h 26 5)) (h 1 3) (h 1 4) r (h' 2) (h' 1 3) (h' 1 4) → (r = 0 ∨ r = 1) → Syn h' → (r = 1 → h' 3 = rly (h 3) (ha (t 1 jj)) (ea (R (pt t jj)) (t 3 jj + 2)) rn fs ln (h 26 5)) → (∀ o, o ≠ 1 → o ≠ 2 → o ≠ 3 → o ≠ 4 → h' o = h o) → P r h') : RunsI G 11 [vR 26, vI (t 1 jj), vI rn, vI fs, vI ln] h P := by
  have wa := V_at v q1 q
  have tl := V_tl v q1 q
  have wp := v.1.2.2.2.1 jj q1 q
  have ct := (v.1.2.1 _ wp.1 _ tl.2.2.1).1
  have nn := V_n v
  unfold clu at ct
  have tr : 1024 ≤ ea (R (pt t jj)) (t 3 jj + 2) ∧ ea (R (pt t jj)) (t 3 jj + 2) + 64 ≤ 13824 := by unfold ca at tl; omega
  apply q_A_relay
  apply q_T_headOf
  show RunsV G 104 [vR 10, vI (ha (t 1 jj)), vI rn, vI fs, vI ln] h _
  refine E_setStream sy wa.1 wa.2.1 r01 (fun b1 u1 => ?_)
  show RunsV G 103 [vR 10, vI (ha (t 1 jj)), vI (b1 26 5)] b1 _
  apply q_E_setChanged
  rw [u1.2.2 26 (by decide) (by decide)]
  refine D_wb4 u1.1 (by omega) (by omega) (fun b2 u2 => ?_)
  rw [u1.2.1] at u2
  have hd2 : Hd f t R b2 := by
    unfold Hd at hdd ⊢
    rw [u2.2.2 12 (by decide) (by decide), u2.2.2 13 (by decide) (by decide), u1.2.2 12 (by decide) (by decide), u1.2.2 13 (by decide) (by decide)]
    exact hdd
  refine T_tailOf v hd2 q1 q ?_
  have e1 : rd (b2 3) (ha (t 1 jj) + 1) = rd (h 3) (ha (t 1 jj) + 1) := by
    rw [u2.2.1, rd_wb_ne (by omega) (by omega) (by omega)]
    unfold sst
    rw [rd_wb_ne (by omega) (by omega) (by omega), rd_wb_ne (by omega) (by omega) (by omega), rd_wb_ne (by omega) (by omega) (by omega), rd_wb_ne (by omega) (by omega) (by omega)]
  show RunsV G 106 [vR 10, vI (ha (t 1 jj)), vI (ea (R (pt t jj)) (t 3 jj + 2))] b2 _
  refine E_seal u2.1 wa.1 wa.2.1 (by rw [e1]; exact hk) (by omega) (by omega) (fun b3 u3 => ?_)
  rw [u2.2.1] at u3
  have U := (u1.trans u2).trans u3
  have c1 : b3 1 = h 1 := U.2.2 1 (by decide) (by decide)
  have c2 : b3 2 = h 2 := U.2.2 2 (by decide) (by decide)
  refine D_flush U.1 (by rw [c1]; exact hf) (fun r d fl r01 syd e3 kd od => ⟨r01, H r d ?_ r01 syd (fun z => (e3 z).trans U.2.1) (fun o p q r s => (od o p q r s).trans (U.2.2 o r s))⟩)
  rw [c1, c2, U.2.1] at fl
  exact fl
theorem M_noPlans {P : AH → Prop} (H : ∀ h', (∀ k, k < 2 → h' 54 k = 0 ∧ h' 56 k = 0 ∧ h' 57 k = 0 ∧ h' 58 k = 0) → (∀ c, c < 102 → h' 59 c = 0) → (∀ o, ¬ (o = 54 ∨ (56 ≤ o ∧ o ≤ 59)) → h' o = h o) → P h') : RunsV G 239 [vR 34] h P := by
  apply q_M_noPlans
  have l2 : ∀ (m p : Nat) (b : AH), p + m = 2 → (∀ k, k < p → b 54 k = 0 ∧ b 56 k = 0 ∧ b 57 k = 0 ∧ b 58 k = 0) → (∀ c, c < 102 → b 59 c = 0) → (∀ o, ¬ (o = 54 ∨ (56 ≤ o ∧ o ≤ 59)) → b o = h o) → Go G (pV P) 239 23 [some (vR 34), some (vI (p : Int))] [] b := by
    intro m
    induction m with
    | zero =>
      intro p b hm a1 a2 ob
      apply q_M_noPlans_c23
      rw [wI_id (z := (p : Int)) (by omega) (by omega)]
      exact ⟨fun _ => H b (fun k hk => a1 k (by omega)) a2 ob, fun z => by omega⟩
    | succ m ih =>
      intro p b hm a1 a2 ob
      apply q_M_noPlans_c23
      rw [wI_id (z := (p : Int)) (by omega) (by omega), show (p : Int).toNat = p by omega, show (p : Int) + 1 = ((p + 1 : Nat) : Int) by omega]
      refine ⟨fun z => by omega, fun _ => ⟨by omega, by omega, by omega, Or.inl rfl, by omega, Or.inl rfl, ih (p + 1) _ (by omega) (fun k hk => ?_) (fun c hc => ?_) (fun o p' => ?_)⟩⟩
      · by_cases z : k = p
        · subst z
          refine ⟨?_, ?_, ?_, ?_⟩
          · rw [hs_o _ _ _ _ _ (by decide), hs_o _ _ _ _ _ (by decide), hs_o _ _ _ _ _ (by decide), hs_same]
          · rw [hs_o _ _ _ _ _ (by decide), hs_o _ _ _ _ _ (by decide), hs_same]
          · rw [hs_o _ _ _ _ _ (by decide), hs_same]
          · rw [hs_same]
        · have := a1 k (by omega)
          refine ⟨?_, ?_, ?_, ?_⟩
          · rw [hs_o _ _ _ _ _ (by decide), hs_o _ _ _ _ _ (by decide), hs_o _ _ _ _ _ (by decide), hs_k _ _ _ _ _ z]; exact this.1
          · rw [hs_o _ _ _ _ _ (by decide), hs_o _ _ _ _ _ (by decide), hs_k _ _ _ _ _ z, hs_o _ _ _ _ _ (by decide)]; exact this.2.1
          · rw [hs_o _ _ _ _ _ (by decide), hs_k _ _ _ _ _ z, hs_o _ _ _ _ _ (by decide), hs_o _ _ _ _ _ (by decide)]; exact this.2.2.1
          · rw [hs_k _ _ _ _ _ z, hs_o _ _ _ _ _ (by decide), hs_o _ _ _ _ _ (by decide), hs_o _ _ _ _ _ (by decide)]; exact this.2.2.2
      · rw [hs_o _ _ _ _ _ (by decide), hs_o _ _ _ _ _ (by decide), hs_o _ _ _ _ _ (by decide), hs_o _ _ _ _ _ (by decide)]; exact a2 c hc
      · rw [hs_o _ _ _ _ _ (by omega), hs_o _ _ _ _ _ (by omega), hs_o _ _ _ _ _ (by omega), hs_o _ _ _ _ _ (by omega)]; exact ob o p'
  have l1 : ∀ (m c : Nat) (b : AH), c + m = 102 → (∀ k, k < c → b 59 k = 0) → (∀ o, o ≠ 59 → b o = h o) → Go G (pV P) 239 2 [some (vR 34), some (vI (c : Int))] [] b := by
    intro m
    induction m with
    | zero =>
      intro c b hm a2 ob
      apply q_M_noPlans_c2
      rw [wI_id (z := (c : Int)) (by omega) (by omega)]
      exact ⟨fun _ => l2 2 0 b rfl (fun k hk => by omega) (fun k hk => a2 k (by omega)) (fun o p => ob o (by omega)), fun z => by omega⟩
    | succ m ih =>
      intro c b hm a2 ob
      apply q_M_noPlans_c2
      rw [wI_id (z := (c : Int)) (by omega) (by omega), show (c : Int).toNat = c by omega, show (c : Int) + 1 = ((c + 1 : Nat) : Int) by omega]
      refine ⟨fun z => by omega, fun _ => ⟨by omega, Or.inl rfl, ih (c + 1) _ (by omega) (fun k hk => ?_) (fun o p => by rw [hs_o _ _ _ _ _ p]; exact ob o p)⟩⟩
      by_cases z : k = c
      · rw [z, hs_same]
      · rw [hs_k _ _ _ _ _ z]; exact a2 k (by omega)
  exact l1 102 0 h rfl (fun k hk => by omega) (fun _ _ => rfl)
end ACTS
