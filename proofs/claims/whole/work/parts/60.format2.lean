/-! format, whole -/
def AllLt (p : Nat → Prop) : Nat → Prop
  | 0 => True
  | n + 1 => AllLt p n ∧ p n
theorem AllLt_get {p : Nat → Prop} : ∀ {n : Nat}, AllLt p n → ∀ k, k < n → p k
  | 0, _, k, hk => absurd hk (Nat.not_lt_zero k)
  | n + 1, h, k, hk => by
    by_cases e : k = n
    · rw [e]; exact h.2
    · exact AllLt_get h.1 k (by omega)
def lb2 (n ser : Int) : Nat → Int := wb (wb (wb (wb (wb (wb (wb (wb (wb (wb (wb zf ((0 : Nat) : Int) 1 (w8 (-21))) ((1 : Nat) : Int) 1 (w8 118)) ((2 : Nat) : Int) 1 (w8 (-112))) 3 8 2314885754712905797) 16 4 (16 + 2 * n)) 20 4 8) 24 4 7) 28 4 16) 32 4 n) 36 4 4) 40 4 ser
def lb3 (n ser : Int) : Nat → Int := wb (wb (wb (wb (wb (wb (wb (wb (wb (wb (lb2 n ser) ((46 : Nat) : Int) 1 (w8 6)) ((47 : Nat) : Int) 1 (w8 1)) ((48 : Nat) : Int) 1 (w8 1)) ((49 : Nat) : Int) 1 (w8 (-1))) ((62 : Nat) : Int) 1 (w8 85)) ((63 : Nat) : Int) 1 (w8 (-86))) ((126 : Nat) : Int) 1 (w8 85)) ((127 : Nat) : Int) 1 (w8 (-86))) ((190 : Nat) : Int) 1 (w8 85)) ((191 : Nat) : Int) 1 (w8 (-86))
set_option maxRecDepth 10000 in
theorem lb3_im (n ser : Int) : ∀ k, k < 192 → lb3 n ser k = im3 n 4 ser 0 255 k := by
  refine AllLt_get (p := fun k => lb3 n ser k = im3 n 4 ser 0 255 k) (n := 192) ?_
  iterate 192 refine And.intro ?_ rfl
  trivial
theorem lb3_0 (n ser : Int) {k : Nat} (h : 192 ≤ k) : lb3 n ser k = 0 := by
  unfold lb3 lb2
  have w : ∀ (f : Nat → Int) (a : Int) (m : Nat) (v : Int), 0 ≤ a → a + m ≤ 192 → wb f a m v k = f k := fun f a m v a0 a1 => by
    unfold wb
    rw [if_neg (by omega)]
  rw [w _ _ _ _ (by decide) (by decide), w _ _ _ _ (by decide) (by decide), w _ _ _ _ (by decide) (by decide), w _ _ _ _ (by decide) (by decide), w _ _ _ _ (by decide) (by decide), w _ _ _ _ (by decide) (by decide), w _ _ _ _ (by decide) (by decide), w _ _ _ _ (by decide) (by decide), w _ _ _ _ (by decide) (by decide), w _ _ _ _ (by decide) (by decide), w _ _ _ _ (by decide) (by decide), w _ _ _ _ (by decide) (by decide), w _ _ _ _ (by decide) (by decide), w _ _ _ _ (by decide) (by decide), w _ _ _ _ (by decide) (by decide), w _ _ _ _ (by decide) (by decide), w _ _ _ _ (by decide) (by decide), w _ _ _ _ (by decide) (by decide), w _ _ _ _ (by decide) (by decide), w _ _ _ _ (by decide) (by decide), w _ _ _ _ (by decide) (by decide)]
  rfl
section FORMAT2
variable {G : GG} {h : AH}
theorem ub_wb1 (h : AH) (o k : Nat) (v : Int) : ub (hs h o k v o) = wb (ub (h o)) (k : Int) 1 v := by
  have := ub_set h o (k : Int) v
  rw [show ((k : Int)).toNat = k by omega] at this
  rw [this]
  exact wb_1 (by omega)
theorem M_layBoot {P : AH → Prop} {n ser : Int} (h5 : Sb (h 35)) (hz : E (ub (h 35)) zf) (hn : 16 ≤ n ∧ n ≤ 100) (hs9 : -2147483648 ≤ ser ∧ ser < 2147483648) (H : ∀ h', Sb (h' 35) → E (ub (h' 35)) (fB n ser) → (∀ o, o ≠ 35 → h' o = h o) → P h') : RunsV G 183 [vR 34, vI n, vI ser] h P := by
  apply q_M_layBoot
  refine ⟨by decide, by decide, by decide, ?_⟩
  apply q_M_bootName
  rw [wI_id (z := 16 + 2 * n) (by omega) (by omega), wI_id (z := n) (by omega) (by omega), wI_id (z := ser) (by omega) (by omega)]
  refine M_put_35 (n := 8) (Sb_set (Sb_set (Sb_set h5 _ (w8_rng _).1 (w8_rng _).2) _ (w8_rng _).1 (w8_rng _).2) _ (w8_rng _).1 (w8_rng _).2) (by decide) (by decide) (by decide) (by omega) (fun h2 s2 e2 o2 => ?_)
  refine M_put_35 (n := 4) s2 (by decide) (by decide) (by decide) (by omega) (fun h3 s3 e3 o3 => ?_)
  refine M_put_35 (n := 4) s3 (by decide) (by decide) (by decide) (by omega) (fun h4 s4 e4 o4 => ?_)
  refine M_put_35 (n := 4) s4 (by decide) (by decide) (by decide) (by omega) (fun h6 s6 e6 o6 => ?_)
  refine M_put_35 (n := 4) s6 (by decide) (by decide) (by decide) (by omega) (fun h7 s7 e7 o7 => ?_)
  refine M_put_35 (n := 4) s7 (by decide) (by decide) (by decide) (by omega) (fun h8 s8 e8 o8 => ?_)
  refine M_put_35 (n := 4) s8 (by decide) (by decide) (by decide) (by omega) (fun h9 s9 e9 o9 => ?_)
  refine M_put_35 (n := 4) s9 (by decide) (by decide) (by decide) (by omega) (fun g s10 e10 o10 => ?_)
  refine ⟨by decide, by decide, by decide, by decide, ?_⟩
  have eg : E (ub (g 35)) (lb2 n ser) := by
    rw [e10, e9, e8, e7, e6, e4, e3, e2, ub_wb1, ub_wb1, ub_wb1]
    unfold lb2
    iterate 11 apply E_wb
    exact hz
  have og : ∀ o, o ≠ 35 → g o = h o := fun o ho => by rw [o10 o ho, o9 o ho, o8 o ho, o7 o ho, o6 o ho, o4 o ho, o3 o ho, o2 o ho, hs_o _ _ _ _ _ ho, hs_o _ _ _ _ _ ho, hs_o _ _ _ _ _ ho]
  have st : ∀ (q : AH) (x : Int) (k j : Nat), x.toNat = k → x.toNat + 1 = j → True := fun _ _ _ _ _ _ => trivial
  apply q_M_layBoot_c165
  refine ⟨fun c => absurd c (by decide), fun _ => ⟨by decide, by decide, ?_⟩⟩
  apply q_M_layBoot_c165
  refine ⟨fun c => absurd c (by decide), fun _ => ⟨by decide, by decide, ?_⟩⟩
  apply q_M_layBoot_c165
  refine ⟨fun c => absurd c (by decide), fun _ => ⟨by decide, by decide, ?_⟩⟩
  apply q_M_layBoot_c165
  refine ⟨fun _ => ?_, fun c => absurd (by decide) c⟩
  have w62 : (wI (64 * (0 : Int) + 62)).toNat = 62 := by decide
  have w63 : (wI (64 * (0 : Int) + 63)).toNat = 63 := by decide
  have w126 : (wI (64 * ((0 : Int) + 1) + 62)).toNat = 126 := by decide
  have w127 : (wI (64 * ((0 : Int) + 1) + 63)).toNat = 127 := by decide
  have w190 : (wI (64 * ((0 : Int) + 1 + 1) + 62)).toNat = 190 := by decide
  have w191 : (wI (64 * ((0 : Int) + 1 + 1) + 63)).toNat = 191 := by decide
  rw [w62, w63, w126, w127, w190, w191]
  generalize ee : hs (hs (hs (hs (hs (hs (hs (hs (hs (hs g 35 46 (w8 6)) 35 47 (w8 1)) 35 48 (w8 1)) 35 49 (w8 (-1))) 35 62 (w8 85)) 35 63 (w8 (-86))) 35 126 (w8 85)) 35 127 (w8 (-86))) 35 190 (w8 85)) 35 191 (w8 (-86)) = b
  have sb : Sb (b 35) := by
    rw [← ee]
    iterate 10 refine Sb_set ?_ _ (w8_rng _).1 (w8_rng _).2
    exact s10
  have eb : E (ub (b 35)) (lb3 n ser) := by
    rw [← ee, ub_wb1, ub_wb1, ub_wb1, ub_wb1, ub_wb1, ub_wb1, ub_wb1, ub_wb1, ub_wb1, ub_wb1]
    unfold lb3
    iterate 10 apply E_wb
    exact eg
  have ob : ∀ o, o ≠ 35 → b o = h o := fun o ho => by
    rw [← ee]
    iterate 10 rw [hs_o _ _ _ _ _ ho]
    exact og o ho
  clear ee
  refine M_sum4 (n := 192) (b := 1) eb (by decide) (by decide) (Or.inr rfl) ?_
  have es : sm4 1 (lb3 n ser) 0 192 = ims n 4 ser 0 255 := sm4_congr (fun k hk => by
    unfold rd
    rw [show (0 + (k : Int)).toNat = k by omega]
    exact lb3_im n ser k hk)
  rw [es]
  have sr := sm4_rng 1 (im3 n 4 ser 0 255) 0 192
  have k253 : ∀ (m j : Nat) (q : AH), j + m = 256 → Sb (q 35) → (∀ k, k < 13824 → ub (q 35) k = if k < 256 then im n 4 ser 0 255 k else if k < 256 + j then im n 4 ser 0 255 (k - 256) else 0) → (∀ o, o ≠ 35 → q o = h o) → Go G (pV P) 183 253 [some (vR 34), none, none, none, none, some (vI (j : Int))] [] q := by
    intro m
    induction m with
    | zero =>
      intro j q hm s e fr
      apply q_M_layBoot_c253
      rw [wI_id (z := (j : Int)) (by omega) (by omega)]
      refine ⟨fun _ => H q s (fun k hk => ?_) fr, fun c => by omega⟩
      rw [e k hk]
      unfold fB
      by_cases c1 : k < 256
      · rw [if_pos c1, if_pos (by omega), show k % 256 = k by omega]
      · rw [if_neg c1]
        by_cases c2 : k < 256 + j
        · rw [if_pos c2, if_pos (by omega), show k % 256 = k - 256 by omega]
        · rw [if_neg c2, if_neg (by omega)]
    | succ m ih =>
      intro j q hm s e fr
      apply q_M_layBoot_c253
      rw [wI_id (z := (j : Int)) (by omega) (by omega), wI_id (z := 256 + (j : Int)) (by omega) (by omega)]
      refine ⟨fun c => by omega, fun _ => ⟨⟨by omega, by omega⟩, ⟨by omega, by omega⟩, ?_⟩⟩
      rw [show (j : Int) + 1 = ((j + 1 : Nat) : Int) by omega, show (256 + (j : Int)).toNat = 256 + j by omega, show (j : Int).toNat = j by omega]
      refine ih (j + 1) _ (by omega) (Sb_set s _ (w8_rng _).1 (w8_rng _).2) (fun k hk => ?_) (fun o ho => by rw [hs_o _ _ _ _ _ ho]; exact fr o ho)
      have ej := e j (by omega)
      rw [if_pos (by omega)] at ej
      rw [ub_wb1]
      unfold wb
      by_cases c : k = 256 + j
      · rw [if_pos (by omega), if_neg (by omega), if_pos (by omega), show k - 256 = j by omega, show k - ((256 + j : Nat) : Int).toNat = 0 by omega, ← ej]
        show w8 (q 35 j) / 1 % 256 = q 35 j % 256
        rw [Int.ediv_one, w8_mod]
      · rw [if_neg (by omega), e k hk]
        by_cases c1 : k < 256
        · rw [if_pos c1, if_pos c1]
        · rw [if_neg c1, if_neg c1]
          by_cases c2 : k < 256 + j
          · rw [if_pos c2, if_pos (by omega)]
          · rw [if_neg c2, if_neg (by omega)]
  have k220 : ∀ (m j : Nat) (q : AH), j + m = 16 → Sb (q 35) → (∀ k, k < 13824 → ub (q 35) k = if k < 192 + 4 * j then im n 4 ser 0 255 k else 0) → (∀ o, o ≠ 35 → q o = h o) → Go G (pV P) 183 220 [some (vR 34), none, none, some (vL (ims n 4 ser 0 255)), none, some (vI (j : Int))] [] q := by
    intro m
    induction m with
    | zero =>
      intro j q hm s e fr
      apply q_M_layBoot_c220
      rw [wI_id (z := (j : Int)) (by omega) (by omega)]
      refine ⟨fun _ => k253 256 0 q rfl s (fun k hk => ?_) fr, fun c => by omega⟩
      rw [e k hk]
      by_cases c1 : k < 256
      · rw [if_pos c1, if_pos (by omega)]
      · rw [if_neg c1, if_neg (by omega), if_neg (by omega)]
    | succ m ih =>
      intro j q hm s e fr
      apply q_M_layBoot_c220
      rw [wI_id (z := (j : Int)) (by omega) (by omega)]
      refine ⟨fun c => by omega, fun _ => ?_⟩
      refine M_put_35 (n := 4) s (by decide) (by omega) (by omega) (by unfold ims; omega) (fun q2 s2 e2 o2 => ?_)
      rw [show (j : Int) + 1 = ((j + 1 : Nat) : Int) by omega]
      refine ih (j + 1) q2 (by omega) s2 (fun k hk => ?_) (fun o ho => (o2 o ho).trans (fr o ho))
      rw [e2]
      unfold wb
      by_cases c : (192 + 4 * (j : Int)).toNat ≤ k ∧ k < (192 + 4 * (j : Int)).toNat + 4
      · rw [if_pos c, if_pos (by omega)]
        unfold im
        rw [if_neg (by omega), show k - (192 + 4 * (j : Int)).toNat = k % 4 by omega]
      · rw [if_neg c, e k hk]
        by_cases c1 : k < 192 + 4 * j
        · rw [if_pos c1, if_pos (by omega)]
        · rw [if_neg c1, if_neg (by omega)]
  refine k220 16 0 b rfl sb (fun k hk => ?_) ob
  rw [eb k hk]
  by_cases c : k < 192
  · rw [if_pos (by omega), lb3_im n ser k c]
    unfold im
    rw [if_pos c]
  · rw [if_neg (by omega), lb3_0 n ser (by omega)]
/-- the disk that format lays -/
noncomputable def fmA (n ser : Int) : Nat → Int := fR1 (fT (wb (fF (fB n ser)) 1024 1 7)) n
noncomputable def fmB (n ser : Int) : Nat → Int := fR2 (fmA n ser) (sm4 0 (fmA n ser) 1152 128)
theorem E_fT {f g : Nat → Int} (h : E f g) : E (fT f) (fT g) := E_lo2 (E_lgr (E_lo2 (E_lgr (E_lo2 (E_lgr (E_lo2 h _ _) _ _ _) _ _) _ _ _) _ _) _ _ _) _ _
theorem E_fR1 {f g : Nat → Int} (h : E f g) (n : Int) : E (fR1 f n) (fR1 g n) := E_wb (E_wb (E_wb (E_wb h _ _ _) _ _ _) _ _ _) _ _ _
theorem E_fR2 {f g : Nat → Int} (h : E f g) (n : Int) : E (fR2 f n) (fR2 g n) := E_wb (E_wb (E_wb h _ _ _) _ _ _) _ _ _
theorem sm4_E {b : Int} {f g : Nat → Int} (h : E f g) {a : Int} {n : Nat} (a0 : 0 ≤ a) (a1 : a + n ≤ 13824) : sm4 b f a n = sm4 b g a n := sm4_congr (fun k hk => h.rd (by omega) (by omega))
theorem V_format {P : Int → AH → Prop} {n ser : Int} (hd : Dk h) (h8 : h 0 8 = 0) (hn : 16 ≤ n ∧ n ≤ 100) (H : ∀ h', Syn h' → E (h' 2) (fmB n ser) → (∀ o, o ≠ 2 → o ≠ 3 → o ≠ 4 → o ≠ 6 → h' o = h o) → P (16 + 2 * n) h') : RunsI G 139 [vR 0, vI n, vI ser] h P := by
  apply q_V_format
  rw [h8, wI_id (z := n) (by omega) (by omega)]
  refine ⟨fun _ => ⟨fun c => by omega, fun _ => ⟨fun _ => ?_, fun c => by omega⟩⟩, fun c => absurd wI_0 c⟩
  refine D_wipe hd (fun h1 u1 => ?_)
  refine B_draw (by decide) (by decide) (fun h2 e2 o2 => ?_)
  have dk2 : Dk h2 := by
    have q := u1.1
    unfold Dk at q ⊢
    rw [o2 2 (by decide), o2 3 (by decide), o2 4 (by decide)]
    exact q
  have ir : ∀ k, k < 256 → 0 ≤ h2 6 k ∧ h2 6 k < 256 := fun k hk => by rw [e2 k hk]; exact im_rng _ _ _ _ _ _
  refine B_lay dk2 (by decide) (by decide) ir (fun h3 u3 => ?_)
  have e36 : h3 6 = h2 6 := u3.2.2 6 (by decide) (by decide)
  refine B_lay u3.1 (by decide) (by decide) (by rw [e36]; exact ir) (fun h4 u4 => ?_)
  have eb : E (h4 3) (fB n ser) := by
    intro k hk
    rw [u4.2.1, e36, u3.2.1, o2 3 (by decide), u1.2.1]
    unfold fB
    dsimp only
    by_cases c1 : k < 256
    · rw [if_neg (by omega), if_pos (by omega), if_pos (by omega), e2 _ (by omega), show k - (0 : Int).toNat = k % 256 by omega]
    · by_cases c2 : k < 512
      · rw [if_pos (by omega), if_pos (by omega), e2 _ (by omega), show k - (256 : Int).toNat = k % 256 by omega]
      · rw [if_neg (by omega), if_neg (by omega), if_neg (by omega)]
        unfold fil
        rw [if_pos (by omega)]
  refine D_wb4 u4.1 (by decide) (by decide) (fun h5 u5 => ?_)
  apply q_V_format_c77
  refine ⟨fun c => absurd c (by decide), fun _ => D_wb4 u5.1 (by decide) (by decide) (fun h6 u6 => ?_)⟩
  apply q_V_format_c77
  refine ⟨fun c => absurd c (by decide), fun _ => D_wb4 u6.1 (by decide) (by decide) (fun h7 u7 => ?_)⟩
  apply q_V_format_c77
  refine ⟨fun c => absurd c (by decide), fun _ => D_wb4 u7.1 (by decide) (by decide) (fun h8' u8 => ?_)⟩
  apply q_V_format_c77
  refine ⟨fun c => absurd c (by decide), fun _ => D_wb4 u8.1 (by decide) (by decide) (fun h9 u9 => ?_)⟩
  apply q_V_format_c77
  refine ⟨fun _ => ?_, fun c => absurd (by decide) c⟩
  apply q_S_address
  refine D_wb1 u9.1 (by decide) (by decide) (fun h10 u10 => ?_)
  apply q_S_address
  apply q_K_layUsual
  refine K_layOwn u10.1 (by decide) (by decide) (fun k1 v1 => ?_)
  refine K_layGreat (n := 26) v1.1 (by decide) (by decide) (by decide) rfl (by decide) (fun k2 v2 => ?_)
  refine K_layOwn v2.1 (by decide) (by decide) (fun k3 v3 => ?_)
  refine K_layGreat (n := 23) v3.1 (by decide) (by decide) (by decide) rfl (by decide) (fun k4 v4 => ?_)
  refine K_layOwn v4.1 (by decide) (by decide) (fun k5 v5 => ?_)
  refine K_layGreat (n := 7) v5.1 (by decide) (by decide) (by decide) rfl (by decide) (fun k6 v6 => ?_)
  refine K_layOwn v6.1 (by decide) (by decide) (fun k7 v7 => ?_)
  apply q_S_address
  refine D_wb1 v7.1 (by decide) (by decide) (fun m1 w1 => ?_)
  refine D_wb4 w1.1 (by decide) (by decide) (fun m2 w2 => ⟨by decide, ?_⟩)
  rw [wI_id (z := n + 7) (by omega) (by omega), tdiv_pos (by omega)]
  refine D_wb4 w2.1 (by decide) (by decide) (fun m3 w3 => ?_)
  refine D_wb1 w3.1 (by decide) (by decide) (fun m4 w4 => ?_)
  apply q_S_address
  have em : E (m4 3) (fmA n ser) := by
    rw [w4.2.1, w3.2.1, w2.2.1, w1.2.1, v7.2.1, v6.2.1, v5.2.1, v4.2.1, v3.2.1, v2.2.1, v1.2.1, u10.2.1, u9.2.1, u8.2.1, u7.2.1, u6.2.1, u5.2.1]
    exact E_fR1 (E_fT (E_wb (E_wb (E_wb (E_wb (E_wb (E_wb eb _ _ _) _ _ _) _ _ _) _ _ _) _ _ _) _ _ _)) n
  refine K_sum (n := 128) w4.1.2.1 (by decide) (by decide) (fun r er => ?_)
  have er : r % 4294967296 = sm4 0 (fmA n ser) 1152 128 := er.trans (sm4_E em (by decide) (by decide))
  refine D_wb4 w4.1 (by decide) (by decide) (fun m5 w5 => ?_)
  refine D_wb4 w5.1 (by decide) (by decide) (fun m6 w6 => ?_)
  refine D_wb4 w6.1 (by decide) (by decide) (fun m7 w7 => ?_)
  refine D_settle w7.1 (fun m8 s8 e83 e82 o8 => H m8 s8 (fun k hk => ?_) (fun o a b c d => ?_))
  · rw [e82 k hk, w7.2.1, w6.2.1, w5.2.1, wb4_mod (v := r) (w := sm4 0 (fmA n ser) 1152 128) (by rw [er]; have := sm4_rng 0 (fmA n ser) 1152 128; omega)]
    exact E_fR2 em _ k hk
  · rw [o8 o a b c, w7.2.2 o b c, w6.2.2 o b c, w5.2.2 o b c, w4.2.2 o b c, w3.2.2 o b c, w2.2.2 o b c, w1.2.2 o b c, v7.2.2 o b c, v6.2.2 o b c, v5.2.2 o b c, v4.2.2 o b c, v3.2.2 o b c, v2.2.2 o b c, v1.2.2 o b c, u10.2.2 o b c, u9.2.2 o b c, u8.2.2 o b c, u7.2.2 o b c, u6.2.2 o b c, u5.2.2 o b c, u4.2.2 o b c, u3.2.2 o b c, o2 o d, u1.2.2 o b c]
theorem M_format {P : Int → AH → Prop} {n ser : Int} (h5 : Sb (h 35)) (h3 : h 34 3 = 0) (hn : 16 ≤ n ∧ n ≤ 100) (hs9 : -2147483648 ≤ ser ∧ ser < 2147483648) (H : ∀ h', Sb (h' 35) → E (ub (h' 35)) (fmB n ser) → (∀ o, o ≠ 35 → h' o = h o) → P (16 + 2 * n) h') : RunsI G 180 [vR 34, vI n, vI ser] h P := by
  apply q_M_format
  rw [h3, wI_id (z := n) (by omega) (by omega)]
  refine ⟨fun _ => ?_, fun c => absurd wI_0 c⟩
  refine M_in (by omega) (by omega) (by omega) (fun c1 c2 => ⟨fun c => absurd c (by decide), fun _ => ?_⟩) (fun c => absurd hn c)
  have rest : ∀ b : AH, Sb (b 35) → E (ub (b 35)) zf → (∀ o, o ≠ 35 → b o = h o) → RunsV G 183 [vR 34, vI n, vI ser] b (fun h1 => RunsV G 168 [vR 35, vI 512, vI 4, vL 4294967288] h1 (fun h2 => RunsV G 168 [vR 35, vI 516, vI 4, vL 4294967295] h2 (fun h3 => Go G (pI P) 180 84 [some (vR 34), some (vI n), none, some (vI 2), none] [] h3))) := by
    intro b sb eb ob
    refine M_layBoot sb eb hn hs9 (fun h1 s1 e1 o1 => ?_)
    refine M_put_35 (n := 4) s1 (by decide) (by decide) (by decide) (by omega) (fun h2 s2 e2 o2 => ?_)
    refine M_put_35 (n := 4) s2 (by decide) (by decide) (by decide) (by omega) (fun h3 s3 e3 o3 => ?_)
    apply q_M_format_c84
    refine ⟨fun c => absurd c (by decide), fun _ => M_put_35 (n := 4) s3 (by decide) (by decide) (by decide) (by omega) (fun h4 s4 e4 o4 => ?_)⟩
    apply q_M_format_c84
    refine ⟨fun c => absurd c (by decide), fun _ => M_put_35 (n := 4) s4 (by decide) (by decide) (by decide) (by omega) (fun h5 s5 e5 o5 => ?_)⟩
    apply q_M_format_c84
    refine ⟨fun c => absurd c (by decide), fun _ => M_put_35 (n := 4) s5 (by decide) (by decide) (by decide) (by omega) (fun h6 s6 e6 o6 => ?_)⟩
    apply q_M_format_c84
    refine ⟨fun _ => ?_, fun c => absurd (by decide) c⟩
    apply q_M_clusterAt
    refine ⟨by decide, ?_⟩
    apply q_M_clusterAt
    rw [show (wI (1024 + 128 * ((2 : Int) - 2))).toNat = 1024 by decide]
    have sg : Sb (hs h6 35 1024 (w8 7) 35) := Sb_set s6 _ (w8_rng _).1 (w8_rng _).2
    have og : ∀ o, o ≠ 35 → hs h6 35 1024 (w8 7) o = h o := fun o ho => by rw [hs_o _ _ _ _ _ ho, o6 o ho, o5 o ho, o4 o ho, o3 o ho, o2 o ho, o1 o ho, ob o ho]
    have eg : E (ub (hs h6 35 1024 (w8 7) 35)) (wb (fF (fB n ser)) 1024 1 7) := by
      rw [ub_wb1, e6, e5, e4, e3, e2, wb1_mod (v := w8 7) (w := 7) (by decide), wb4_mod (v := 4294967288) (w := -8) (by decide)]
      rw [wb4_mod (f := wb (ub (h1 35)) 512 4 (-8)) (v := 4294967295) (w := -1) (by decide), wb4_mod (v := 4294967295) (w := -1) (by decide), wb4_mod (v := 4294967295) (w := -1) (by decide), wb4_mod (v := 4294967295) (w := -1) (by decide)]
      exact E_wb (E_wb (E_wb (E_wb (E_wb (E_wb e1 _ _ _) _ _ _) _ _ _) _ _ _) _ _ _) _ _ _
    generalize hs h6 35 1024 (w8 7) = g at sg og eg
    refine M_layOwn sg (by decide) (by decide) (by decide) (fun k1 s1' v1 p1 => ?_)
    refine M_layGreat (n := 26) s1' (by decide) (by decide) (by decide) rfl (by decide) (fun k2 s2' v2 p2 => ?_)
    refine M_layOwn s2' (by decide) (by decide) (by decide) (fun k3 s3' v3 p3 => ?_)
    refine M_layGreat (n := 23) s3' (by decide) (by decide) (by decide) rfl (by decide) (fun k4 s4' v4 p4 => ?_)
    refine M_layOwn s4' (by decide) (by decide) (by decide) (fun k5 s5' v5 p5 => ?_)
    refine M_layGreat (n := 7) s5' (by decide) (by decide) (by decide) rfl (by decide) (fun k6 s6' v6 p6 => ?_)
    refine M_layOwn s6' (by decide) (by decide) (by decide) (fun k7 s7' v7 p7 => ?_)
    apply q_M_clusterAt
    have et : E (ub (k7 35)) (fT (wb (fF (fB n ser)) 1024 1 7)) := by
      rw [v7, v6, v5, v4, v3, v2, v1]
      exact E_fT eg
    have ot : ∀ o, o ≠ 35 → k7 o = h o := fun o ho => by rw [p7 o ho, p6 o ho, p5 o ho, p4 o ho, p3 o ho, p2 o ho, p1 o ho, og o ho]
    have zt : Zr (fT (wb (fF (fB n ser)) 1024 1 7)) := by
      refine Zr_fT ?_
      unfold fF
      refine Zr_wb (Zr_wb (Zr_wb (Zr_wb (Zr_wb (Zr_wb ?_ (by decide) (by decide)) (by decide) (by decide)) (by decide) (by decide)) (by decide) (by decide)) (by decide) (by decide)) (by decide) (by decide)
      intro k a1 a2
      unfold fB
      rw [if_neg (by omega)]
    generalize eft : fT (wb (fF (fB n ser)) 1024 1 7) = T at et zt
    refine ⟨by decide, ?_⟩
    rw [show (wI (1024 + 128 * ((4 : Int) - 2))).toNat = 1280 by decide]
    refine M_put_35 (n := 4) (Sb_set s7' _ (w8_rng _).1 (w8_rng _).2) (by decide) (by decide) (by decide) (by omega) (fun a1 t1 x1 y1 => ⟨by decide, ?_⟩)
    rw [wI_id (z := n + 7) (by omega) (by omega), tdiv_pos (by omega), wI_id (z := (n + 7) / 8) (by omega) (by omega)]
    refine M_put_35 (n := 8) t1 (by decide) (by decide) (by decide) (by omega) (fun a2 t2 x2 y2 => ⟨by decide, ?_⟩)
    apply q_M_clusterAt
    rw [show (wI (1024 + 128 * ((4 : Int) - 2) + 32)).toNat = 1312 by decide]
    have ea2 : E (ub (hs a2 35 1312 (w8 (-126)) 35)) (fmA n ser) := by
      have e1 : E (wb (wb (wb T 1280 1 129) 1300 4 2) 1304 8 ((n + 7) / 8)) (wb (wb (wb T 1280 1 129) 1300 4 2) 1304 4 ((n + 7) / 8)) := by
        rw [wb_8 (by decide) (by omega) (fun k q1 q2 => ?_)]
        · exact E.rf _
        · have w : ∀ (f : Nat → Int) (a : Int) (m : Nat) (v : Int), 0 ≤ a → a + m ≤ 1308 → wb f a m v k = f k := fun f a m v a0 a1 => by
            unfold wb
            rw [if_neg (by have : (1304 : Int).toNat = 1304 := rfl; omega)]
          rw [w _ _ _ _ (by decide) (by decide), w _ _ _ _ (by decide) (by decide)]
          exact zt k (by have : (1304 : Int).toNat = 1304 := rfl; omega) (by have : (1304 : Int).toNat = 1304 := rfl; omega)
      rw [ub_wb1, x2, x1, ub_wb1, wb1_mod (v := w8 (-126)) (w := 130) (by decide), wb1_mod (v := w8 (-127)) (w := 129) (by decide)]
      unfold fmA fR1
      rw [eft]
      exact E_wb ((E_wb (E_wb (E_wb et _ _ _) _ _ _) _ _ _).tr e1) _ _ _
    have sa2 : Sb (hs a2 35 1312 (w8 (-126)) 35) := Sb_set t2 _ (w8_rng _).1 (w8_rng _).2
    have oa2 : ∀ o, o ≠ 35 → hs a2 35 1312 (w8 (-126)) o = h o := fun o ho => by rw [hs_o _ _ _ _ _ ho, y2 o ho, y1 o ho, hs_o _ _ _ _ _ ho, ot o ho]
    have zA : ∀ k, 1336 + 4 ≤ k → k < 1336 + 8 → fmA n ser k = 0 := by
      intro k q1 q2
      unfold fmA fR1
      rw [eft]
      have w : ∀ (f : Nat → Int) (a : Int) (m : Nat) (v : Int), 0 ≤ a → a + m ≤ 1340 → wb f a m v k = f k := fun f a m v a0 a1 => by
        unfold wb
        rw [if_neg (by omega)]
      rw [w _ _ _ _ (by decide) (by decide), w _ _ _ _ (by decide) (by decide), w _ _ _ _ (by decide) (by decide), w _ _ _ _ (by decide) (by decide)]
      exact zt k (by omega) (by omega)
    generalize hs a2 35 1312 (w8 (-126)) = b2 at ea2 sa2 oa2
    refine M_sum4 (n := 128) (b := 0) ea2 (by decide) (by decide) (Or.inl rfl) ?_
    have sr := sm4_rng 0 (fmA n ser) 1152 128
    refine M_put_35 (n := 4) sa2 (by decide) (by decide) (by decide) (by show -9223372036854775808 ≤ sm4 0 (fmA n ser) 1152 128 ∧ sm4 0 (fmA n ser) 1152 128 < 9223372036854775808; omega) (fun b3 t3 x3 y3 => ?_)
    refine M_put_35 (n := 4) t3 (by decide) (by decide) (by decide) (by omega) (fun b4 t4 x4 y4 => ?_)
    refine M_put_35 (n := 8) t4 (by decide) (by decide) (by decide) (by omega) (fun b5 t5 x5 y5 => ?_)
    refine H b5 t5 ?_ (fun o ho => by rw [y5 o ho, y4 o ho, y3 o ho, oa2 o ho])
    rw [x5, x4, x3]
    unfold fmB fR2
    have e9 : wb (wb (wb (fmA n ser) 1316 4 (sm4 0 (fmA n ser) 1152 128)) 1332 4 3) 1336 8 128 = wb (wb (wb (fmA n ser) 1316 4 (sm4 0 (fmA n ser) 1152 128)) 1332 4 3) 1336 4 128 := by
      refine wb_8 (by decide) (by decide) (fun k q1 q2 => ?_)
      have q3 : (1336 : Int).toNat = 1336 := rfl
      rw [q3] at q1 q2
      have w : ∀ (f : Nat → Int) (a : Int) (m : Nat) (v : Int), 0 ≤ a → a + m ≤ 1340 → wb f a m v k = f k := fun f a m v a0 a1 => by
        unfold wb
        rw [if_neg (by omega)]
      rw [w _ _ _ _ (by decide) (by decide), w _ _ _ _ (by decide) (by decide)]
      exact zA k q1 q2
    rw [← e9]
    exact E_wb (E_wb (E_wb ea2 _ _ _) _ _ _) _ _ _
  have key : ∀ (m j : Nat) (b : AH), j + m = 13824 → Sb (b 35) → (∀ k, k < j → ub (b 35) k = 0) → (∀ o, o ≠ 35 → b o = h o) → Go G (pI P) 180 28 [some (vR 34), some (vI n), some (vI ser), some (vI (j : Int)), none] [] b := by
    intro m
    induction m with
    | zero =>
      intro j b hm sb eb ob
      apply q_M_format_c28
      rw [wI_id (z := (j : Int)) (by omega) (by omega)]
      exact ⟨fun _ => rest b sb (fun k hk => eb k (by omega)) ob, fun c => by omega⟩
    | succ m ih =>
      intro j b hm sb eb ob
      apply q_M_format_c28
      rw [wI_id (z := (j : Int)) (by omega) (by omega)]
      refine ⟨fun c => by omega, fun _ => ⟨⟨by omega, by omega⟩, ?_⟩⟩
      rw [show (j : Int) + 1 = ((j + 1 : Nat) : Int) by omega, show (j : Int).toNat = j by omega]
      refine ih (j + 1) _ (by omega) (Sb_set sb _ (w8_rng _).1 (w8_rng _).2) (fun k hk => ?_) (fun o ho => by rw [hs_o _ _ _ _ _ ho]; exact ob o ho)
      rw [ub_wb1]
      unfold wb
      by_cases c : k = j
      · rw [if_pos (by omega), show k - ((j : Nat) : Int).toNat = 0 by omega]; rfl
      · rw [if_neg (by omega)]; exact eb k (by omega)
  exact key 13824 0 h rfl h5 (fun k hk => by omega) (fun _ _ => rfl)
theorem T_format {Mn : AH → Prop} (hI : Inv Mn h) {n ser : Int} (hn : in32 n) (hs9 : in32 ser) : okI G (Inv Mn) 139 180 [vI n, vI ser] h := by
  unfold in32 at hn hs9
  obtain ⟨s1, s2⟩ := wI_st hI
  have c2 := hI.1.2.1
  have c1 := hI.1.1
  rcases c2.2.2.2.2.1 with h8 | h8
  · by_cases cn : 16 ≤ n ∧ n ≤ 100
    · refine okI_of (P := fun r h' => r = 16 + 2 * n ∧ Syn h' ∧ E (h' 2) (fmB n ser) ∧ ∀ o, o ≠ 2 → o ≠ 3 → o ≠ 4 → o ≠ 6 → h' o = h o) (V_format c1.1.1 h8 cn (fun h' a b c => ⟨rfl, a, b, c⟩)) ?_
      rintro r h' ⟨rfl, sy, e2, fr⟩
      have e34 : h' 34 = h 34 := fr 34 (by decide) (by decide) (by decide) (by decide)
      have e35 : h' 35 = h 35 := fr 35 (by decide) (by decide) (by decide) (by decide)
      refine M_format (by rw [e35]; exact c1.2.1) (by rw [e34, ← c2.2.2.2.1, h8]) cn hs9 (fun g sg eg og => ⟨rfl, ?_⟩)
      have f2 : ∀ o, o ≠ 2 → o ≠ 3 → o ≠ 4 → o ≠ 6 → o ≠ 35 → g o = h o := fun o a b c d e => (og o e).trans (fr o a b c d)
      refine ⟨⟨⟨?_, sg, ?_, fun k hk => ?_⟩, C2_congr (by rw [f2 1 (by decide) (by decide) (by decide) (by decide) (by decide)]) (by rw [f2 1 (by decide) (by decide) (by decide) (by decide) (by decide)]) (by rw [f2 0 (by decide) (by decide) (by decide) (by decide) (by decide)]) (by rw [f2 26 (by decide) (by decide) (by decide) (by decide) (by decide)]) (by rw [f2 34 (by decide) (by decide) (by decide) (by decide) (by decide)]) (by rw [f2 34 (by decide) (by decide) (by decide) (by decide) (by decide)]) (by rw [f2 34 (by decide) (by decide) (by decide) (by decide) (by decide)]) (by rw [f2 34 (by decide) (by decide) (by decide) (by decide) (by decide)]) c2, C3_congr (by rw [f2 32 (by decide) (by decide) (by decide) (by decide) (by decide)]) (by rw [f2 34 (by decide) (by decide) (by decide) (by decide) (by decide)]) (f2 33 (by decide) (by decide) (by decide) (by decide) (by decide)) (f2 52 (by decide) (by decide) (by decide) (by decide) (by decide)) hI.1.2.2.1, C4_congr (by rw [f2 17 (by decide) (by decide) (by decide) (by decide) (by decide)]) (by rw [f2 17 (by decide) (by decide) (by decide) (by decide) (by decide)]) (by rw [f2 17 (by decide) (by decide) (by decide) (by decide) (by decide)]) (by rw [f2 34 (by decide) (by decide) (by decide) (by decide) (by decide)]) (by rw [f2 34 (by decide) (by decide) (by decide) (by decide) (by decide)]) (by rw [f2 34 (by decide) (by decide) (by decide) (by decide) (by decide)]) hI.1.2.2.2⟩, fun hm => ?_⟩
      · unfold Syn Dk at sy ⊢
        rw [og 2 (by decide), og 3 (by decide), og 4 (by decide)]
        exact sy
      · rw [og 36 (by decide), fr 36 (by decide) (by decide) (by decide) (by decide)]; exact c1.2.2.1
      · rw [og 2 (by decide), e2 k hk, eg k hk]
      · rw [f2 0 (by decide) (by decide) (by decide) (by decide) (by decide), h8] at hm
        exact absurd hm (by decide)
    · apply q_V_format
      rw [h8, wI_id (z := n) (by omega) (by omega)]
      have mod : RunsI G 180 [vR 34, vI n, vI ser] h (fun r2 h2 => wI (-1) = wI r2 ∧ Inv Mn h2) := by
        apply q_M_format
        rw [s2, h8, wI_id (z := n) (by omega) (by omega)]
        refine ⟨fun _ => ?_, fun c => absurd rfl c⟩
        exact M_in (by omega) (by omega) (by omega) (fun a b => absurd ⟨a, b⟩ cn) (fun _ => ⟨fun _ => ⟨rfl, hI⟩, fun c => absurd wI_0 c⟩)
      refine ⟨fun _ => ⟨fun _ => mod, fun c => ⟨fun c' => absurd ⟨by omega, c'⟩ cn, fun _ => mod⟩⟩, fun c => absurd wI_0 c⟩
  · apply q_V_format
    rw [s1, h8]
    refine ⟨fun c => absurd c (by decide), fun _ => ?_⟩
    apply q_M_format
    rw [s2, h8]
    exact ⟨fun c => absurd c (by decide), fun _ => ⟨rfl, hI⟩⟩
end FORMAT2
