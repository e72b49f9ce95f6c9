/-! BOOT REGIONS: the class draws and asks -/
theorem rot (x o : Int) : ((bO (sUI x 1) (sLI x 31)) + o) % 4294967296 = rl4 (x % 4294967296) o := by
  have e1 : sUI x 1 = x % 4294967296 / 2 := rfl
  have e2 : sLI x 31 = x * 2147483648 := rfl
  rw [e1, e2, bO_add _ _ 31 (by decide) (by omega) (by omega) ⟨x, by rw [Int.mul_comm]; rfl⟩]
  unfold wI rl4
  omega
theorem sm4_congr {b : Int} {f g : Nat → Int} {a c : Int} : ∀ {n : Nat}, (∀ k : Nat, k < n → rd f (a + k) = rd g (c + k)) → sm4 b f a n = sm4 b g c n
  | 0, _ => rfl
  | n + 1, h => by
    have i := sm4_congr (b := b) (n := n) (fun k hk => h k (by omega))
    by_cases q : sk b n
    · rw [sm4_y q, sm4_y q, i]
    · rw [sm4_n q, sm4_n q, i, h n (by omega)]
/-- a region that is right -/
def BtOK (f : Nat → Int) (a : Int) : Prop := (16 ≤ u4 f (a + 32) ∧ u4 f (a + 32) ≤ 100) ∧ (2 ≤ u4 f (a + 36) ∧ u4 f (a + 36) ≤ u4 f (a + 32) + 1) ∧ (u2 f (a + 44) = 0 ∨ u2 f (a + 44) = 2) ∧ (rd f (a + 49) ≤ 100 ∨ rd f (a + 49) = 255) ∧ ∀ k : Nat, k < 256 → rd f (a + k) = im (u4 f (a + 32)) (u4 f (a + 36)) (u4 f (a + 40)) (u2 f (a + 44)) (rd f (a + 49)) k
section BOOT2
variable {G : GG} {h : AH}
theorem B_draw4 {P : AH → Prop} {a v : Int} (h0 : 0 ≤ a) (h1 : a + 4 ≤ 256) (H : ∀ h', h' 6 = wb (h 6) a 4 v → (∀ o, o ≠ 6 → h' o = h o) → P h') : RunsV G 14 [vR 5, vI a, vI v] h P := by
  apply q_B_draw4
  have key : ∀ (m j : Nat) (g : AH), j + m = 4 → g 6 = wb (h 6) a j v → (∀ o, o ≠ 6 → g o = h o) → Go G (pV P) 14 2 [some (vR 5), some (vI a), some (vI v), some (vI (j : Int))] [] g := by
    intro m
    induction m with
    | zero =>
      intro j g hm e fr
      apply q_B_draw4_c2
      rw [wI_id (z := (j : Int)) (by omega) (by omega)]
      refine ⟨fun _ => H g ?_ fr, fun c => by omega⟩
      rw [show (4 : Nat) = j by omega]
      exact e
    | succ m ih =>
      intro j g hm e fr
      apply q_B_draw4_c2
      rw [wI_id (z := (j : Int)) (by omega) (by omega), wI_id (z := a + (j : Int)) (by omega) (by omega)]
      refine ⟨fun c => by omega, fun _ => ⟨fun c => by omega, fun _ => ⟨⟨by omega, by omega⟩, ?_⟩⟩⟩
      rw [show (j : Int) + 1 = ((j + 1 : Nat) : Int) by omega]
      refine ih (j + 1) _ (by omega) ?_ (fun o ho => by rw [hs_o _ _ _ _ _ ho]; exact fr o ho)
      rw [hs_eq, bA_255, e]
      have e1 : sUI v (8 * (j : Int)) % 256 = v / 256 ^ j % 256 := by
        rcases (show j = 0 ∨ j = 1 ∨ j = 2 ∨ j = 3 by omega) with rfl | rfl | rfl | rfl
        · show v % 4294967296 / 1 % 256 = v / 1 % 256; omega
        · show v % 4294967296 / 256 % 256 = v / 256 % 256; omega
        · show v % 4294967296 / 65536 % 256 = v / 65536 % 256; omega
        · show v % 4294967296 / 16777216 % 256 = v / 16777216 % 256; omega
      rw [e1]
      exact wb_succ _ _ _ _ h0
  exact key 4 0 h rfl (wb_0 _ _ _).symm (fun _ _ => rfl)
theorem B_sumOfThree {P : Int → AH → Prop} (H : ∀ r, r % 4294967296 = sm4 1 (h 6) 0 192 → P r h) : RunsI G 15 [vR 5] h P := by
  apply q_B_sumOfThree
  have key : ∀ (m j : Nat) (x : Int), j + m = 192 → x % 4294967296 = sm4 1 (h 6) 0 j → Go G (pI P) 15 4 [some (vR 5), some (vI x), some (vI (j : Int))] [] h := by
    intro m
    induction m with
    | zero =>
      intro j x hm e
      apply q_B_sumOfThree_c4
      rw [wI_id (z := (j : Int)) (by omega) (by omega)]
      refine ⟨fun _ => H x ?_, fun c => by omega⟩
      rw [show (192 : Nat) = j by omega]
      exact e
    | succ m ih =>
      intro j x hm e
      apply q_B_sumOfThree_c4
      rw [wI_id (z := (j : Int)) (by omega) (by omega)]
      refine ⟨fun c => by omega, fun _ => ?_⟩
      rw [show (j : Int) + 1 = ((j + 1 : Nat) : Int) by omega]
      by_cases k : sk 1 j
      · have nx := ih (j + 1) x (by omega) (by rw [sm4_y k]; exact e)
        unfold sk at k
        exact ⟨fun _ => nx, fun c1 => ⟨fun _ => nx, fun c2 => ⟨fun _ => nx, fun c3 => by omega⟩⟩⟩
      · have nx := ih (j + 1) (bO (sUI x 1) (sLI x 31) + h 6 (j : Int).toNat) (by omega) (by rw [sm4_n k, rot, e, show (0 : Int) + (j : Int) = j by omega]; rfl)
        unfold sk at k
        exact ⟨fun c => by omega, fun _ => ⟨fun c => by omega, fun _ => ⟨fun c => by omega, fun _ => ⟨⟨by omega, by omega⟩, nx⟩⟩⟩⟩
  exact key 192 0 0 rfl rfl
def E2 (g f : Nat → Int) : Prop := ∀ k, k < 256 → g k = f k
theorem E2_wb {f g : Nat → Int} (h : E2 f g) (a : Int) (n : Nat) (v : Int) : E2 (wb f a n v) (wb g a n v) := by
  intro k hk
  unfold wb
  split
  · rfl
  · exact h k hk
theorem wr_wb {f : Nat → Int} {a v : Int} (h0 : 0 ≤ a) (hv : 0 ≤ v ∧ v < 256) : wr f a v = wb f a 1 v := by
  rw [← wb_1 h0, Int.emod_eq_of_lt hv.1 hv.2]
theorem B_draw {P : AH → Prop} {n root ser fl pc : Int} (hfl : 0 ≤ fl ∧ fl < 256) (hpc : 0 ≤ pc ∧ pc < 256) (H : ∀ h', E2 (h' 6) (im n root ser fl pc) → (∀ o, o ≠ 6 → h' o = h o) → P h') : RunsV G 13 [vR 5, vI n, vI root, vI ser, vI fl, vI pc] h P := by
  apply q_B_draw
  refine J_fill_6 (fun h1 e1 f1 => ?_)
  have z1 : E2 (h1 6) zf := fun k hk => by rw [e1]; unfold fil; rw [if_pos ⟨by omega, by omega⟩]; rfl
  have st : ∀ (g : AH) (x : Nat), x < 3 → hs (hs g 6 (wI ((x : Int) * 64 + 62)).toNat 85) 6 (wI ((x : Int) * 64 + 63)).toNat 170 6 = wb (g 6) ((x : Int) * 64 + 62) 2 43605 := by
    intro g x hx
    rw [wI_id (z := (x : Int) * 64 + 62) (by omega) (by omega), wI_id (z := (x : Int) * 64 + 63) (by omega) (by omega), hs_eq, hs_eq]
    have := wb_2 (f := g 6) (a := (x : Int) * 64 + 62) (v := 43605) (by omega)
    rw [show (x : Int) * 64 + 62 + 1 = (x : Int) * 64 + 63 by omega] at this
    rw [← this]
    rfl
  apply q_B_draw_c11
  refine ⟨fun c => absurd c (by decide), fun _ => ⟨by decide, by decide, ?_⟩⟩
  have s0 := st h1 0 (by decide)
  apply q_B_draw_c11
  refine ⟨fun c => absurd c (by decide), fun _ => ⟨by decide, by decide, ?_⟩⟩
  have s1 := st (hs (hs h1 6 (wI ((0 : Int) * 64 + 62)).toNat 85) 6 (wI ((0 : Int) * 64 + 63)).toNat 170) 1 (by decide)
  apply q_B_draw_c11
  refine ⟨fun c => absurd c (by decide), fun _ => ⟨by decide, by decide, ?_⟩⟩
  have s2 := st (hs (hs (hs (hs h1 6 (wI ((0 : Int) * 64 + 62)).toNat 85) 6 (wI ((0 : Int) * 64 + 63)).toNat 170) 6 (wI (((0 : Int) + 1) * 64 + 62)).toNat 85) 6 (wI (((0 : Int) + 1) * 64 + 63)).toNat 170) 2 (by decide)
  have fr6 : ∀ (g : AH) (a b : Nat) (u v : Int) (o : Nat), o ≠ 6 → hs (hs g 6 a u) 6 b v o = g o := fun g a b u v o ho => by rw [hs_o _ _ _ _ _ ho, hs_o _ _ _ _ _ ho]
  generalize eg : hs (hs (hs (hs (hs (hs h1 6 (wI ((0 : Int) * 64 + 62)).toNat 85) 6 (wI ((0 : Int) * 64 + 63)).toNat 170) 6 (wI (((0 : Int) + 1) * 64 + 62)).toNat 85) 6 (wI (((0 : Int) + 1) * 64 + 63)).toNat 170) 6 (wI (((0 : Int) + 1 + 1) * 64 + 62)).toNat 85) 6 (wI (((0 : Int) + 1 + 1) * 64 + 63)).toNat 170 = g0
  have g06 : g0 6 = wb (wb (wb (h1 6) 62 2 43605) 126 2 43605) 190 2 43605 := by
    rw [← eg]
    refine s2.trans ?_
    have s1' := s1
    refine congrArg (fun q => wb q 190 2 43605) (s1'.trans ?_)
    exact congrArg (fun q => wb q 126 2 43605) s0
  have f0 : ∀ o, o ≠ 6 → g0 o = h o := fun o ho => by rw [← eg, fr6 _ _ _ _ _ _ ho, fr6 _ _ _ _ _ _ ho, fr6 _ _ _ _ _ _ ho]; exact f1 o ho
  clear eg s0 s1 s2
  apply q_B_draw_c11
  refine ⟨fun _ => ?_, fun c => absurd (by decide) c⟩
  refine B_draw4 (by decide) (by decide) (fun a1 i1 o1 => ?_)
  refine B_draw4 (by decide) (by decide) (fun a2 i2 o2 => ?_)
  refine B_draw4 (by decide) (by decide) (fun a3 i3 o3 => ?_)
  refine B_draw4 (by decide) (by decide) (fun a4 i4 o4 => ?_)
  refine B_draw4 (by decide) (by decide) (fun a5 i5 o5 => ?_)
  refine B_draw4 (by decide) (by decide) (fun a6 i6 o6 => ?_)
  refine B_draw4 (by decide) (by decide) (fun a7 i7 o7 => ?_)
  refine B_draw4 (by decide) (by decide) (fun a8 i8 o8 => ?_)
  refine B_draw4 (by decide) (by decide) (fun a9 i9 o9 => ?_)
  refine B_draw4 (by decide) (by decide) (fun b i10 o10 => ?_)
  refine ⟨by decide, by decide, by decide, by decide, by decide, ?_⟩
  generalize eb : hs (hs (hs (hs (hs b 6 44 fl) 6 46 6) 6 47 1) 6 48 1) 6 49 pc = g
  have g6 : E2 (g 6) (im3 n root ser fl pc) := by
    have w1 : ∀ (q : AH) (k : Nat) (v : Int), 0 ≤ v ∧ v < 256 → hs q 6 k v 6 = wb (q 6) (k : Int) 1 v := fun q k v hv => by
      rw [hs_eq, ← wr_wb (show (0 : Int) ≤ k by omega) hv]; rfl
    rw [← eb, w1 _ 49 _ hpc, w1 _ 48 _ (by decide), w1 _ 47 _ (by decide), w1 _ 46 _ (by decide), w1 _ 44 _ hfl, i10, i9, i8, i7, i6, i5, i4, i3, i2, i1, g06]
    unfold im3 im2 im1
    iterate 18 apply E2_wb
    exact z1
  have fg : ∀ o, o ≠ 6 → g o = h o := fun o ho => by rw [← eb, hs_o _ _ _ _ _ ho, hs_o _ _ _ _ _ ho, hs_o _ _ _ _ _ ho, hs_o _ _ _ _ _ ho, hs_o _ _ _ _ _ ho, o10 o ho, o9 o ho, o8 o ho, o7 o ho, o6 o ho, o5 o ho, o4 o ho, o3 o ho, o2 o ho, o1 o ho]; exact f0 o ho
  clear eb
  refine B_sumOfThree (fun r er => ?_)
  have es : sm4 1 (g 6) 0 192 = ims n root ser fl pc := sm4_congr (fun k hk => by
    unfold rd
    exact g6 _ (by omega))
  rw [es] at er
  have key : ∀ (m j : Nat) (q : AH), j + m = 16 → (∀ k, k < 192 + 4 * j → q 6 k = im n root ser fl pc k) → (∀ o, o ≠ 6 → q o = h o) → Go G (pV P) 13 185 [some (vR 5), none, none, none, none, none, some (vI r), some (vI (4 * (j : Int)))] [] q := by
    intro m
    induction m with
    | zero =>
      intro j q hm e fr
      apply q_B_draw_c185
      rw [wI_id (z := 4 * (j : Int)) (by omega) (by omega)]
      refine ⟨fun _ => H q (fun k hk => e k (by omega)) fr, fun c => by omega⟩
    | succ m ih =>
      intro j q hm e fr
      apply q_B_draw_c185
      rw [wI_id (z := 4 * (j : Int)) (by omega) (by omega)]
      refine ⟨fun c => by omega, fun _ => B_draw4 (by omega) (by omega) (fun q2 e2 o2 => ?_)⟩
      rw [show 4 * (j : Int) + 4 = 4 * ((j + 1 : Nat) : Int) by omega]
      refine ih (j + 1) q2 (by omega) (fun k hk => ?_) (fun o ho => by rw [o2 o ho]; exact fr o ho)
      rw [e2]
      unfold wb
      by_cases c : (192 + 4 * (j : Int)).toNat ≤ k ∧ k < (192 + 4 * (j : Int)).toNat + 4
      · rw [if_pos c]
        unfold im
        rw [if_neg (by omega)]
        have ek : k - (192 + 4 * (j : Int)).toNat = k % 4 := by omega
        rw [ek, ← er]
        rcases (show k % 4 = 0 ∨ k % 4 = 1 ∨ k % 4 = 2 ∨ k % 4 = 3 by omega) with c | c | c | c <;> rw [c]
        · show r / 1 % 256 = r % 4294967296 / 1 % 256; omega
        · show r / 256 % 256 = r % 4294967296 / 256 % 256; omega
        · show r / 65536 % 256 = r % 4294967296 / 65536 % 256; omega
        · show r / 16777216 % 256 = r % 4294967296 / 16777216 % 256; omega
      · rw [if_neg c]
        exact e k (by omega)
  exact key 16 0 g rfl (fun k hk => by
    rw [g6 k (by omega)]
    unfold im
    rw [if_pos (by omega)]) fg
theorem im_rng (n root ser fl pc : Int) (k : Nat) : 0 ≤ im n root ser fl pc k ∧ im n root ser fl pc k < 256 := by
  unfold im
  split
  · unfold im3 im2 im1
    have z : By zf := fun _ _ => ⟨Int.le_refl 0, show (0 : Int) < 256 by decide⟩
    have := (By_wb (a := 49) (n := 1) (v := pc) (By_wb (a := 48) (n := 1) (v := 1) (By_wb (a := 47) (n := 1) (v := 1) (By_wb (a := 46) (n := 1) (v := 6) (By_wb (a := 44) (n := 1) (v := fl) (By_wb (a := 40) (n := 4) (v := ser) (By_wb (a := 36) (n := 4) (v := root) (By_wb (a := 32) (n := 4) (v := n) (By_wb (a := 28) (n := 4) (v := 16) (By_wb (a := 24) (n := 4) (v := 7) (By_wb (a := 20) (n := 4) (v := 8) (By_wb (a := 16) (n := 4) (v := 16 + 2 * n) (By_wb (a := 8) (n := 4) (v := 2105376) (By_wb (a := 4) (n := 4) (v := 1413563992) (By_wb (a := 0) (n := 4) (v := 1167095531) (By_wb (a := 190) (n := 2) (v := 43605) (By_wb (a := 126) (n := 2) (v := 43605) (By_wb (a := 62) (n := 2) (v := 43605) z)))))))))))))))))) k (by omega)
    exact this
  · omega
theorem B_isRight {P : Int → AH → Prop} {a : Int} (hb : By (h 3)) (a0 : 0 ≤ a) (a1 : a + 256 ≤ 13824) (H1 : ∀ h', BtOK (h 3) a → (∀ o, o ≠ 6 → h' o = h o) → P 1 h') (H0 : ∀ h', ¬ BtOK (h 3) a → (∀ o, o ≠ 6 → h' o = h o) → P 0 h') : RunsI G 17 [vR 5, vI a] h P := by
  have uN := u4_rng hb (show 0 ≤ a + 32 by omega) (show a + 32 + 3 < 13824 by omega)
  have uR := u4_rng hb (show 0 ≤ a + 36 by omega) (show a + 36 + 3 < 13824 by omega)
  have uF := u2_rng hb (show 0 ≤ a + 44 by omega) (show a + 44 + 1 < 13824 by omega)
  have uP := hb.rd (show 0 ≤ a + 49 by omega) (show a + 49 < 13824 by omega)
  have no : ¬ BtOK (h 3) a → P 0 h := fun q => H0 h q (fun _ _ => rfl)
  apply q_B_isRight
  refine D_get4 hb (by omega) (by omega) ?_
  rw [wI_wI]
  by_cases c1 : 16 ≤ u4 (h 3) (a + 32) ∧ u4 (h 3) (a + 32) ≤ 100
  · have eN : wI (u4 (h 3) (a + 32)) = u4 (h 3) (a + 32) := wI_id (by omega) (by omega)
    rw [eN]
    refine ⟨fun c => by omega, fun _ => ⟨fun _ => ?_, fun c => by omega⟩⟩
    refine D_get4 hb (by omega) (by omega) ?_
    rw [wI_wI, wI_id (z := u4 (h 3) (a + 32) + 1) (by omega) (by omega)]
    by_cases c2 : 2 ≤ u4 (h 3) (a + 36) ∧ u4 (h 3) (a + 36) ≤ u4 (h 3) (a + 32) + 1
    · have eR : wI (u4 (h 3) (a + 36)) = u4 (h 3) (a + 36) := wI_id (by omega) (by omega)
      rw [eR]
      refine ⟨fun c => by omega, fun _ => ⟨fun _ => ?_, fun c => by omega⟩⟩
      refine D_u2 hb (by omega) (by omega) ?_
      rw [wI_id (z := u2 (h 3) (a + 44)) (by omega) (by omega)]
      have fin : (u2 (h 3) (a + 44) = 0 ∨ u2 (h 3) (a + 44) = 2) → Go G (pI P) 17 78 [some (vR 5), some (vI a), some (vI (u4 (h 3) (a + 32))), some (vI (u4 (h 3) (a + 36))), some (vI (u2 (h 3) (a + 44))), none, none] [] h := by
        intro c3
        apply q_B_isRight_c78
        refine D_get (by omega) (by omega) ?_
        rw [wI_id (z := rd (h 3) (a + 49)) (by omega) (by omega)]
        have fin2 : (rd (h 3) (a + 49) ≤ 100 ∨ rd (h 3) (a + 49) = 255) → RunsI G 56 [vR 1, vI (a + 40)] h (fun r2 h2 => RunsV G 13 [vR 5, vI (u4 (h 3) (a + 32)), vI (u4 (h 3) (a + 36)), vI r2, vI (u2 (h 3) (a + 44)), vI (rd (h 3) (a + 49))] h2 (fun h3 => Go G (pI P) 17 132 [some (vR 5), some (vI a), none, none, none, none, some (vI 0)] [] h3)) := by
          intro c4
          refine D_get4 hb (by omega) (by omega) (B_draw (by omega) (by omega) (fun g eg fg => ?_))
          have im_ser : im (u4 (h 3) (a + 32)) (u4 (h 3) (a + 36)) (wI (u4 (h 3) (a + 40))) (u2 (h 3) (a + 44)) (rd (h 3) (a + 49)) = im (u4 (h 3) (a + 32)) (u4 (h 3) (a + 36)) (u4 (h 3) (a + 40)) (u2 (h 3) (a + 44)) (rd (h 3) (a + 49)) := by
            have ew : wb (wb (wb (wb (wb (wb (wb im1 16 4 (16 + 2 * u4 (h 3) (a + 32))) 20 4 8) 24 4 7) 28 4 16) 32 4 (u4 (h 3) (a + 32))) 36 4 (u4 (h 3) (a + 36))) 40 4 (wI (u4 (h 3) (a + 40))) = wb (wb (wb (wb (wb (wb (wb im1 16 4 (16 + 2 * u4 (h 3) (a + 32))) 20 4 8) 24 4 7) 28 4 16) 32 4 (u4 (h 3) (a + 32))) 36 4 (u4 (h 3) (a + 36))) 40 4 (u4 (h 3) (a + 40)) := by
              generalize wb (wb (wb (wb (wb (wb im1 16 4 (16 + 2 * u4 (h 3) (a + 32))) 20 4 8) 24 4 7) 28 4 16) 32 4 (u4 (h 3) (a + 32))) 36 4 (u4 (h 3) (a + 36)) = q
              generalize u4 (h 3) (a + 40) = v
              funext k
              unfold wb
              split
              · rename_i c
                rcases (show k = 40 ∨ k = 41 ∨ k = 42 ∨ k = 43 by omega) with rfl | rfl | rfl | rfl
                · show wI v / 1 % 256 = v / 1 % 256; unfold wI; omega
                · show wI v / 256 % 256 = v / 256 % 256; unfold wI; omega
                · show wI v / 65536 % 256 = v / 65536 % 256; unfold wI; omega
                · show wI v / 16777216 % 256 = v / 16777216 % 256; unfold wI; omega
              · rfl
            have e3 : im3 (u4 (h 3) (a + 32)) (u4 (h 3) (a + 36)) (wI (u4 (h 3) (a + 40))) (u2 (h 3) (a + 44)) (rd (h 3) (a + 49)) = im3 (u4 (h 3) (a + 32)) (u4 (h 3) (a + 36)) (u4 (h 3) (a + 40)) (u2 (h 3) (a + 44)) (rd (h 3) (a + 49)) := by
              unfold im3 im2
              rw [ew]
            unfold im ims
            rw [e3]
          rw [im_ser] at eg
          have g3 : g 3 = h 3 := fg 3 (by decide)
          have key : ∀ (m j : Nat), j + m = 256 → (∀ k : Nat, k < j → rd (h 3) (a + k) = im (u4 (h 3) (a + 32)) (u4 (h 3) (a + 36)) (u4 (h 3) (a + 40)) (u2 (h 3) (a + 44)) (rd (h 3) (a + 49)) k) → Go G (pI P) 17 132 [some (vR 5), some (vI a), none, none, none, none, some (vI (j : Int))] [] g := by
            intro m
            induction m with
            | zero =>
              intro j hm e
              apply q_B_isRight_c132
              rw [wI_id (z := (j : Int)) (by omega) (by omega)]
              refine ⟨fun _ => ⟨Or.inr rfl, H1 g ⟨c1, c2, c3, c4, fun k hk => e k (by omega)⟩ fg⟩, fun c => by omega⟩
            | succ m ih =>
              intro j hm e
              apply q_B_isRight_c132
              rw [wI_id (z := (j : Int)) (by omega) (by omega)]
              refine ⟨fun c => by omega, fun _ => D_get (by omega) (by omega) ⟨⟨by omega, by omega⟩, ?_⟩⟩
              have b := hb.rd (show 0 ≤ a + (j : Int) by omega) (show a + (j : Int) < 13824 by omega)
              rw [g3, show (j : Int).toNat = j by omega, eg j (by omega)]
              have ir := im_rng (u4 (h 3) (a + 32)) (u4 (h 3) (a + 36)) (u4 (h 3) (a + 40)) (u2 (h 3) (a + 44)) (rd (h 3) (a + 49)) j
              rw [wI_id (z := rd (h 3) (a + (j : Int))) (by omega) (by omega), wI_id (z := im (u4 (h 3) (a + 32)) (u4 (h 3) (a + 36)) (u4 (h 3) (a + 40)) (u2 (h 3) (a + 44)) (rd (h 3) (a + 49)) j) (by omega) (by omega)]
              refine ⟨fun c => ?_, fun c => ⟨Or.inl rfl, H0 g (fun q => c (q.2.2.2.2 j (by omega))) fg⟩⟩
              rw [show (j : Int) + 1 = ((j + 1 : Nat) : Int) by omega]
              refine ih (j + 1) (by omega) (fun k hk => ?_)
              by_cases q : k = j
              · rw [q]; exact c
              · exact e k (by omega)
          exact key 256 0 rfl (fun k hk => by omega)
        refine ⟨fun c4 => fin2 (Or.inl c4), fun c4 => ⟨fun c5 => fin2 (Or.inr c5), fun c5 => ⟨Or.inl rfl, no (fun q => by have := q.2.2.2.1; omega)⟩⟩⟩
      refine ⟨fun c => fin (Or.inl c), fun c => ⟨fun c' => fin (Or.inr c'), fun c' => ⟨Or.inl rfl, no (fun q => by have := q.2.2.1; omega)⟩⟩⟩
    · have n0 := no (fun q => c2 q.2.1)
      refine ⟨fun c => ⟨Or.inl rfl, n0⟩, fun c => ⟨fun c' => ?_, fun c' => ⟨Or.inl rfl, n0⟩⟩⟩
      exfalso
      unfold wI at c c'
      omega
  · have n0 := no (fun q => c1 q.1)
    refine ⟨fun c => ⟨Or.inl rfl, n0⟩, fun c => ⟨fun c' => ?_, fun c' => ⟨Or.inl rfl, n0⟩⟩⟩
    exfalso
    unfold wI at c c'
    omega
end BOOT2
