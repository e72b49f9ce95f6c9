/-! format -/
theorem wb4_mod {f : Nat → Int} {a v w : Int} (h : v % 4294967296 = w % 4294967296) : wb f a 4 v = wb f a 4 w := by
  funext k
  unfold wb
  split
  · rename_i c
    rcases (show k - a.toNat = 0 ∨ k - a.toNat = 1 ∨ k - a.toNat = 2 ∨ k - a.toNat = 3 by omega) with e | e | e | e <;> rw [e]
    · show v / 1 % 256 = w / 1 % 256; omega
    · show v / 256 % 256 = w / 256 % 256; omega
    · show v / 65536 % 256 = w / 65536 % 256; omega
    · show v / 16777216 % 256 = w / 16777216 % 256; omega
  · rfl
theorem wb2_mod {f : Nat → Int} {a v w : Int} (h : v % 65536 = w % 65536) : wb f a 2 v = wb f a 2 w := by
  funext k
  unfold wb
  split
  · rename_i c
    rcases (show k - a.toNat = 0 ∨ k - a.toNat = 1 by omega) with e | e <;> rw [e]
    · show v / 1 % 256 = w / 1 % 256; omega
    · show v / 256 % 256 = w / 256 % 256; omega
  · rfl
theorem wb1_mod {f : Nat → Int} {a v w : Int} (h : v % 256 = w % 256) : wb f a 1 v = wb f a 1 w := by
  funext k
  unfold wb
  split
  · rename_i c
    rw [show k - a.toNat = 0 by omega]
    show v / 1 % 256 = w / 1 % 256
    omega
  · rfl
/-- eight octets of a small number, where zeros lie -/
theorem wb_8 {f : Nat → Int} {a v : Int} (h0 : 0 ≤ a) (hv : 0 ≤ v ∧ v < 4294967296) (hz : ∀ k, a.toNat + 4 ≤ k → k < a.toNat + 8 → f k = 0) : wb f a 8 v = wb f a 4 v := by
  funext k
  unfold wb
  by_cases c : a.toNat ≤ k ∧ k < a.toNat + 4
  · rw [if_pos c, if_pos (by omega)]
  · rw [if_neg c]
    by_cases c2 : a.toNat ≤ k ∧ k < a.toNat + 8
    · rw [if_pos c2, hz k (by omega) (by omega)]
      rcases (show k - a.toNat = 4 ∨ k - a.toNat = 5 ∨ k - a.toNat = 6 ∨ k - a.toNat = 7 by omega) with e | e | e | e <;> rw [e]
      · show v / 4294967296 % 256 = 0; omega
      · show v / 1099511627776 % 256 = 0; omega
      · show v / 281474976710656 % 256 = 0; omega
      · show v / 72057594037927936 % 256 = 0; omega
    · rw [if_neg c2]
noncomputable def fB (n ser : Int) : Nat → Int := fun k => if k < 512 then im n 4 ser 0 255 (k % 256) else 0
def fF (f : Nat → Int) : Nat → Int := wb (wb (wb (wb (wb f 512 4 (-8)) 516 4 (-1)) 520 4 (-1)) 524 4 (-1)) 528 4 (-1)
def lo2 (f : Nat → Int) (a v : Int) : Nat → Int := wb (wb f a 2 65535) (a + 2) 2 v
def lgr (f : Nat → Int) (a v : Int) : Nat → Nat → Int
  | 0 => f
  | i + 1 => wb (lgr f a v i) (a + 2 * i) 2 (v + i - 32)
def fT (f : Nat → Int) : Nat → Int := lo2 (lgr (lo2 (lgr (lo2 (lgr (lo2 f 1152 97) 1156 97 26) 1208 101) 1212 224 23) 1258 1) 1262 248 7) 1276 1
def fR1 (f : Nat → Int) (n : Int) : Nat → Int := wb (wb (wb (wb f 1280 1 129) 1300 4 2) 1304 4 ((n + 7) / 8)) 1312 1 130
def fR2 (f : Nat → Int) (S : Int) : Nat → Int := wb (wb (wb f 1316 4 S) 1332 4 3) 1336 4 128
theorem E_lo2 {f g : Nat → Int} (h : E f g) (a v : Int) : E (lo2 f a v) (lo2 g a v) := E_wb (E_wb h _ _ _) _ _ _
theorem E_lgr {f g : Nat → Int} (h : E f g) (a v : Int) : ∀ i, E (lgr f a v i) (lgr g a v i)
  | 0 => h
  | i + 1 => E_wb (E_lgr h a v i) _ _ _
/-- zeros from 1280 on -/
def Zr (f : Nat → Int) : Prop := ∀ k, 1280 ≤ k → k < 13824 → f k = 0
theorem Zr_wb {f : Nat → Int} (h : Zr f) {a : Int} {n : Nat} {v : Int} (h0 : 0 ≤ a) (h1 : a + n ≤ 1280) : Zr (wb f a n v) := by
  intro k a1 a2
  unfold wb
  rw [if_neg (by omega)]
  exact h k a1 a2
theorem Zr_lgr {f : Nat → Int} (h : Zr f) {a v : Int} (h0 : 0 ≤ a) : ∀ {i : Nat}, a + 2 * i ≤ 1280 → Zr (lgr f a v i)
  | 0, _ => h
  | i + 1, h1 => Zr_wb (Zr_lgr h h0 (i := i) (by omega)) (by omega) (by omega)
theorem Zr_fT {f : Nat → Int} (h : Zr f) : Zr (fT f) := by
  unfold fT lo2
  exact Zr_wb (Zr_wb (Zr_lgr (Zr_wb (Zr_wb (Zr_lgr (Zr_wb (Zr_wb (Zr_lgr (Zr_wb (Zr_wb h (by decide) (by decide)) (by decide) (by decide)) (by decide) (by decide)) (by decide) (by decide)) (by decide) (by decide)) (by decide) (by decide)) (by decide) (by decide)) (by decide) (by decide)) (by decide) (by decide)) (by decide) (by decide)) (by decide) (by decide)
section FORMAT
variable {G : GG} {h : AH}
theorem D_wb1 {P : AH → Prop} {x v : Int} (hd : Dk h) (h0 : 0 ≤ x) (h1 : x < 13824) (H : ∀ h', Upd h h' (wb (h 3) x 1 v) → P h') : RunsV G 57 [vR 1, vI x, vI v] h P := D_put hd h0 h1 (fun h' u => H h' (by rw [← wb_1 h0]; exact u))
theorem D_wb2 {P : AH → Prop} {x v : Int} (hd : Dk h) (h0 : 0 ≤ x) (h1 : x + 1 < 13824) (H : ∀ h', Upd h h' (wb (h 3) x 2 v) → P h') : RunsV G 58 [vR 1, vI x, vI v] h P := D_put2 hd h0 h1 (fun h' u => H h' (by rw [← wb_2 h0]; exact u))
theorem D_wb4 {P : AH → Prop} {x v : Int} (hd : Dk h) (h0 : 0 ≤ x) (h1 : x + 3 < 13824) (H : ∀ h', Upd h h' (wb (h 3) x 4 v) → P h') : RunsV G 59 [vR 1, vI x, vI v] h P := D_put4 hd h0 h1 (fun h' u => H h' (by rw [← wb_4 h0]; exact u))
theorem K_sum {P : Int → AH → Prop} {a : Int} {n : Nat} (hb : By (h 3)) (a0 : 0 ≤ a) (a1 : a + n ≤ 13824) (H : ∀ r, r % 4294967296 = sm4 0 (h 3) a n → P r h) : RunsI G 21 [vR 1, vI a, vI (n : Int)] h P := by
  apply q_K_sum
  have key : ∀ (m j : Nat) (x : Int), j + m = n → x % 4294967296 = sm4 0 (h 3) a j → Go G (pI P) 21 5 [some (vR 1), some (vI a), some (vI (n : Int)), some (vI x), some (vI (j : Int))] [] h := by
    intro m
    induction m with
    | zero =>
      intro j x hm e
      apply q_K_sum_c5
      rw [wI_id (z := (j : Int)) (by omega) (by omega), wI_id (z := (n : Int)) (by omega) (by omega)]
      refine ⟨fun _ => H x ?_, fun c => by omega⟩
      rw [show n = j by omega]
      exact e
    | succ m ih =>
      intro j x hm e
      apply q_K_sum_c5
      rw [wI_id (z := (j : Int)) (by omega) (by omega), wI_id (z := (n : Int)) (by omega) (by omega)]
      refine ⟨fun c => by omega, fun _ => D_get (by omega) (by omega) ?_⟩
      rw [show (j : Int) + 1 = ((j + 1 : Nat) : Int) by omega]
      refine ih (j + 1) _ (by omega) ?_
      rw [sm4_n (fun k => k.1 rfl), rot, e]
  exact key n 0 0 (by omega) rfl
theorem K_layOwn {P : Int → AH → Prop} {a v : Int} (hd : Dk h) (h0 : 0 ≤ a) (h1 : a + 3 < 13824) (H : ∀ h', Upd h h' (lo2 (h 3) a v) → P (a + 4) h') : RunsI G 23 [vR 1, vI a, vI v] h P := by
  apply q_K_layOwn
  refine D_wb2 hd h0 (by omega) (fun h2 u1 => ?_)
  refine D_wb2 u1.1 (by omega) (by omega) (fun h3 u2 => H h3 ?_)
  rw [u1.2.1] at u2
  exact u1.trans u2
theorem K_layGreat {P : Int → AH → Prop} {a v w : Int} {n : Nat} (hd : Dk h) (h0 : 0 ≤ a) (h1 : a + 2 * n ≤ 13824) (hv : 0 ≤ v ∧ v ≤ 255) (hw : w = v + n - 1) (hw2 : w ≤ 255) (H : ∀ h', Upd h h' (lgr (h 3) a v n) → P (a + 2 * n) h') : RunsI G 24 [vR 1, vI a, vI v, vI w] h P := by
  apply q_K_layGreat
  have key : ∀ (m j : Nat) (g : AH), j + m = n → Upd h g (lgr (h 3) a v j) → Go G (pI P) 24 3 [some (vR 1), some (vI a), some (vI v), some (vI w), some (vI (v + (j : Int)))] [] g := by
    intro m
    induction m with
    | zero =>
      intro j g hm u
      apply q_K_layGreat_c3
      rw [wI_id (z := w) (by omega) (by omega), wI_id (z := v + (j : Int)) (by omega) (by omega)]
      refine ⟨fun _ => ?_, fun c => by omega⟩
      have := H g (by rw [show n = j by omega]; exact u)
      rw [show a + 2 * (w - v + 1) = a + 2 * (n : Int) by omega]
      exact this
    | succ m ih =>
      intro j g hm u
      apply q_K_layGreat_c3
      rw [wI_id (z := w) (by omega) (by omega), wI_id (z := v + (j : Int)) (by omega) (by omega)]
      refine ⟨fun c => by omega, fun _ => ?_⟩
      rw [show a + 2 * (v + (j : Int) - v) = a + 2 * (j : Int) by omega]
      refine D_wb2 u.1 (by omega) (by omega) (fun g2 u2 => ?_)
      rw [show v + (j : Int) + 1 = v + ((j + 1 : Nat) : Int) by omega]
      rw [u.2.1] at u2
      exact ih (j + 1) g2 (by omega) (u.trans u2)
  have := key n 0 h (by omega) (Upd.rf hd)
  rw [show v + ((0 : Nat) : Int) = v by omega] at this
  exact this
theorem M_layOwn {P : Int → AH → Prop} {a v : Int} (h5 : Sb (h 35)) (h0 : 0 ≤ a) (h1 : a + 3 < 13824) (hv : 0 ≤ v ∧ v < 65536) (H : ∀ h', Sb (h' 35) → ub (h' 35) = lo2 (ub (h 35)) a v → (∀ o, o ≠ 35 → h' o = h o) → P (a + 4) h') : RunsI G 181 [vR 34, vI a, vI v] h P := by
  apply q_M_layOwn
  refine M_put_35 (n := 2) h5 (by decide) h0 (by omega) (by omega) (fun h2 s2 e2 o2 => ?_)
  rw [wI_id (z := v) (by omega) (by omega)]
  refine M_put_35 (n := 2) s2 (by decide) (by omega) (by omega) (by omega) (fun h3 s3 e3 o3 => H h3 s3 ?_ (fun o ho => (o3 o ho).trans (o2 o ho)))
  rw [e3, e2]
  rfl
theorem M_layGreat {P : Int → AH → Prop} {a v w : Int} {n : Nat} (h5 : Sb (h 35)) (h0 : 0 ≤ a) (h1 : a + 2 * n ≤ 13824) (hv : 32 ≤ v ∧ v ≤ 255) (hw : w = v + n - 1) (hw2 : w ≤ 255) (H : ∀ h', Sb (h' 35) → ub (h' 35) = lgr (ub (h 35)) a v n → (∀ o, o ≠ 35 → h' o = h o) → P (a + 2 * n) h') : RunsI G 182 [vR 34, vI a, vI v, vI w] h P := by
  apply q_M_layGreat
  have key : ∀ (m j : Nat) (g : AH), j + m = n → Sb (g 35) → ub (g 35) = lgr (ub (h 35)) a v j → (∀ o, o ≠ 35 → g o = h o) → Go G (pI P) 182 6 [some (vR 34), none, none, some (vI w), some (vI (a + 2 * (j : Int))), some (vI (v + (j : Int)))] [] g := by
    intro m
    induction m with
    | zero =>
      intro j g hm s e fr
      apply q_M_layGreat_c6
      rw [wI_id (z := w) (by omega) (by omega), wI_id (z := v + (j : Int)) (by omega) (by omega)]
      refine ⟨fun _ => ?_, fun c => by omega⟩
      rw [show j = n by omega] at e ⊢
      exact H g s e fr
    | succ m ih =>
      intro j g hm s e fr
      apply q_M_layGreat_c6
      rw [wI_id (z := w) (by omega) (by omega), wI_id (z := v + (j : Int)) (by omega) (by omega), wI_id (z := v + (j : Int) - 32) (by omega) (by omega)]
      refine ⟨fun c => by omega, fun _ => ?_⟩
      refine M_put_35 (n := 2) s (by decide) (by omega) (by omega) (by omega) (fun g2 s2 e2 o2 => ?_)
      rw [show v + (j : Int) + 1 = v + ((j + 1 : Nat) : Int) by omega, show a + 2 * (j : Int) + 2 = a + 2 * ((j + 1 : Nat) : Int) by omega]
      refine ih (j + 1) g2 (by omega) s2 ?_ (fun o ho => (o2 o ho).trans (fr o ho))
      rw [e2, e]
      rfl
  have := key n 0 h (by omega) h5 rfl (fun _ _ => rfl)
  rw [show v + ((0 : Nat) : Int) = v by omega, show a + 2 * ((0 : Nat) : Int) = a by omega] at this
  exact this
theorem B_lay {P : AH → Prop} {a : Int} (hd : Dk h) (a0 : 0 ≤ a) (a1 : a + 256 ≤ 13824) (hi : ∀ k, k < 256 → 0 ≤ h 6 k ∧ h 6 k < 256) (H : ∀ h', Upd h h' (fun k => if a.toNat ≤ k ∧ k < a.toNat + 256 then h 6 (k - a.toNat) else h 3 k) → P h') : RunsV G 16 [vR 5, vI a] h P := by
  apply q_B_lay
  have key : ∀ (m j : Nat) (g : AH), j + m = 256 → Upd h g (fun k => if a.toNat ≤ k ∧ k < a.toNat + j then h 6 (k - a.toNat) else h 3 k) → Go G (pV P) 16 2 [some (vR 5), some (vI a), some (vI (j : Int))] [] g := by
    intro m
    induction m with
    | zero =>
      intro j g hm u
      apply q_B_lay_c2
      rw [wI_id (z := (j : Int)) (by omega) (by omega)]
      refine ⟨fun _ => H g ?_, fun c => by omega⟩
      rw [show 256 = j by omega]
      exact u
    | succ m ih =>
      intro j g hm u
      apply q_B_lay_c2
      rw [wI_id (z := (j : Int)) (by omega) (by omega)]
      refine ⟨fun c => by omega, fun _ => ⟨⟨by omega, by omega⟩, ?_⟩⟩
      rw [u.2.2 6 (by decide) (by decide), show (j : Int).toNat = j by omega]
      refine D_put u.1 (by omega) (by omega) (fun g2 u2 => ?_)
      rw [show (j : Int) + 1 = ((j + 1 : Nat) : Int) by omega]
      refine ih (j + 1) g2 (by omega) (u.trans ?_)
      have e : wr (g 3) (a + (j : Int)) (h 6 j % 256) = fun k => if a.toNat ≤ k ∧ k < a.toNat + (j + 1) then h 6 (k - a.toNat) else h 3 k := by
        rw [u.2.1]
        funext k
        unfold wr
        dsimp only
        have := hi j (by omega)
        by_cases c : k = (a + (j : Int)).toNat
        · rw [if_pos c, if_pos (by omega), show k - a.toNat = j by omega]; omega
        · rw [if_neg c]
          by_cases c2 : a.toNat ≤ k ∧ k < a.toNat + j
          · rw [if_pos c2, if_pos (by omega)]
          · rw [if_neg c2, if_neg (by omega)]
      rw [← e]
      exact u2
  refine key 256 0 h rfl ?_
  have e : (fun k => if a.toNat ≤ k ∧ k < a.toNat + 0 then h 6 (k - a.toNat) else h 3 k) = h 3 := by
    funext k
    rw [if_neg (by omega)]
  rw [e]
  exact Upd.rf hd
end FORMAT
