/-! the class's Disk: what is wanted (3) is a function of places; what is touched lies behind Dk -/
def rd (f : Nat → Int) (a : Int) : Int := f a.toNat
def wr (f : Nat → Int) (a v : Int) : Nat → Int := fun k => if k = a.toNat then v else f k
theorem rd_wr {f : Nat → Int} {a v b : Int} (hb : 0 ≤ b) (ha : 0 ≤ a) : rd (wr f a v) b = if b = a then v else rd f b := by
  unfold rd wr
  by_cases h : b = a
  · subst h; rw [if_pos rfl, if_pos rfl]
  · rw [if_neg h, if_neg (by omega)]
theorem rd_wr_ne {f : Nat → Int} {a v b : Int} (hb : 0 ≤ b) (ha : 0 ≤ a) (h : b ≠ a) : rd (wr f a v) b = rd f b := by rw [rd_wr hb ha, if_neg h]
theorem rd_wr_eq {f : Nat → Int} {a v : Int} (ha : 0 ≤ a) : rd (wr f a v) a = v := by rw [rd_wr ha ha, if_pos rfl]
def By (f : Nat → Int) : Prop := ∀ k, k < 13824 → 0 ≤ f k ∧ f k < 256
theorem By.rd {f : Nat → Int} (h : By f) {a : Int} (h0 : 0 ≤ a) (h1 : a < 13824) : 0 ≤ rd f a ∧ rd f a < 256 := h a.toNat (by omega)
theorem By_wr {f : Nat → Int} (h : By f) {a v : Int} (h0 : 0 ≤ v) (h1 : v < 256) : By (wr f a v) := by
  intro k hk
  unfold wr
  split
  · exact ⟨h0, h1⟩
  · exact h k hk
def Dk (h : AH) : Prop := By (h 2) ∧ By (h 3) ∧ (∀ s, s < 216 → h 4 s = 0 ∨ h 4 s = 1) ∧ (∀ k, k < 13824 → h 4 (k / 64) = 0 → h 3 k = h 2 k)
/-- what is wanted becomes f, all else of the heap stays (but what is touched) -/
def Upd (h h' : AH) (f : Nat → Int) : Prop := Dk h' ∧ h' 3 = f ∧ ∀ o, o ≠ 3 → o ≠ 4 → h' o = h o
theorem Upd.rf {h : AH} (hd : Dk h) : Upd h h (h 3) := ⟨hd, rfl, fun _ _ _ => rfl⟩
theorem Upd.trans {h h1 h2 : AH} {f g : Nat → Int} (a : Upd h h1 f) (b : Upd h1 h2 g) : Upd h h2 g := ⟨b.1, b.2.1, fun o p q => (b.2.2 o p q).trans (a.2.2 o p q)⟩
section DISK
variable {G : GG} {h : AH}
theorem D_get {P : Int → AH → Prop} {x : Int} (h0 : 0 ≤ x) (h1 : x < 13824) (H : P (rd (h 3) x) h) : RunsI G 54 [vR 1, vI x] h P := by
  apply q_D_get
  rw [wI_id (by omega) (by omega)]
  exact ⟨fun c => by omega, fun _ => ⟨fun c => by omega, fun _ => ⟨⟨h0, h1⟩, H⟩⟩⟩
theorem D_get2 {P : Int → AH → Prop} {x : Int} (hd : By (h 3)) (h0 : 0 ≤ x) (h1 : x + 1 < 13824) (H : P (rd (h 3) x + 256 * rd (h 3) (x + 1)) h) : RunsI G 55 [vR 1, vI x] h P := by
  apply q_D_get2
  have b0 := hd.rd h0 (show x < 13824 by omega)
  have b1 := hd.rd (show 0 ≤ x + 1 by omega) h1
  rw [wI_id (z := x) (by omega) (by omega), wI_id (z := x + 1) (by omega) (by omega), wI_id (z := 13824 - 1) (by omega) (by omega)]
  refine ⟨fun c => by omega, fun _ => ⟨fun c => by omega, fun _ => ⟨⟨h0, by omega⟩, ⟨by omega, h1⟩, ?_⟩⟩⟩
  have e : bO (h 3 x.toNat) (sLI (h 3 (x + 1).toNat) 8) = rd (h 3) x + 256 * rd (h 3) (x + 1) := by
    unfold rd at b0 b1 ⊢
    rw [sLI_8, bO_add _ _ 8 (by decide) b0.1 b0.2 ⟨h 3 (x + 1).toNat, by omega⟩, wI_id (by omega) (by omega)]
    omega
  rw [e]
  exact H
/-- four octets, as an int -/
def u4 (f : Nat → Int) (x : Int) : Int := rd f x + 256 * rd f (x + 1) + 65536 * rd f (x + 2) + 16777216 * rd f (x + 3)
theorem u4_rng {f : Nat → Int} (hd : By f) {x : Int} (h0 : 0 ≤ x) (h1 : x + 3 < 13824) : 0 ≤ u4 f x ∧ u4 f x < 4294967296 := by
  have b0 := hd.rd h0 (show x < 13824 by omega)
  have b1 := hd.rd (show 0 ≤ x + 1 by omega) (show x + 1 < 13824 by omega)
  have b2 := hd.rd (show 0 ≤ x + 2 by omega) (show x + 2 < 13824 by omega)
  have b3 := hd.rd (show 0 ≤ x + 3 by omega) h1
  unfold u4
  omega
theorem D_get4 {P : Int → AH → Prop} {x : Int} (hd : By (h 3)) (h0 : 0 ≤ x) (h1 : x + 3 < 13824) (H : P (wI (u4 (h 3) x)) h) : RunsI G 56 [vR 1, vI x] h P := by
  apply q_D_get4
  have b0 := hd.rd h0 (show x < 13824 by omega)
  have b1 := hd.rd (show 0 ≤ x + 1 by omega) (show x + 1 < 13824 by omega)
  have b2 := hd.rd (show 0 ≤ x + 2 by omega) (show x + 2 < 13824 by omega)
  have b3 := hd.rd (show 0 ≤ x + 3 by omega) h1
  rw [wI_id (z := x) (by omega) (by omega), wI_id (z := x + 1) (by omega) (by omega), wI_id (z := x + 2) (by omega) (by omega), wI_id (z := x + 3) (by omega) (by omega), wI_id (z := 13824 - 3) (by omega) (by omega)]
  refine ⟨fun c => by omega, fun _ => ⟨fun _ => ⟨⟨h0, by omega⟩, ⟨by omega, by omega⟩, ⟨by omega, by omega⟩, ⟨by omega, h1⟩, ?_⟩, fun c => by omega⟩⟩
  unfold u4 rd at *
  have e1 : bO (h 3 x.toNat) (sLI (h 3 (x + 1).toNat) 8) = h 3 x.toNat + 256 * h 3 (x + 1).toNat := by
    rw [sLI_8, bO_add _ _ 8 (by decide) b0.1 b0.2 ⟨h 3 (x + 1).toNat, by omega⟩, wI_id (by omega) (by omega)]
    omega
  have e2 : bO (h 3 x.toNat + 256 * h 3 (x + 1).toNat) (sLI (h 3 (x + 2).toNat) 16) = h 3 x.toNat + 256 * h 3 (x + 1).toNat + 65536 * h 3 (x + 2).toNat := by
    rw [sLI_16, bO_add _ _ 16 (by decide) (by omega) (by omega) ⟨h 3 (x + 2).toNat, by omega⟩, wI_id (by omega) (by omega)]
    omega
  have e3 : bO (h 3 x.toNat + 256 * h 3 (x + 1).toNat + 65536 * h 3 (x + 2).toNat) (sLI (h 3 (x + 3).toNat) 24) = wI (h 3 x.toNat + 256 * h 3 (x + 1).toNat + 65536 * h 3 (x + 2).toNat + 16777216 * h 3 (x + 3).toNat) := by
    rw [sLI_24, bO_add _ _ 24 (by decide) (by omega) (by omega) ⟨h 3 (x + 3).toNat, by omega⟩]
    congr 1
    omega
  rw [e1, e2, e3]
  exact H
theorem D_put {P : AH → Prop} {x v : Int} (hd : Dk h) (h0 : 0 ≤ x) (h1 : x < 13824) (H : ∀ h', Upd h h' (wr (h 3) x (v % 256)) → P h') : RunsV G 57 [vR 1, vI x, vI v] h P := by
  apply q_D_put
  have e1 : Int.tdiv x 64 = x / 64 := tdiv_pos h0
  rw [wI_id (z := x) (by omega) (by omega), e1, wI_id (z := x / 64) (by omega) (by omega)]
  refine ⟨fun c => by omega, fun _ => ⟨fun c => by omega, fun _ => ⟨⟨h0, h1⟩, by decide, ⟨by omega, by omega⟩, Or.inr rfl, H _ ⟨⟨?_, ?_, ?_, ?_⟩, ?_, ?_⟩⟩⟩⟩
  · rw [hs_o _ _ _ _ _ (by decide), hs_o _ _ _ _ _ (by decide)]; exact hd.1
  · rw [hs_o _ _ _ _ _ (by decide)]
    have := By_wr hd.2.1 (a := x) (v := v % 256) (by omega) (by omega)
    intro k hk
    have h9 := this k hk
    unfold wr at h9
    rw [hs_app, if_pos rfl, bA_255]
    exact h9
  · intro s hs9
    rw [hs_app, if_pos rfl]
    split
    · exact Or.inr rfl
    · rw [hs_o _ _ _ _ _ (by decide)]; exact hd.2.2.1 s hs9
  · intro k hk h4
    rw [hs_app, if_pos rfl] at h4
    split at h4
    · omega
    · rename_i hne
      rw [hs_o _ _ _ _ _ (by decide)] at h4
      rw [hs_o _ _ _ _ 1 (show (3 : Nat) ≠ 4 by decide), hs_o _ _ _ _ 1 (show (2 : Nat) ≠ 4 by decide), hs_o _ _ _ _ _ (show (2 : Nat) ≠ 3 by decide), hs_app, if_pos rfl, if_neg (by omega)]
      exact hd.2.2.2 k hk h4
  · rw [hs_o _ _ _ _ _ (by decide), hs_eq, bA_255]; rfl
  · intro o p q
    rw [hs_o _ _ _ _ _ q, hs_o _ _ _ _ _ p]
theorem D_put2 {P : AH → Prop} {x v : Int} (hd : Dk h) (h0 : 0 ≤ x) (h1 : x + 1 < 13824) (H : ∀ h', Upd h h' (wr (wr (h 3) x (v % 256)) (x + 1) (v / 256 % 256)) → P h') : RunsV G 58 [vR 1, vI x, vI v] h P := by
  apply q_D_put2
  refine D_put hd h0 (by omega) (fun h2 u1 => ?_)
  refine D_put u1.1 (by omega) h1 (fun h3 u2 => H h3 ?_)
  have e : sUI v 8 % 256 = v / 256 % 256 := by show v % 4294967296 / 256 % 256 = _; omega
  rw [e, u1.2.1] at u2
  exact u1.trans u2
def wr4 (f : Nat → Int) (x v : Int) : Nat → Int := wr (wr (wr (wr f x (v % 256)) (x + 1) (v / 256 % 256)) (x + 2) (v / 65536 % 256)) (x + 3) (v / 16777216 % 256)
theorem D_put4 {P : AH → Prop} {x v : Int} (hd : Dk h) (h0 : 0 ≤ x) (h1 : x + 3 < 13824) (H : ∀ h', Upd h h' (wr4 (h 3) x v) → P h') : RunsV G 59 [vR 1, vI x, vI v] h P := by
  apply q_D_put4
  apply q_D_put4_c2
  refine ⟨fun c => absurd c (by decide), fun _ => ?_⟩
  refine D_put hd (by omega) (by omega) (fun h2 u1 => ?_)
  apply q_D_put4_c2
  refine ⟨fun c => absurd c (by decide), fun _ => ?_⟩
  refine D_put u1.1 (by omega) (by omega) (fun h3 u2 => ?_)
  apply q_D_put4_c2
  refine ⟨fun c => absurd c (by decide), fun _ => ?_⟩
  refine D_put u2.1 (by omega) (by omega) (fun h4 u3 => ?_)
  apply q_D_put4_c2
  refine ⟨fun c => absurd c (by decide), fun _ => ?_⟩
  refine D_put u3.1 (by omega) (by omega) (fun h5 u4 => ?_)
  apply q_D_put4_c2
  refine ⟨fun _ => H h5 ?_, fun c => absurd (by decide) c⟩
  have e0 : sUI v (8 * 0) % 256 = v % 256 := by show v % 4294967296 / 1 % 256 = _; omega
  have e1 : sUI v (8 * (0 + 1)) % 256 = v / 256 % 256 := by show v % 4294967296 / 256 % 256 = _; omega
  have e2 : sUI v (8 * (0 + 1 + 1)) % 256 = v / 65536 % 256 := by show v % 4294967296 / 65536 % 256 = _; omega
  have e3 : sUI v (8 * (0 + 1 + 1 + 1)) % 256 = v / 16777216 % 256 := by show v % 4294967296 / 16777216 % 256 = _; omega
  rw [e0] at u1
  rw [e1, u1.2.1] at u2
  rw [e2, u2.2.1] at u3
  rw [e3, u3.2.1] at u4
  have u5 := ((u1.trans u2).trans u3).trans u4
  unfold wr4
  rw [show x + (0 + 1 + 1 + 1) = x + 3 by omega, show x + (0 + 1 + 1) = x + 2 by omega, show x + (0 + 1) = x + 1 by omega, show x + 0 = x by omega] at u5
  exact u5
/-- n octets from x on become v -/
def fil (f : Nat → Int) (x : Int) (n : Nat) (v : Int) : Nat → Int := fun k => if x.toNat ≤ k ∧ k < x.toNat + n then v else f k
theorem fil_0 (f : Nat → Int) (x v : Int) : fil f x 0 v = f := by
  funext k; unfold fil; rw [if_neg (by omega)]
theorem fil_succ (f : Nat → Int) (x : Int) (n : Nat) (v : Int) (h0 : 0 ≤ x) : wr (fil f x n v) (x + n) v = fil f x (n + 1) v := by
  funext k
  unfold fil wr
  dsimp only
  by_cases h : k = (x + n).toNat
  · rw [if_pos h, if_pos (by omega)]
  · rw [if_neg h]
    by_cases h2 : x.toNat ≤ k ∧ k < x.toNat + n
    · rw [if_pos h2, if_pos (by omega)]
    · rw [if_neg h2, if_neg (by omega)]
theorem D_blank {P : AH → Prop} {x n : Int} (hd : Dk h) (h0 : 0 ≤ x) (hn : 0 ≤ n) (h1 : x + n ≤ 13824) (H : ∀ h', Upd h h' (fil (h 3) x n.toNat 0) → P h') : RunsV G 60 [vR 1, vI x, vI n] h P := by
  apply q_D_blank
  have key : ∀ (m j : Nat) (h1' : AH), (j : Int) + m = n → Upd h h1' (fil (h 3) x j 0) → Go G (pV P) 60 2 [some (vR 1), some (vI x), some (vI n), some (vI (j : Int))] [] h1' := by
    intro m
    induction m with
    | zero =>
      intro j h1' hj u
      apply q_D_blank_c2
      rw [wI_id (z := n) (by omega) (by omega), wI_id (z := (j : Int)) (by omega) (by omega)]
      refine ⟨fun _ => H h1' ?_, fun c => by omega⟩
      rw [show n.toNat = j by omega]
      exact u
    | succ m ih =>
      intro j h1' hj u
      apply q_D_blank_c2
      rw [wI_id (z := n) (by omega) (by omega), wI_id (z := (j : Int)) (by omega) (by omega)]
      refine ⟨fun c => by omega, fun _ => ?_⟩
      refine D_put u.1 (by omega) (by omega) (fun h2 u2 => ?_)
      rw [u.2.1, show (0 : Int) % 256 = 0 from rfl, fil_succ _ _ _ _ h0] at u2
      exact ih (j + 1) h2 (by omega) (u.trans u2)
  have u0 : Upd h h (fil (h 3) x 0 0) := by rw [fil_0]; exact Upd.rf hd
  exact key n.toNat 0 h (by omega) u0
/-- all octets from x to y (y not) are 0 -/
def zer (f : Nat → Int) (x y : Int) : Prop := ∀ a, x ≤ a → a < y → rd f a = 0
theorem D_isBlank {P : Int → AH → Prop} {x y : Int} (hd : By (h 3)) (h0 : 0 ≤ x) (hxy : x ≤ y) (h1 : y ≤ 13824) (H1 : zer (h 3) x y → P 1 h) (H0 : ¬ zer (h 3) x y → P 0 h) : RunsI G 61 [vR 1, vI x, vI y] h P := by
  apply q_D_isBlank
  have key : ∀ (m : Nat) (j : Int), j + m = y → x ≤ j → (∀ a, x ≤ a → a < j → rd (h 3) a = 0) → Go G (pI P) 61 2 [some (vR 1), none, some (vI y), some (vI j)] [] h := by
    intro m
    induction m with
    | zero =>
      intro j hj hx hz
      apply q_D_isBlank_c2
      rw [wI_id (z := y) (by omega) (by omega), wI_id (z := j) (by omega) (by omega)]
      exact ⟨fun _ => ⟨Or.inr rfl, H1 (fun a h2 h3 => hz a h2 (by omega))⟩, fun c => by omega⟩
    | succ m ih =>
      intro j hj hx hz
      apply q_D_isBlank_c2
      rw [wI_id (z := y) (by omega) (by omega), wI_id (z := j) (by omega) (by omega)]
      refine ⟨fun c => by omega, fun _ => ?_⟩
      refine D_get (by omega) (by omega) ?_
      have b := hd.rd (show 0 ≤ j by omega) (show j < 13824 by omega)
      rw [wI_id (by omega) (by omega)]
      refine ⟨fun c => ih (j + 1) (by omega) (by omega) (fun a h2 h3 => ?_), fun c => ⟨Or.inl rfl, H0 (fun z => c (z j hx (by omega)))⟩⟩
      by_cases ha : a = j
      · rw [ha]; exact c
      · exact hz a h2 (by omega)
  exact key (y - x).toNat x (by omega) (by omega) (fun a h2 h3 => by omega)
end DISK
