/-! room for a SET -/
def blk (w s : Nat → Int) : Nat → Nat → Int
  | 0 => w
  | m + 1 => fil (blk w s m) (ca (s m)) 128 0
def blX (w : Nat → Int) (X : Int) : Nat → Int := if X = 0 then w else fil w (ca X) 128 0
theorem rd_fil {w : Nat → Int} {a x v : Int} {m : Nat} (a0 : 0 ≤ a) (x0 : 0 ≤ x) : rd (fil w a m v) x = if a ≤ x ∧ x < a + m then v else rd w x := by
  unfold rd fil
  by_cases c : a ≤ x ∧ x < a + m
  · rw [if_pos c, if_pos (by omega)]
  · rw [if_neg c, if_neg (by omega)]
theorem By_fil {w : Nat → Int} {a : Int} {m : Nat} (h : By w) : By (fil w a m 0) := fun k hk => by
  unfold fil
  split
  · decide
  · exact h k hk
theorem By_blk {w s : Nat → Int} (h : By w) : ∀ m, By (blk w s m)
  | 0 => h
  | m + 1 => By_fil (By_blk h m)
theorem By_blX {w : Nat → Int} {X : Int} (h : By w) : By (blX w X) := by
  unfold blX
  split
  · exact h
  · exact By_fil h
theorem blk_ne {w s : Nat → Int} {x : Int} (x0 : 0 ≤ x) : ∀ m : Nat, (∀ i, i < m → 2 ≤ s i ∧ (x < ca (s i) ∨ ca (s i) + 128 ≤ x)) → rd (blk w s m) x = rd w x
  | 0, _ => rfl
  | m + 1, h => by
    have q := h m (by omega)
    rw [blk, rd_fil (by unfold ca; omega) x0, if_neg (by omega)]
    exact blk_ne x0 m (fun i hi => h i (by omega))
theorem blk_z {w s : Nat → Int} {x : Int} (x0 : 0 ≤ x) : ∀ m : Nat, (∀ i, i < m → 2 ≤ s i) → (∃ i, i < m ∧ ca (s i) ≤ x ∧ x < ca (s i) + 128) → rd (blk w s m) x = 0
  | 0, _, ⟨i, hi, _⟩ => absurd hi (Nat.not_lt_zero _)
  | m + 1, h, ⟨i, hi, y0, y1⟩ => by
    have q := h m (by omega)
    rw [blk, rd_fil (by unfold ca; omega) x0]
    by_cases c : ca (s m) ≤ x ∧ x < ca (s m) + (128 : Nat)
    · rw [if_pos c]
    · rw [if_neg c]
      refine blk_z x0 m (fun j hj => h j (by omega)) ⟨i, ?_, y0, y1⟩
      by_cases z : i = m
      · rw [z] at y0 y1; omega
      · omega
theorem blX_ne {w : Nat → Int} {X x : Int} (x0 : 0 ≤ x) (hX : X = 0 ∨ 2 ≤ X) (no : X ≠ 0 → x < ca X ∨ ca X + 128 ≤ x) : rd (blX w X) x = rd w x := by
  unfold blX
  split
  · rfl
  · rename_i c
    have := no c
    rw [rd_fil (by unfold ca; omega) x0, if_neg (by omega)]
theorem blX_z {w : Nat → Int} {X x : Int} (x0 : 0 ≤ x) (hX : 2 ≤ X) (y0 : ca X ≤ x) (y1 : x < ca X + 128) : rd (blX w X) x = 0 := by
  unfold blX
  rw [if_neg (by omega), rd_fil (by unfold ca; omega) x0, if_pos (by omega)]
section ROOM
variable (f : Nat → Int) (n mp X : Int) (t R : AH) (jd k : Nat)
def dWr : Int := if jd = 0 then 0 else bR f (t 1 jd)
noncomputable def dSq : Nat → Int := frs f mp n X (Kt t jd) (R jd (Kt t jd - 1)) (dWr f t jd) k
noncomputable def dRn : Int := if k = 0 then dWr f t jd else rnF f mp n X (Kt t jd) (R jd (Kt t jd - 1)) (dWr f t jd) k
noncomputable def dRo : Nat → Int := app (R jd) (Kt t jd) (dSq f n mp X t R jd k)
noncomputable def dB : Nat → Int := blk (blX (so1 f) X) (dSq f n mp X t R jd k) k
noncomputable def d1 : Nat → Int := tk1 (dB f n mp X t R jd k) (R jd) (Kt t jd) (dWr f t jd) (dSq f n mp X t R jd k) k (dRn f n mp X t R jd k)
noncomputable def d2 : Nat → Int := tk2 (d1 f n mp X t R jd k) (R jd) (Kt t jd) (dSq f n mp X t R jd k) k (dRn f n mp X t R jd k)
noncomputable def d3 : Nat → Int := tkX (tbm (d2 f n mp X t R jd k) mp (dSq f n mp X t R jd k) k) mp X
noncomputable def d4 (tm : Int) : Nat → Int := if k = 0 ∨ jd = 0 then d3 f n mp X t R jd k else rly (d3 f n mp X t R jd k) (ha (t 1 jd)) (ea (R (pt t jd)) (t 3 jd + 2)) (dRn f n mp X t R jd k) (dRo f n mp X t R jd k 0) (128 * ((Kt t jd + k : Nat) : Int)) tm
end ROOM
/-- what comes of the tree -/
def GRo (t R t1 R1 : AH) (jd k : Nat) (s : Nat → Int) : Prop := (∀ j, al t1 j ↔ al t j) ∧ t1 1 = t 1 ∧ t1 2 = t 2 ∧ t1 3 = t 3 ∧ t1 5 = t 5 ∧ (∀ j, j ≠ jd → Kt t1 j = Kt t j ∧ ∀ i, R1 j i = R j i) ∧ Kt t1 jd = Kt t jd + k ∧ ∀ i, i < Kt t jd + k → R1 jd i = app (R jd) (Kt t jd) s i
section ROOM2
variable {f g : Nat → Int} {n root mp X : Int} {t R : AH} {jd k : Nat}
theorem dWr_01 : dWr f t jd = 0 ∨ dWr f t jd = 1 := by
  unfold dWr
  split
  · exact Or.inl rfl
  · exact bR_01 _ _
theorem dRn_01 : dRn f n mp X t R jd k = 0 ∨ dRn f n mp X t R jd k = 1 := by
  unfold dRn rnF
  split
  · exact dWr_01
  · split
    · exact Or.inl rfl
    · exact Or.inr rfl
/-- the promised one -/
def PX (f : Nat → Int) (mp n X : Int) : Prop := X = 0 ∨ fre f mp n 0 X
theorem dSq_ok (kc : 0 < k → k ≤ cf f mp n X n.toNat) : (∀ i, i < k → clu n (dSq f n mp X t R jd k i) ∧ tb f mp (dSq f n mp X t R jd k i) = 0 ∧ dSq f n mp X t R jd k i ≠ X) ∧ (∀ i j, i < j → j < k → dSq f n mp X t R jd k i ≠ dSq f n mp X t R jd k j) := by
  refine ⟨fun i hi => ?_, fun i j ij hj => ?_⟩
  · have := frs_fre (f := f) (mp := mp) (n := n) (X := X) (K := Kt t jd) (last := R jd (Kt t jd - 1)) (wr' := dWr f t jd) (kc (by omega)) i hi
    exact ⟨this.1, this.2.1, this.2.2⟩
  · have := frs_ne (f := f) (mp := mp) (n := n) (X := X) (K := Kt t jd) (last := R jd (Kt t jd - 1)) (wr' := dWr f t jd) (kc (by omega)) i j ij hj
    unfold dSq
    omega
theorem app_le (v : V f g n root mp t R) (a : al t jd) {s : Nat → Int} (c : ∀ i, i < k → clu n (s i) ∧ tb f mp (s i) = 0) (d : ∀ i j, i < j → j < k → s i ≠ s j) : ((Kt t jd + k : Nat) : Int) ≤ n := by
  have nn := V_n v
  refine php2 (m := Kt t jd + k) (F := app (R jd) (Kt t jd) s) (fun i hi => ?_) (by omega) (fun i i' p p' y => ?_)
  · unfold app
    split
    · exact (v.1.2.1 jd a i (by assumption)).1
    · exact (c _ (by omega)).1
  · unfold app at y
    by_cases z : i' < Kt t jd
    · rw [if_pos z, if_pos (by omega)] at y
      have := (v.1.2.2.1 jd jd i i' a a (by omega) z y).2
      omega
    · rw [if_neg z] at y
      by_cases z2 : i < Kt t jd
      · rw [if_pos z2] at y
        exact (V_fresh v (c (i' - Kt t jd) (by omega)).2).2 jd a i z2 y
      · rw [if_neg z2] at y
        exact d (i - Kt t jd) (i' - Kt t jd) (by omega) (by omega) y
theorem dB_bas (v : V f g n root mp t R) (kc : 0 < k → k ≤ cf f mp n X n.toNat) (px : PX f mp n X) : Bas (so1 f) (dB f n mp X t R jd k) mp t R := by
  have nn := V_n v
  have mpc := V_mp v
  unfold clu at mpc
  obtain ⟨o1, o2⟩ := dSq_ok (t := t) (R := R) (jd := jd) kc
  have s2 : ∀ i, i < k → 2 ≤ dSq f n mp X t R jd k i := fun i hi => by have := (o1 i hi).1; unfold clu at this; omega
  have X2 : X = 0 ∨ 2 ≤ X := by
    rcases px with z | z
    · exact Or.inl z
    · exact Or.inr z.1.1
  have ne : ∀ x, 0 ≤ x → (∀ i, i < k → x < ca (dSq f n mp X t R jd k i) ∨ ca (dSq f n mp X t R jd k i) + 128 ≤ x) → (X ≠ 0 → x < ca X ∨ ca X + 128 ≤ x) → rd (dB f n mp X t R jd k) x = rd (so1 f) x := fun x x0 h1 h2 => by
    unfold dB
    rw [blk_ne x0 _ (fun i hi => ⟨s2 i hi, h1 i hi⟩), blX_ne x0 X2 h2]
  refine ⟨By_blk (By_blX (By_wb (V_by v))) _, fun x x0 x1 => ne x (by omega) (fun i hi => ?_) (fun hX => ?_), fun j a d i hi x x0 x1 => ne x ?_ (fun i' hi' => ?_) (fun hX => ?_), fun x x0 x1 => ne x ?_ (fun i hi => ?_) (fun hX => ?_)⟩
  · have := s2 i hi
    unfold ca
    omega
  · have := X2.resolve_left hX
    unfold ca
    omega
  · have := V_rr v a i hi
    unfold ca at x0
    omega
  · have := (V_fresh v (o1 i' hi').2.1).2 j a i hi
    unfold ca at *
    omega
  · have := (V_fresh v (px.resolve_left hX).2.1).2 j a i hi
    unfold ca at *
    omega
  · unfold ca at x0
    omega
  · have := (V_fresh v (o1 i hi).2.1).1
    unfold ca at *
    omega
  · have := (V_fresh v (px.resolve_left hX).2.1).1
    unfold ca at *
    omega
theorem PX_rng (v : V f g n root mp t R) (px : PX f mp n X) : X = 0 ∨ (2 ≤ X ∧ X ≤ 101) := by
  have nn := V_n v
  rcases px with z | z
  · exact Or.inl z
  · have := z.1
    exact Or.inr (by omega)
theorem d3_hi (v : V f g n root mp t R) (a : al t jd) (kc : 0 < k → k ≤ cf f mp n X n.toNat) (px : PX f mp n X) {x : Int} (x0 : 1024 ≤ x) (xm : x < ca mp ∨ ca mp + 128 ≤ x) : rd (d3 f n mp X t R jd k) x = rd (dB f n mp X t R jd k) x := by
  have nn := V_n v
  have mpc := V_mp v
  unfold clu at mpc
  obtain ⟨o1, o2⟩ := dSq_ok (t := t) (R := R) (jd := jd) kc
  exact tkA_hi (u := dB f n mp X t R jd k) (X := X) (r := R jd) (s := dSq f n mp X t R jd k) (K := Kt t jd) (k := k) (wr' := dWr f t jd) (run := dRn f n mp X t R jd k) (show 2 ≤ mp ∧ mp ≤ 101 by omega) (PX_rng v px) (V_rr v a) (fun i hi => by have := (o1 i hi).1; unfold clu at this; omega) x0 xm
theorem d3_dir (v : V f g n root mp t R) (a : al t jd) (kc : 0 < k → k ≤ cf f mp n X n.toNat) (px : PX f mp n X) {j i : Nat} (aj : al t j) (dj : dirT f t j) (hi : i < Kt t j) {x : Int} (x0 : ca (R j i) ≤ x) (x1 : x < ca (R j i) + 128) : rd (d3 f n mp X t R jd k) x = rd f x := by
  have nn := V_n v
  have mpc := V_mp v
  unfold clu at mpc
  have c := V_rr v aj i hi
  have nm := (v.1.2.1 j aj i hi).2
  have b := dB_bas (jd := jd) v kc px
  have dj1 : dirT (so1 f) t j := by
    rcases dj with d | d
    · exact Or.inl d
    · by_cases z : j = 0
      · exact Or.inl z
      · have rg := V_rng v (show 1 ≤ j by omega) aj
        refine Or.inr ?_
        have e4 : u2 (so1 f) (ha (t 1 j) + 4) = u2 f (ha (t 1 j) + 4) := u2_cg (so1_hi f (by omega)) (so1_hi f (by omega))
        unfold isD at d ⊢
        rw [e4]
        exact d
  rw [d3_hi v a kc px (by unfold ca at x0; omega) (by unfold ca at *; omega), b.2.2.1 j aj dj1 i hi x x0 x1]
  exact so1_hi f (by unfold ca at x0; omega)
/-- the new CLUSTERS are empty -/
theorem d3_new (v : V f g n root mp t R) (a : al t jd) (kc : 0 < k → k ≤ cf f mp n X n.toNat) (px : PX f mp n X) {i : Nat} (hi : i < k) {x : Int} (x0 : ca (dSq f n mp X t R jd k i) ≤ x) (x1 : x < ca (dSq f n mp X t R jd k i) + 128) : rd (d3 f n mp X t R jd k) x = 0 := by
  have nn := V_n v
  have mpc := V_mp v
  unfold clu at mpc
  obtain ⟨o1, o2⟩ := dSq_ok (t := t) (R := R) (jd := jd) kc
  have c := (o1 i hi).1
  have nm := (V_fresh v (o1 i hi).2.1).1
  unfold clu at c
  rw [d3_hi v a kc px (by unfold ca at x0; omega) (by unfold ca at *; omega)]
  unfold dB
  exact blk_z (by unfold ca at x0; omega) _ (fun i' hi' => by have := (o1 i' hi').1; unfold clu at this; omega) ⟨i, hi, x0, x1⟩
theorem d3_X (v : V f g n root mp t R) (a : al t jd) (kc : 0 < k → k ≤ cf f mp n X n.toNat) (px : PX f mp n X) (hX : X ≠ 0) {x : Int} (x0 : ca X ≤ x) (x1 : x < ca X + 128) : rd (d3 f n mp X t R jd k) x = 0 := by
  have nn := V_n v
  have mpc := V_mp v
  unfold clu at mpc
  have fX := px.resolve_left hX
  have c := fX.1
  have nm := (V_fresh v fX.2.1).1
  obtain ⟨o1, o2⟩ := dSq_ok (t := t) (R := R) (jd := jd) kc
  rw [d3_hi v a kc px (by unfold ca at x0; omega) (by unfold ca at *; omega)]
  unfold dB
  rw [blk_ne (by unfold ca at x0; omega) _ (fun i hi => ?_)]
  · exact blX_z (by unfold ca at x0; omega) c.1 x0 x1
  · have c1 := (o1 i hi).1
    have ne := (o1 i hi).2.2
    unfold clu at c1
    unfold ca at *
    omega
theorem d3_ft (v : V f g n root mp t R) (a : al t jd) (kc : 0 < k → k ≤ cf f mp n X n.toNat) (px : PX f mp n X) {c : Int} (c0 : 0 ≤ c) (c1 : c ≤ 101) : ft (d3 f n mp X t R jd k) c = ft (d2 f n mp X t R jd k) c := by
  have nn := V_n v
  have mpc := V_mp v
  unfold clu at mpc
  obtain ⟨o1, o2⟩ := dSq_ok (t := t) (R := R) (jd := jd) kc
  exact tkA_ft (u := dB f n mp X t R jd k) (X := X) (r := R jd) (s := dSq f n mp X t R jd k) (K := Kt t jd) (k := k) (wr' := dWr f t jd) (run := dRn f n mp X t R jd k) (show 2 ≤ mp ∧ mp ≤ 101 by omega) (PX_rng v px) (fun i hi => by have := (o1 i hi).1; unfold clu at this; omega) c0 c1
theorem d3_fto (v : V f g n root mp t R) (a : al t jd) (kc : 0 < k → k ≤ cf f mp n X n.toNat) (px : PX f mp n X) {j i : Nat} (aj : al t j) (hi : i < Kt t j) (h : k = 0 ∨ j ≠ jd) : ft (d3 f n mp X t R jd k) (R j i) = ft f (R j i) := by
  have nn := V_n v
  have c := V_rr v aj i hi
  obtain ⟨o1, o2⟩ := dSq_ok (t := t) (R := R) (jd := jd) kc
  have b := dB_bas (jd := jd) v kc px
  have e3 : ft (dB f n mp X t R jd k) (R j i) = ft f (R j i) := by
    rw [Bas_ft b (by omega) (by omega)]
    exact u4_cg (fun x _ _ => so1_hi f (by omega))
  rw [d3_ft v a kc px (by omega) (by omega), ← e3]
  unfold d2 d1
  by_cases z : k = 0
  · rw [tk2_id (Or.inr z), tk1_id (Or.inr z)]
  · refine tk_out (V_rr v a) (fun i hi => by have := (o1 i hi).1; unfold clu at this; omega) (by omega) (fun i2 h2 y => ?_) (fun i2 h2 => (V_fresh v (o1 i2 h2).2.1).2 j aj i hi)
    exact (h.resolve_left z) (v.1.2.2.1 j jd i i2 aj a hi h2 y).1
theorem d3_tb (v : V f g n root mp t R) (a : al t jd) (kc : 0 < k → k ≤ cf f mp n X n.toNat) (px : PX f mp n X) {c : Int} (hc : 2 ≤ c ∧ c ≤ 101) (y : tb f mp c = 1 ∨ (∃ i, i < k ∧ c = dSq f n mp X t R jd k i) ∨ c = X) : tb (d3 f n mp X t R jd k) mp c = 1 := by
  have nn := V_n v
  have mpc := V_mp v
  unfold clu at mpc
  obtain ⟨o1, o2⟩ := dSq_ok (t := t) (R := R) (jd := jd) kc
  have b := dB_bas (jd := jd) v kc px
  refine tkA_tb (u := dB f n mp X t R jd k) (X := X) (r := R jd) (s := dSq f n mp X t R jd k) (K := Kt t jd) (k := k) (wr' := dWr f t jd) (run := dRn f n mp X t R jd k) b.1 (show 2 ≤ mp ∧ mp ≤ 101 by omega) (PX_rng v px) (V_rr v a) (fun i hi => by have := (o1 i hi).1; unfold clu at this; omega) hc ?_
  rcases y with y | y
  · exact Or.inl (by rw [Bas_tb b (show 2 ≤ mp ∧ mp ≤ 101 by omega) hc.1 hc.2, so1_tb v hc]; exact y)
  · exact Or.inr y
theorem By_d3 (v : V f g n root mp t R) (kc : 0 < k → k ≤ cf f mp n X n.toNat) (px : PX f mp n X) : By (d3 f n mp X t R jd k) := By_tkA (dB_bas (jd := jd) v kc px).1
/-- there is room, and the volume is right -/
theorem V_room (v : V f g n root mp t R) (a : al t jd) (dd : dirT f t jd) (kc : 0 < k → k ≤ cf f mp n X n.toNat) (px : PX f mp n X) (tm : Int) : ∃ t1 R1, V (d4 f n mp X t R jd k tm) g n root mp t1 R1 ∧ GRo t R t1 R1 jd k (dSq f n mp X t R jd k) := by
  have nn := V_n v
  have mpc := V_mp v
  unfold clu at mpc
  obtain ⟨o1, o2⟩ := dSq_ok (t := t) (R := R) (jd := jd) kc
  have cs' : ∀ i, i < k → 2 ≤ dSq f n mp X t R jd k i ∧ dSq f n mp X t R jd k i ≤ 101 := fun i hi => by have := (o1 i hi).1; unfold clu at this; omega
  have Kpos := V_Kd v a dd
  by_cases case : k = 0 ∨ jd = 0
  · have e4 : d4 f n mp X t R jd k tm = d3 f n mp X t R jd k := by unfold d4; rw [if_pos case]
    rw [e4]
    -- ROOT's row
    have r0 := (v.2.2.1 0 v.1.1.1)
    have r02 := r0.2.1
    have r03 := r0.2.2
    rw [v.1.1.2.1, rwP_0] at r02 r03
    have root0 := r02 0 v.1.1.2.2
    simp only [tc] at root0
    by_cases k0 : k = 0
    · have ts : ∀ i, i ≤ Kt t 0 → tc (d3 f n mp X t R jd k) 0 root i = tc f 0 root i := tc_sm (fun i hi => Or.inr (by rw [r02 i hi]; exact d3_fto v a kc px v.1.1.1 hi (Or.inl k0)))
      refine ⟨tk t 0 (Kt t 0), up R 0 (R 0), V_upR v (By_d3 v kc px) (fun j aj dj i hi x x0 x1 => d3_dir v a kc px aj dj hi x0 x1) (fun j aj _ i hi => d3_fto v a kc px aj hi (Or.inl k0)) (Nat.le_refl _) (fun _ _ => rfl) (fun i hi => v.1.2.1 0 v.1.1.1 i hi) (fun i i' p p' y => ?_) (fun j aj nj i i' p p' y => nj (v.1.2.2.1 j 0 i i' aj v.1.1.1 p p' y).1) ⟨fun i hi => by rw [ts i (by omega)]; exact r02 i hi, by rw [ts _ (Nat.le_refl _)]; exact r03 (Or.inl rfl) v.1.1.2.2⟩ (fun i p p' => by omega) (fun j aj _ i hi => d3_tb v a kc px (V_rr v aj i hi) (Or.inl (v.2.2.2.2.2.1 j aj i hi))) (fun i hi => d3_tb v a kc px (V_rr v v.1.1.1 i hi) (Or.inl (v.2.2.2.2.2.1 0 v.1.1.1 i hi))) (d3_tb v a kc px (by omega) (Or.inl v.2.2.2.2.2.2.1)), fun j => Iff.rfl, rfl, rfl, rfl, rfl, fun j _ => ⟨?_, fun i => ?_⟩, ?_, fun i hi => ?_⟩
      · have := (v.1.2.2.1 0 0 i i' v.1.1.1 v.1.1.1 (by omega) p' y).2
        omega
      · by_cases z : j = 0
        · rw [z, tk_Ks]
        · rw [tk_Kn z]
      · by_cases z : j = 0
        · rw [z, up_s]
        · rw [up_n _ _ z]
      · rw [k0]
        by_cases z : jd = 0
        · rw [z, tk_Ks]; rfl
        · rw [tk_Kn z]; rfl
      · unfold app
        rw [if_pos (by omega)]
        by_cases z : jd = 0
        · rw [z, up_s]
        · rw [up_n _ _ z]
    · have z : jd = 0 := case.resolve_left k0
      subst z
      have wz : dWr f t 0 = 0 := by unfold dWr; rw [if_pos rfl]
      have rz : dRn f n mp X t R 0 k = 0 := by
        have a9 : atF f mp n X (Kt t 0) (R 0 (Kt t 0 - 1)) 0 k = -9 := by
          unfold atF
          rw [if_neg (show ¬ Kt t 0 = 0 by omega), if_neg (show ¬ ((0 : Int) = 1 ∧ rw0 f mp n X k (R 0 (Kt t 0 - 1) + 1)) from fun y => absurd y.1 (by decide))]
        unfold dRn rnF
        rw [if_neg k0, wz, a9, if_pos rfl]
      have b := dB_bas (jd := 0) v kc px
      have oldft : ∀ i, i < Kt t 0 → ft (dB f n mp X t R 0 k) (R 0 i) = tc f 0 root (i + 1) := fun i hi => by
        have ci := V_rr v v.1.1.1 i hi
        have e3 : ft (dB f n mp X t R 0 k) (R 0 i) = ft f (R 0 i) := by
          rw [Bas_ft b (by omega) (by omega)]
          exact u4_cg (fun x _ _ => so1_hi f (by omega))
        rw [e3, ← r02 i hi]
        show _ = nxt f 0 _
        unfold nxt
        rw [if_neg (by decide)]
      have dr : ∀ i j, i < j → j < Kt t 0 → R 0 i ≠ R 0 j := fun i j p p' y => by
        have := (v.1.2.2.1 0 0 i j a a (by omega) p' y).2
        omega
      have drs : ∀ i j, i < Kt t 0 → j < k → R 0 i ≠ dSq f n mp X t R 0 k j := fun i j p p' => (V_fresh v (o1 j p').2.1).2 0 a i p
      have tcs := tkA_tc (u := dB f n mp X t R 0 k) (w' := d3 f n mp X t R 0 k) (wr' := dWr f t 0) (run := dRn f n mp X t R 0 k) (V_rr v a) cs' dr o2 drs dRn_01 dWr_01 (fun y => absurd y k0) (fun c c0 c1 => d3_ft v a kc px (by omega) c1) (fun _ i hi => by rw [oldft i (by omega)]; exact r02 (i + 1) hi) (fun _ K0 => by
        rw [oldft (Kt t 0 - 1) (by omega), show Kt t 0 - 1 + 1 = Kt t 0 by omega]
        exact r03 (Or.inl rfl) K0) (fun y => by rw [rz] at y; exact absurd y (by decide)) (by omega)
      have a0 : app (R 0) (Kt t 0) (dSq f n mp X t R 0 k) 0 = root := by unfold app; rw [if_pos (by omega)]; exact root0.symm
      rw [rz, a0] at tcs
      have ran : ∀ i, i < Kt t 0 + k → clu n (app (R 0) (Kt t 0) (dSq f n mp X t R 0 k) i) ∧ app (R 0) (Kt t 0) (dSq f n mp X t R 0 k) i ≠ mp := fun i hi => by
        unfold app
        split
        · exact v.1.2.1 0 a i (by assumption)
        · exact ⟨(o1 _ (by omega)).1, (V_fresh v (o1 _ (by omega)).2.1).1⟩
      refine ⟨tk t 0 (Kt t 0 + k), up R 0 (app (R 0) (Kt t 0) (dSq f n mp X t R 0 k)), V_upR v (By_d3 v kc px) (fun j aj dj i hi x x0 x1 => d3_dir v a kc px aj dj hi x0 x1) (fun j aj nj i hi => d3_fto v a kc px aj hi (Or.inr nj)) (by omega) (fun i hi => by unfold app; rw [if_pos hi]) ran (fun i i' p p' => ?_) (fun j aj nj i i' p p' => ?_) ⟨tcs.1, tcs.2 rfl⟩ (fun i p p' o o0 o1' => ?_) (fun j aj _ i hi => d3_tb v a kc px (V_rr v aj i hi) (Or.inl (v.2.2.2.2.2.1 j aj i hi))) (fun i hi => ?_) (d3_tb v a kc px (by omega) (Or.inl v.2.2.2.2.2.2.1)), fun j => Iff.rfl, rfl, rfl, rfl, rfl, fun j nj => ⟨tk_Kn nj, fun i => by rw [up_n _ _ nj]⟩, tk_Ks, fun i hi => by rw [up_s]⟩
      · unfold app
        by_cases y : i' < Kt t 0
        · rw [if_pos y, if_pos (by omega)]; exact dr i i' p y
        · rw [if_neg y]
          by_cases x : i < Kt t 0
          · rw [if_pos x]; exact drs i _ x (by omega)
          · rw [if_neg x]; exact o2 _ _ (by omega) (by omega)
      · unfold app
        split
        · rename_i y
          exact fun x => nj (v.1.2.2.1 j 0 i i' aj a p y x).1
        · exact (V_fresh v (o1 _ (by omega)).2.1).2 j aj i p
      · have ea' : app (R 0) (Kt t 0) (dSq f n mp X t R 0 k) i = dSq f n mp X t R 0 k (i - Kt t 0) := by unfold app; rw [if_neg (by omega)]
        rw [ea', d3_new v a kc px (show i - Kt t 0 < k by omega) (by omega) (by omega)]
        decide
      · have c := (ran i hi).1
        unfold clu at c
        refine d3_tb v a kc px (by omega) ?_
        unfold app
        split
        · exact Or.inl (v.2.2.2.2.2.1 0 a i (by assumption))
        · exact Or.inr (Or.inl ⟨i - Kt t 0, by omega, rfl⟩)
  · have k0 : ¬ k = 0 := fun y => case (Or.inl y)
    have j0 : ¬ jd = 0 := fun y => case (Or.inr y)
    have j1 : 1 ≤ jd := (by omega)
    have e4 : d4 f n mp X t R jd k tm = rly (d3 f n mp X t R jd k) (ha (t 1 jd)) (ea (R (pt t jd)) (t 3 jd + 2)) (dRn f n mp X t R jd k) (dRo f n mp X t R jd k 0) (128 * ((Kt t jd + k : Nat) : Int)) tm := by unfold d4; rw [if_neg case]
    have wz : dWr f t jd = bR f (t 1 jd) := by unfold dWr; rw [if_neg j0]
    have kn := app_le v a (fun i hi => ⟨(o1 i hi).1, (o1 i hi).2.1⟩) o2
    have c := V_gro (X := X) (tm := tm) (ln := 128 * ((Kt t jd + k : Nat) : Int)) (V_so1 v) (dB_bas (jd := jd) v kc px) j1 a (PX_rng v px) (s := dSq f n mp X t R jd k) (k := k) (run := dRn f n mp X t R jd k) (fun i hi => ⟨(o1 i hi).1, by rw [so1_tb v (cs' i hi)]; exact (o1 i hi).2.1⟩) o2 dRn_01 (fun y => absurd y k0) (fun rz i hi => app_con (f := f) (mp := mp) (n := n) (X := X) (K := Kt t jd) (k := k) (r := R jd) (wr' := dWr f t jd) (run := dRn f n mp X t R jd k) (fun y => absurd y k0) (fun y => by unfold dRn; rw [if_neg k0]) (fun bz => by rw [wz] at bz; exact V_run v j1 a bz) rz i hi) (by omega) ⟨by omega, by omega⟩ (by omega) (fun _ => ⟨by omega, fun i hi o p p' => ?_⟩)
    · rw [so1_bR v j1 a, ← wz] at c
      exact ⟨tk t jd (Kt t jd + k), up R jd (app (R jd) (Kt t jd) (dSq f n mp X t R jd k)), by rw [e4]; exact c, fun j => Iff.rfl, rfl, rfl, rfl, rfl, fun j nj => ⟨tk_Kn nj, fun i => by rw [up_n _ _ nj]⟩, tk_Ks, fun i hi => by rw [up_s]⟩
    · unfold dB
      rw [blk_z (by have := cs' i hi; unfold ca; omega) _ (fun i' hi' => (cs' i' hi').1) ⟨i, hi, by omega, by omega⟩]
      decide
end ROOM2
