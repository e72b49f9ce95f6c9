/-! the walk: the last of what is pure -/
theorem u2_cg {f w : Nat → Int} {x : Int} (a : rd w x = rd f x) (b : rd w (x + 1) = rd f (x + 1)) : u2 w x = u2 f x := by unfold u2; rw [a, b]
theorem u4_cg {f w : Nat → Int} {x : Int} (a : ∀ j : Int, 0 ≤ j → j < 4 → rd w (x + j) = rd f (x + j)) : u4 w x = u4 f x := by
  have a0 := a 0 (by omega) (by omega)
  rw [show x + 0 = x by omega] at a0
  unfold u4
  rw [a0, a 1 (by omega) (by omega), a 2 (by omega) (by omega), a 3 (by omega) (by omega)]
theorem SetOK_congr {f w g : Nat → Int} {n hd tl room : Int} (a : ∀ x, hd ≤ x → x < hd + 64 → rd w x = rd f x) (b : ∀ x, tl ≤ x → x < tl + 64 → rd w x = rd f x) (h : SetOK w g n hd tl room) : SetOK f g n hd tl room := by
  have h3 := SetOK_3 h
  obtain ⟨⟨p1, p2, p3, p4, p5⟩, ⟨q1, q2, q3, q4, q5⟩, ⟨r1, r2, r3, r4, r5, r6, r7⟩, ⟨n1, n2, n3, n4, n5, n6⟩, sm⟩ := h
  have e0 : rd w hd = rd f hd := a _ (by omega) (by omega)
  have e1 : rd w (hd + 1) = rd f (hd + 1) := a _ (by omega) (by omega)
  have e4 : u2 w (hd + 4) = u2 f (hd + 4) := u2_cg (a _ (by omega) (by omega)) (a _ (by omega) (by omega))
  have e2 : u2 w (hd + 2) = u2 f (hd + 2) := u2_cg (a _ (by omega) (by omega)) (a _ (by omega) (by omega))
  have e36 : u2 w (hd + 36) = u2 f (hd + 36) := u2_cg (a _ (by omega) (by omega)) (a _ (by omega) (by omega))
  have e35 : rd w (hd + 35) = rd f (hd + 35) := a _ (by omega) (by omega)
  have e33 : rd w (hd + 33) = rd f (hd + 33) := a _ (by omega) (by omega)
  have e32 : rd w (hd + 32) = rd f (hd + 32) := a _ (by omega) (by omega)
  have e34 : rd w (hd + 34) = rd f (hd + 34) := a _ (by omega) (by omega)
  have v40 : u4 w (hd + 40) = u4 f (hd + 40) := u4_cg (fun j _ _ => a _ (by omega) (by omega))
  have v44 : u4 w (hd + 44) = u4 f (hd + 44) := u4_cg (fun j _ _ => a _ (by omega) (by omega))
  have v52 : u4 w (hd + 52) = u4 f (hd + 52) := u4_cg (fun j _ _ => a _ (by omega) (by omega))
  have v56 : u4 w (hd + 56) = u4 f (hd + 56) := u4_cg (fun j _ _ => a _ (by omega) (by omega))
  have v60 : u4 w (hd + 60) = u4 f (hd + 60) := u4_cg (fun j _ _ => a _ (by omega) (by omega))
  have lts : ∀ i : Nat, i < 30 → lt w tl i = lt f tl i := fun i hi => by
    have := la_rng (tl := tl) (i := (i : Int)) (by omega) (by omega)
    exact u2_cg (b _ (by omega) (by omega)) (b _ (by omega) (by omega))
  unfold isD at r5
  unfold isR at r6
  rw [e4, v56] at r5
  rw [v56, v52, e33] at r6
  refine ⟨⟨e0 ▸ p1, e1 ▸ p2, e4 ▸ p3, fun x x0 x1 => by rw [← a x (by omega) (by omega)]; exact p4 x x0 x1, fun x x0 x1 => by rw [← a x (by omega) (by omega)]; exact p5 x x0 x1⟩, ⟨e32 ▸ q1, e33 ▸ q2, e34 ▸ q3, fun x x0 x1 => by rw [← a x (by omega) (by omega)]; exact q4 x x0 x1, fun x x0 x1 => by rw [← a x (by omega) (by omega)]; exact q5 x x0 x1⟩, ⟨v56 ▸ r1, by rw [← v40, ← v56]; exact r2, v60 ▸ r3, v44 ▸ r4, r5, r6, by rw [← v56, ← v52]; exact r7⟩, ⟨e35 ▸ n1, by rw [← e1, ← e35]; exact n2, ?_, ?_, fun i i0 i1 => ?_, fun i i0 i1 => ?_⟩, ?_⟩
  · rw [← e35]
    exact isNm_congr (fun i hi => lts i (by omega)) n3
  · rw [← e35, ← e36, ← n4]
    refine (hsh_congr (fun i hi => ⟨lts i (by omega), ?_⟩) (fun _ _ => rfl)).symm
    have := isLet_rng (n3.2.2.1 i (by omega))
    omega
  · rw [← e1] at i1
    have := n5 i i0 i1
    rw [← b _ (by omega) (by omega), ← b _ (by omega) (by omega)]
    exact this
  · rw [← e1] at i1
    rw [← e35] at i0
    rw [← lts i (by omega)]
    exact n6 i i0 i1
  · unfold SmOK
    rw [← e1, ← e2, ← sm]
    refine (ssum_congr (fun j hj _ _ => ?_)).symm
    unfold so
    split
    · exact a _ (by omega) (by omega)
    · exact b _ (by omega) (by omega)
theorem rd_uns {w f r : Nat → Int} {e : Int} : ∀ (m : Nat), (∀ i : Nat, i < m → 0 ≤ ea r (e + i)) → ∀ a : Int, 0 ≤ a → (∀ i : Nat, i < m → a ≠ ea r (e + i)) → rd (uns w f r e m) a = rd w a
  | 0, _, a, _, _ => rfl
  | m + 1, p, a, a0, h => by
    have := h m (by omega)
    rw [uns, rd_wb_ne (p m (by omega)) a0 (by omega)]
    exact rd_uns m (fun i hi => p i (by omega)) a a0 (fun i hi => h i (by omega))
theorem rd_uns_eq {w f r : Nat → Int} {e : Int} : ∀ (m : Nat), (∀ i : Nat, i < m → 0 ≤ ea r (e + i)) → (∀ i j : Nat, i < j → j < m → ea r (e + i) ≠ ea r (e + j)) → ∀ i : Nat, i < m → rd (uns w f r e m) (ea r (e + i)) = un (rd f (ea r (e + i))) % 256
  | 0, _, _, i, hi => by omega
  | m + 1, p, d, i, hi => by
    rw [uns]
    by_cases q : i = m
    · rw [q, rd_wb (p m (by omega)) (p m (by omega)), if_pos (by omega), show (ea r (e + (m : Int)) - ea r (e + (m : Int))).toNat = 0 by omega]
      rw [Int.pow_zero, Int.ediv_one]
    · have ne := d i m (by omega) (by omega)
      rw [rd_wb_ne (p m (by omega)) (p i (by omega)) (by omega)]
      exact rd_uns_eq m (fun i hi => p i (by omega)) (fun i j a b => d i j a (by omega)) i (by omega)
theorem By_uns {w f r : Nat → Int} {e : Int} (hw : By w) : ∀ m, By (uns w f r e m)
  | 0 => hw
  | m + 1 => By_wb (By_uns hw m)
theorem tc_sm {f w : Nat → Int} {b x : Int} {K : Nat} (h : ∀ i, i < K → b = 1 ∨ ft w (tc f b x i) = ft f (tc f b x i)) : ∀ i, i ≤ K → tc w b x i = tc f b x i
  | 0, _ => rfl
  | i + 1, hi => by
    show nxt w b (tc w b x i) = nxt f b (tc f b x i)
    rw [tc_sm h i (by omega)]
    unfold nxt
    rcases h i (by omega) with q | q
    · rw [if_pos q, if_pos q]
    · rw [q]
def FCA (B O M D L : Prop) (md F : Int) : Prop := (F = 6 ∧ (B ∨ (O ∧ md = 0))) ∨ (F = 7 ∧ ¬ (B ∨ (O ∧ md = 0)) ∧ (M ∨ (O ∧ D))) ∨ (¬ (B ∨ (O ∧ md = 0)) ∧ ¬ (M ∨ (O ∧ D)) ∧ ((F = 8 ∧ L) ∨ (F = 0 ∧ ¬ L)))
theorem FCA_ex (B O M D L : Prop) (md : Int) : ∃ F, FCA B O M D L md F := by
  by_cases a : B ∨ (O ∧ md = 0)
  · exact ⟨6, Or.inl ⟨rfl, a⟩⟩
  · by_cases b : M ∨ (O ∧ D)
    · exact ⟨7, Or.inr (Or.inl ⟨rfl, a, b⟩)⟩
    · by_cases c : L
      · exact ⟨8, Or.inr (Or.inr ⟨a, b, Or.inl ⟨rfl, c⟩⟩)⟩
      · exact ⟨0, Or.inr (Or.inr ⟨a, b, Or.inr ⟨rfl, c⟩⟩)⟩
theorem FCA_fun {B O M D L : Prop} {md F F' : Int} (x : FCA B O M D L md F) (y : FCA B O M D L md F') : F = F' := by
  rcases x with ⟨a, b⟩ | ⟨a, b, c⟩ | ⟨b, c, ⟨a, d⟩ | ⟨a, d⟩⟩ <;> rcases y with ⟨a', b'⟩ | ⟨a', b', c'⟩ | ⟨b', c', ⟨a', d'⟩ | ⟨a', d'⟩⟩ <;> first | exact a.trans a'.symm | exact absurd b b' | exact absurd b' b | exact absurd c c' | exact absurd c' c | exact absurd d d' | exact absurd d' d
theorem FCA_0 {B O M D L : Prop} {md : Int} (x : FCA B O M D L md 0) : ¬ B ∧ ¬ (O ∧ md = 0) ∧ ¬ M ∧ ¬ (O ∧ D) ∧ ¬ L := by
  rcases x with ⟨a, b⟩ | ⟨a, b, c⟩ | ⟨b, c, ⟨a, d⟩ | ⟨a, d⟩⟩
  · exact absurd a (by decide)
  · exact absurd a (by decide)
  · exact absurd a (by decide)
  · exact ⟨fun z => b (Or.inl z), fun z => b (Or.inr z), fun z => c (Or.inl z), fun z => c (Or.inr z), d⟩
theorem FCA_rng {B O M D L : Prop} {md F : Int} (x : FCA B O M D L md F) : 0 ≤ F ∧ F ≤ 8 := by
  rcases x with ⟨a, b⟩ | ⟨a, b, c⟩ | ⟨b, c, ⟨a, d⟩ | ⟨a, d⟩⟩ <;> omega
section WALK4
variable {f g : Nat → Int} {n root : Int} {K0 : Nat} {md : Int} {s : AH} {k : Nat} {e : Int}
theorem SI_P0 (S : SI f g n root K0 md s k e) {j : Nat} (hj : (j : Int) < s 1 0) : 0 ≤ s 2 j ∧ (s 2 j = 0 → j = 0) := by
  have a := S.1.2.1
  have b := S.1.2.2 j
  by_cases q : j = 0
  · rw [q]; omega
  · have := b (by omega) hj
    omega
/-- where the FAT is other than it was, the CLUSTER has an owner -/
theorem SI_fat (S : SI f g n root K0 md s k e) {c : Int} (h0 : 0 ≤ c) (h1 : c ≤ 101) : ft (s 5) c = ft f c ∨ s 0 c.toNat ≠ -1 := by
  rcases S.2.2.2.2.2.2.2.2.1.2.2.2.1 c h0 h1 with y | ⟨j, j1, j2, j3, j4, j5⟩
  · exact Or.inl (u4_cg y)
  · refine Or.inr ?_
    rw [j5, (S.2.1 j j2 _ (by omega)).2]
    have := S.1.2.2 j j1 j2
    omega
/-- the row of a DIRECTORY is read from what is wanted as well -/
theorem SI_tc (S : SI f g n root K0 md s k e) (hn : 0 ≤ n ∧ n ≤ 100) {j : Nat} (hj : (j : Int) < s 1 0) {b x : Int} (hr : rwJ f root s j = tc f b x) {K : Nat} (hK : K < rkJ f K0 s j ∨ (K = rkJ f K0 s j ∧ j = 0)) : ∀ i, i ≤ K → tc (s 5) b x i = rwJ f root s j i := by
  rw [hr]
  refine tc_sm (fun i hi => ?_)
  have cl := S.2.1 j hj i (by omega)
  rw [hr] at cl
  have c2 := cl.1
  unfold clu at c2
  rcases S.2.2.2.2.2.2.2.2.1.2.2.2.1 (tc f b x i) (by omega) (by omega) with y | ⟨j', j1, j2, j3, j4, j5⟩
  · exact Or.inr (u4_cg y)
  · have o := SI_own S hj j2 (i := i) (i' := rkJ f K0 s j' - 1) (by omega) (by omega) (by rw [hr]; exact j5)
    have o1 := o.1
    have o2 := o.2
    subst o1
    omega
theorem SI_hi (S : SI f g n root K0 md s k e) {a : Int} (h0 : 1024 ≤ a) (h1 : a < 13824) (h2 : a % 32 ≠ 0) : rd (s 5) a = rd f a := S.2.2.2.2.2.2.2.2.1.2.2.2.2.1 a h0 h1 h2
theorem SI_ty (S : SI f g n root K0 md s k e) (hk : (k : Int) < s 1 0) (hd : dirJ f s k) {q : Int} (h0 : 0 ≤ q) (h1 : e ≤ q) (h2 : q < 4 * (rkJ f K0 s k : Int)) : rd (s 5) (ea (rwJ f root s k) q) = rd f (ea (rwJ f root s k) q) := S.2.2.2.2.2.2.2.2.1.2.2.2.2.2.1 k (Nat.le_refl k) hk hd q h0 h2 (fun _ => h1)
theorem SI_ear (S : SI f g n root K0 md s k e) (hn : n ≤ 100) {j : Nat} (hk : (j : Int) < s 1 0) {q : Int} (h0 : 0 ≤ q) (h2 : q < 4 * (rkJ f K0 s j : Int)) : 1024 ≤ ea (rwJ f root s j) q ∧ ea (rwJ f root s j) q + 32 ≤ 13824 := by
  have cl := SI_row S hk h0 h2
  have := ea_in (r := rwJ f root s j) (q := q)
  unfold clu at cl
  unfold ca at this
  omega
theorem ea_s {r : Nat → Int} {q : Int} (h0 : 0 ≤ q) (h1 : q % 2 = 0) : ea r (q + 1) = ea r q + 32 := by
  unfold ea
  rw [show (q + 1) / 4 = q / 4 by omega]
  omega
/-- two ENTRIES from an even place on are as they were -/
theorem SI_two (S : SI f g n root K0 md s k e) (hn : n ≤ 100) (hk : (k : Int) < s 1 0) (hd : dirJ f s k) {q : Int} (h0 : 0 ≤ q) (h1 : e ≤ q) (h2 : q < 4 * (rkJ f K0 s k : Int)) (h3 : q % 2 = 0) : ∀ x, ea (rwJ f root s k) q ≤ x → x < ea (rwJ f root s k) q + 64 → rd (s 5) x = rd f x := by
  intro x x0 x1
  have r1 := SI_ear S hn hk h0 h2
  have r2 := SI_ear S hn hk (q := q + 1) (by omega) (by omega)
  have al := ea_al (rwJ f root s k) q
  rw [ea_s h0 h3] at r2
  by_cases c : x % 32 = 0
  · rcases (show x = ea (rwJ f root s k) q ∨ x = ea (rwJ f root s k) q + 32 by omega) with y | y
    · rw [y]; exact SI_ty S hk hd h0 h1 h2
    · rw [y, ← ea_s h0 h3]; exact SI_ty S hk hd (by omega) (by omega) (by omega)
  · exact SI_hi S (by omega) (by omega) c
theorem SI_set (S : SI f g n root K0 md s k e) (hn : n ≤ 100) (hk : (k : Int) < s 1 0) (hd : dirJ f s k) (h0 : 0 ≤ e) (h2 : e < 4 * (rkJ f K0 s k : Int)) (h3 : e % 2 = 0) {tl : Int} (ht : e + 2 < 4 * (rkJ f K0 s k : Int) → tl = ea (rwJ f root s k) (e + 2)) : SetOK (s 5) g n (ea (rwJ f root s k) e) tl (4 * (rkJ f K0 s k : Int) - e) ↔ SetOK f g n (ea (rwJ f root s k) e) (ea (rwJ f root s k) (e + 2)) (4 * (rkJ f K0 s k : Int) - e) := by
  have a := SI_two S hn hk hd h0 (Int.le_refl e) h2 h3
  by_cases c : e + 2 < 4 * (rkJ f K0 s k : Int)
  · rw [ht c]
    have b := SI_two S hn hk hd (q := e + 2) (by omega) (by omega) c (by omega)
    exact ⟨SetOK_congr a b, SetOK_congr (fun x p q => (a x p q).symm) (fun x p q => (b x p q).symm)⟩
  · refine ⟨fun z => ?_, fun z => ?_⟩
    · have := SetOK_3 z
      omega
    · have := SetOK_3 z
      omega
theorem ha_rng {P : Int} (h : clu n (P / 4)) (hn : n ≤ 100) : 1024 ≤ ha P ∧ ha P + 32 ≤ 13824 ∧ ha P % 32 = 0 ∧ 8 ≤ P ∧ P ≤ 407 := by unfold clu at h; unfold ha; omega
theorem ha_rng2 {P : Int} (h : clu n (P / 4)) (hn : n ≤ 100) (h2 : P % 2 = 0) : ha P + 64 ≤ 13824 := by unfold clu at h; unfold ha; omega
theorem SI_head (S : SI f g n root K0 md s k e) (hn : n ≤ 100) {P : Int} (h : clu n (P / 4)) (h2 : P % 2 = 0) : bR (s 5) P = bR f P ∧ u4 (s 5) (ha P + 52) = u4 f (ha P + 52) ∧ u4 (s 5) (ha P + 56) = u4 f (ha P + 56) ∧ rkP (s 5) K0 P = rkP f K0 P ∧ rwP (s 5) root P = (if P = 0 then tc (s 5) 0 root else tc (s 5) (bR f P) (u4 f (ha P + 52))) := by
  have r1 := ha_rng h hn
  have r2 := ha_rng2 h hn h2
  have a : bR (s 5) P = bR f P := by unfold bR; rw [SI_hi S (by omega) (by omega) (by omega)]
  have b : u4 (s 5) (ha P + 52) = u4 f (ha P + 52) := u4_cg (fun j _ _ => SI_hi S (by omega) (by omega) (by omega))
  have c : u4 (s 5) (ha P + 56) = u4 f (ha P + 56) := u4_cg (fun j _ _ => SI_hi S (by omega) (by omega) (by omega))
  refine ⟨a, b, c, ?_, ?_⟩
  · unfold rkP; rw [c]
  · unfold rwP; rw [a, b]
/-- if one of the two rows is sound and free, it is the other -/
theorem SI_free (S : SI f g n root K0 md s k e) (hn : n ≤ 100) {b x : Int} {K : Nat} (h : (∀ i, i < K → clu n (tc f b x i) ∧ s 0 (tc f b x i).toNat = -1) ∨ (∀ i, i < K → clu n (tc (s 5) b x i) ∧ s 0 (tc (s 5) b x i).toNat = -1)) : ∀ i, i ≤ K → tc (s 5) b x i = tc f b x i := by
  rcases h with h | h
  · refine tc_sm (fun i hi => Or.inr ?_)
    obtain ⟨c, o⟩ := h i hi
    unfold clu at c
    rcases SI_fat S (c := tc f b x i) (by omega) (by omega) with y | y
    · exact y
    · exact absurd o y
  · intro i hi
    refine (tc_sm (fun i hi => Or.inr ?_) i hi).symm
    obtain ⟨c, o⟩ := h i hi
    unfold clu at c
    rcases SI_fat S (c := tc (s 5) b x i) (by omega) (by omega) with y | y
    · exact y.symm
    · exact absurd o y
theorem SI_even (S : SI f g n root K0 md s k e) {j : Nat} (j1 : 1 ≤ j) (hj : (j : Int) < s 1 0) : clu n (s 2 j / 4) ∧ s 2 j % 2 = 0 := by
  obtain ⟨p1, p2, p3, p4, p5⟩ := S.2.2.2.1 j j1 hj
  have m1 := SetOK_3 p5
  have c := SI_row S (j := (s 3 j).toNat) (q := s 4 j) (by omega) (by omega) (by omega)
  have q : s 2 j / 4 = rwJ f root s (s 3 j).toNat (s 4 j / 4).toNat := by omega
  rw [q]
  exact ⟨c, by omega⟩
theorem edt_1 {w : Nat → Int} {m : Int} : edt s w m 1 = s 1 := rfl
theorem edt_2 {w : Nat → Int} {m : Int} : edt s w m 2 = s 2 := rfl
theorem acc_w2 {K : Nat} {t : Nat → Int} {P k' e' m : Int} {w : Nat → Int} {j : Nat} (hj : (j : Int) < s 1 0) : acc s K t P k' e' w m 2 j = s 2 j := by
  rw [acc_2, st_n _ _ (by omega)]
/-- one ENTRY further -/
theorem DG_SI (hn : 0 ≤ n ∧ n ≤ 100) (hf : By f) (hk : (k : Int) < s 1 0) (hd : dirJ f s k) (h0 : 0 ≤ e) {ov e' ov' : Int} {s' : AH} (D : DG f g n root K0 md k e ov s e' ov' s') : SI f g n root K0 md s' k e' ∧ s 1 0 ≤ s' 1 0 ∧ dirJ f s' k ∧ (∀ j : Nat, (j : Int) < s 1 0 → s' 2 j = s 2 j) ∧ e < e' ∧ e' ≤ e + 4 ∧ (ov' = 0 ∨ ov' = 1 ∨ ov' = ov) := by
  obtain ⟨h1, S, D⟩ := D
  have r0 := SI_ear S hn.2 hk h0 h1
  have bw : By (s 5) := S.2.2.2.2.2.2.2.2.1.2.1
  have e0 : ea (rwJ f root s k) (e + 0) = ea (rwJ f root s k) e := by rw [show e + 0 = e by omega]
  have one : ∀ v c : Int, md = 1 → v % 256 ≠ 133 → SI f g n root K0 md (edt s (wb (s 5) (ea (rwJ f root s k) e) 1 v) c) k (e + 1) := by
    intro v c hm hv
    refine SI_edt S hk hd h0 (m := 1) (by omega) (by omega) hm (By_wb bw) (fun a a0 ne => ?_) (fun i i0 i1 => ?_)
    · have := ne 0 (by omega) (by omega)
      rw [e0] at this
      exact rd_wb_ne (by omega) a0 (by omega)
    · rw [show i = 0 by omega, e0, rd_wb (by omega) (by omega), if_pos (by omega), show (ea (rwJ f root s k) e - ea (rwJ f root s k) e).toNat = 0 by omega, Int.pow_zero, Int.ediv_one]
      exact hv
  have b0 := hf.rd (show 0 ≤ ea (rwJ f root s k) e by omega) (show ea (rwJ f root s k) e < 13824 by omega)
  rcases D with ⟨d1, d2, d3, d4, d5⟩ | ⟨d1, d2, d3, d4, d5, d6⟩ | ⟨d1, d2, d3, D⟩
  · subst d5
    rw [d3]
    refine ⟨SI_pass S hk hd h0 h1 d1, Int.le_refl _, hd, fun _ _ => rfl, by omega, by omega, ?_⟩
    rw [d4]
    split
    · exact Or.inr (Or.inl rfl)
    · exact Or.inr (Or.inr rfl)
  · rw [d6, d4]
    exact ⟨one _ _ d3 (by decide), Int.le_refl _, hd, fun _ _ => rfl, by omega, by omega, by omega⟩
  · rcases D with ⟨d4, d5, d6, d7⟩ | ⟨d4, d5, d6, F, d7, D⟩
    · rw [d6, d7]
      refine ⟨one _ _ d5 ?_, Int.le_refl _, hd, fun _ _ => rfl, by omega, by omega, by omega⟩
      unfold un
      split <;> omega
    · have s3 := SetOK_3 d5
      rcases D with ⟨d8, d9, d10⟩ | ⟨d8, d9, d10⟩ | ⟨d8, d9, d10⟩
      · rw [d6, d10]
        generalize ec : 1 + rd f (ea (rwJ f root s k) e + 1) = c at *
        have er : ∀ i : Nat, i < c.toNat → 1024 ≤ ea (rwJ f root s k) (e + i) ∧ ea (rwJ f root s k) (e + i) + 32 ≤ 13824 := fun i hi => SI_ear S hn.2 hk (by omega) (by omega)
        have ne : ∀ i j : Nat, i < j → j < c.toNat → ea (rwJ f root s k) (e + i) ≠ ea (rwJ f root s k) (e + j) := fun i j a b => SI_ea S hk hk (by omega) (by omega) (by omega) (by omega) (by omega)
        have e1 : ea (rwJ f root s k) (e + 1) = ea (rwJ f root s k) e + 32 := ea_s h0 d4
        have e3 : ea (rwJ f root s k) (e + 3) = ea (rwJ f root s k) (e + 2) + 32 := by
          rw [show e + 3 = e + 2 + 1 by omega]
          exact ea_s (by omega) (by omega)
        refine ⟨SI_edt S hk hd h0 (m := c) (by omega) (by omega) d9 (By_uns bw _) (fun a a0 nn => ?_) (fun i i0 i1 => ?_), Int.le_refl _, hd, fun _ _ => rfl, by omega, by omega, by omega⟩
        · exact rd_uns _ (fun i hi => by have := er i hi; omega) a a0 (fun i hi => nn i (by omega) (by omega))
        · have q := rd_uns_eq (w := s 5) (f := f) (r := rwJ f root s k) (e := e) c.toNat (fun i hi => by have := er i hi; omega) ne i.toNat (by omega)
          rw [show ((i.toNat : Nat) : Int) = i by omega] at q
          rw [q]
          have tt : rd f (ea (rwJ f root s k) (e + i)) = 133 ∨ rd f (ea (rwJ f root s k) (e + i)) = 192 ∨ rd f (ea (rwJ f root s k) (e + i)) = 193 := by
            rcases (show i = 0 ∨ i = 1 ∨ i = 2 ∨ i = 3 by omega) with y | y | y | y
            · rw [y, e0]; exact Or.inl s3.2.2.1
            · rw [y, e1]; exact Or.inr (Or.inl s3.2.2.2.1)
            · rw [y]; exact Or.inr (Or.inr s3.2.2.2.2.1)
            · rw [y, e3]; exact Or.inr (Or.inr (s3.2.2.2.2.2 (by omega)))
          unfold un
          split <;> omega
      · rw [d8] at d7
        have z := FCA_0 d7
        have A := SI_acc S hn hk hd h0 h1 d4 d5 rfl z.1 z.2.2.1 (fun o => absurd o d9) z.2.2.2.2 z.2.1 (w := s 5) (m := s 6 0) (Or.inl ⟨rfl, d9⟩)
        rw [d6, d10]
        refine ⟨A, by rw [acc_1]; omega, ?_, fun j hj => acc_w2 hj, by omega, by omega, by omega⟩
        unfold dirJ
        rw [acc_w2 hk]
        exact hd
      · rw [d8] at d7
        have z := FCA_0 d7
        have A := SI_acc S hn hk hd h0 h1 d4 d5 rfl z.1 z.2.2.1 (fun o q => z.2.2.2.1 ⟨o, q⟩) z.2.2.2.2 z.2.1 (m := s 6 0 + 1) (Or.inr ⟨d9, rfl⟩)
        rw [d6, d10]
        refine ⟨A, by rw [acc_1]; omega, ?_, fun j hj => acc_w2 hj, by omega, by omega, by omega⟩
        unfold dirJ
        rw [acc_w2 hk]
        exact hd
end WALK4
