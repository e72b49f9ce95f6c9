/-! the walk: the class, DIRECTORIES and the tree -/
def FD (md : Int) (h h' : AH) : Prop := (∀ o, ¬ (o = 3 ∨ o = 4 ∨ (17 ≤ o ∧ o ≤ 25)) → h' o = h o) ∧ (∀ k, ¬ (k = 11 ∨ k = 12 ∨ k = 13) → h' 17 k = h 17 k) ∧ (md = 0 → h' 4 = h 4)
def FD0 (md : Int) (h h' : AH) : Prop := (∀ o, ¬ (o = 3 ∨ o = 4 ∨ (17 ≤ o ∧ o ≤ 25)) → h' o = h o) ∧ (∀ k, ¬ (k = 11 ∨ k = 12 ∨ k = 13 ∨ k = 15 ∨ k = 16 ∨ k = 17) → h' 17 k = h 17 k) ∧ (md = 0 → h' 4 = h 4)
theorem FD.rf (md : Int) (h : AH) : FD md h h := ⟨fun _ _ => rfl, fun _ _ => rfl, fun _ => rfl⟩
theorem FD.tr {md : Int} {h h1 h2 : AH} (a : FD md h h1) (b : FD md h1 h2) : FD md h h2 := ⟨fun o p => (b.1 o p).trans (a.1 o p), fun o p => (b.2.1 o p).trans (a.2.1 o p), fun p => (b.2.2 p).trans (a.2.2 p)⟩
theorem FD0.tr {md : Int} {h h1 h2 : AH} (a : FD0 md h h1) (b : FD0 md h1 h2) : FD0 md h h2 := ⟨fun o p => (b.1 o p).trans (a.1 o p), fun o p => (b.2.1 o p).trans (a.2.1 o p), fun p => (b.2.2 p).trans (a.2.2 p)⟩
theorem FD.w {md : Int} {h h' : AH} (a : FD md h h') : FD0 md h h' := ⟨a.1, fun k p => a.2.1 k (by omega), a.2.2⟩
theorem FD.m {md : Int} {h h' : AH} (a : FM md h h') : FD md h h' := ⟨fun o p => a.1 o (by omega), a.2.1, a.2.2⟩
theorem FD0.m {md : Int} {h h' : AH} (a : FM0 md h h') : FD0 md h h' := ⟨fun o p => a.1 o (by omega), a.2.1, a.2.2⟩
section WF
variable {G : GG} {h : AH} {f g : Nat → Int} {n root : Int} {K0 : Nat} {md : Int} {s : AH} {k : Nat} {e : Int}
theorem SI_skip (S : SI f g n root K0 md s k e) (hk : (k : Int) < s 1 0) (hd : dirJ f s k) (h0 : 0 ≤ e) (h1 : e < 4 * (rkJ f K0 s k : Int)) (ht : rd f (ea (rwJ f root s k) e) ≠ 133) : SI f g n root K0 md s k (e + 1) := by
  obtain ⟨i1, i2, i3, i4, i5, i6, i7, i8, ⟨w1, w2, w3, w4, w5, w6, w7⟩, i10⟩ := S
  refine ⟨i1, i2, i3, i4, i5, i6, i7, ⟨fun q a b => ?_, i8.2⟩, ⟨w1, w2, w3, w4, w5, fun j a b c q q0 q1 q2 => w6 j a b c q q0 q1 (fun z => by have := q2 z; omega), w7⟩, fun j a b => ?_⟩
  · by_cases c : q = e
    · subst c
      rw [w6 k (Nat.le_refl k) hk hd q a h1 (fun _ => Int.le_refl _)]
      refine ⟨fun z => absurd z ht, fun ⟨j, j1, j2, j3, j4⟩ => ?_⟩
      have := i10 j j1 j2
      omega
    · exact i8.1 q a (by omega)
  · have := i10 j a b
    omega
theorem SI_first (S : SI f g n root K0 md s k 0) (hk : (k : Int) < s 1 0) (hd : dirJ f s k) (hK : 1 ≤ K0) (t0 : rd f (ca root) ≠ 133) (t1 : rd f (ca root + 32) ≠ 133) : SI f g n root K0 md s k (if k = 0 then 2 else 0) := by
  by_cases z : k = 0
  · rw [if_pos z]
    subst z
    have r0 : rwJ f root s 0 = tc f 0 root := by unfold rwJ rwP; rw [S.1.2.1, if_pos rfl]
    have k0 : rkJ f K0 s 0 = K0 := by unfold rkJ rkP; rw [S.1.2.1, if_pos rfl]
    have a := SI_skip S hk hd (by omega) (by omega) (by rw [r0]; show rd f (ca root + 32 * (0 % 4)) ≠ 133; rw [show ca root + 32 * (0 % 4) = ca root by omega]; exact t0)
    have b := SI_skip a hk hd (by omega) (by omega) (by rw [r0]; exact t1)
    exact b
  · rw [if_neg z]
    exact S
theorem SI_K (S : SI f g n root K0 md s k e) (hn : 0 ≤ n) {j : Nat} (hj : (j : Int) < s 1 0) : (rkJ f K0 s j : Int) ≤ n := php2 (fun i hi => (S.2.1 j hj i hi).1) hn (fun i i' a b => S.2.2.1 j hj i i' a b)
/-- the row of a DIRECTORY is opened -/
theorem H_open {Q : AH → Prop} (hf : By f) (S : SI f g n root K0 md s k e) (X : CX g n root md h) (h3 : h 3 = s 5) (hk : (k : Int) < s 1 0) (hK : 1 ≤ K0) (H : ∀ h', Ro h' 18 19 (rkJ f K0 s k) (rwJ f root s k) → (∀ o, o ≠ 18 → o ≠ 19 → h' o = h o) → Q h') : RunsV G 127 [vR 11, vI (s 2 k), vR 18] h Q := by
  obtain ⟨x1, x2, x3, x4, x5, x6⟩ := id X
  have bw : By (s 5) := S.2.2.2.2.2.2.2.2.1.2.1
  have kn := SI_K S (by omega) hk
  by_cases z : s 2 k = 0
  · have z2 := (SI_P0 S hk).2 z
    subst z2
    have r0 : rwJ f root s 0 = tc f 0 root := by unfold rwJ rwP; rw [S.1.2.1, if_pos rfl]
    have k0 : rkJ f K0 s 0 = K0 := by unfold rkJ rkP; rw [S.1.2.1, if_pos rfl]
    have t := SI_tc S (by omega) hk r0 (K := K0) (Or.inr ⟨k0.symm, rfl⟩)
    have en := S.2.2.2.2.2.1 0 hk (Or.inr rfl) (Or.inl rfl) (by omega)
    rw [k0, r0] at en
    have eq1 : rkP (h 3) K0 (s 2 0) = K0 := by unfold rkP; rw [z, if_pos rfl]
    have eq2 : rwP (h 3) (h 7 2) (s 2 0) = tc (s 5) 0 root := by unfold rwP; rw [z, if_pos rfl, h3, x2]
    refine T_open_18 (K0 := K0) (by rw [h3]; exact bw) (by rw [x1]; exact x5) (Or.inl z) (fun i hi => ?_) (fun _ => ⟨hK, by omega, ?_⟩) (fun h' ro fr => H h' ?_ fr)
    · rw [eq1] at hi
      rw [eq2, x1, t i (by omega)]
      exact (S.2.1 0 hk i (by omega)).1
    · rw [h3, x2, x1, t K0 (Nat.le_refl _), r0, en]
      unfold clu
      omega
    · rw [eq1, eq2] at ro
      refine ⟨by rw [k0]; exact ro.1, by rw [k0]; exact ro.2.1, fun i hi => ?_⟩
      rw [ro.2.2 i (by omega)]
      exact t i (by omega)
  · have k1 : 1 ≤ k := by
      by_cases q : k = 0
      · rw [q] at z; exact absurd S.1.2.1 z
      · omega
    obtain ⟨cl, ev⟩ := SI_even S k1 hk
    have hh := SI_head S x5.2 (P := s 2 k) cl ev
    obtain ⟨p1, p2, p3, p4, p5⟩ := S.2.2.2.1 k k1 hk
    have l56 := p5.2.2.1.1
    rw [ha_ea, ← p4] at l56
    have r0 : rwJ f root s k = tc f (bR f (s 2 k)) (u4 f (ha (s 2 k) + 52)) := by unfold rwJ rwP; rw [if_neg z]
    have eq1 : rkP (h 3) K0 (s 2 k) = rkJ f K0 s k := by rw [h3]; exact hh.2.2.2.1
    have eq2 : rwP (h 3) (h 7 2) (s 2 k) = tc (s 5) (bR f (s 2 k)) (u4 f (ha (s 2 k) + 52)) := by
      rw [h3, x2, hh.2.2.2.2, if_neg z]
    have t : ∀ i, i < rkJ f K0 s k → tc (s 5) (bR f (s 2 k)) (u4 f (ha (s 2 k) + 52)) i = rwJ f root s k i := fun i hi => SI_tc S (by omega) hk r0 (K := i) (Or.inl hi) i (Nat.le_refl i)
    refine T_open_18 (K0 := K0) (by rw [h3]; exact bw) (by rw [x1]; exact x5) (Or.inr ⟨by rw [x1]; exact cl, ev, by rw [h3, hh.2.2.1]; omega⟩) (fun i hi => ?_) (fun q => absurd q z) (fun h' ro fr => H h' ?_ fr)
    · rw [eq1] at hi
      rw [eq2, x1, t i hi]
      exact (S.2.1 k hk i hi).1
    · rw [eq1, eq2] at ro
      exact ⟨ro.1, ro.2.1, fun i hi => (ro.2.2 i hi).trans (t i hi)⟩
theorem H_askDirectory {Q : Int → AH → Prop} (hf : By f) (S : SI f g n root K0 md s k 0) (X : CX g n root md h) (C : CR f md s h) (hk : (k : Int) < s 1 0) (hd : dirJ f s k) (hK : 1 ≤ K0) (t0 : rd f (ca root) ≠ 133) (t1 : rd f (ca root + 32) ≠ 133)
    (H0 : ∀ h' F x y z, DW f g n root K0 md k F x y z (if k = 0 then 2 else 0) 0 s → F ≠ 0 → md = 0 → h' 17 15 = F → h' 17 16 = x → h' 17 17 = y → h' 3 = f → FD0 md h h' → Q 0 h')
    (H1 : ∀ h' z, DW f g n root K0 md k 0 0 0 z (if k = 0 then 2 else 0) 0 s → SI f g n root K0 md z (k + 1) 0 → (k : Int) < z 1 0 → (∀ j : Nat, (j : Int) < s 1 0 → z 2 j = s 2 j) → CR f md z h' → FD md h h' → Q 1 h') : RunsI G 45 [vR 17, vI (s 2 k)] h Q := by
  obtain ⟨x1, x2, x3, x4, x5, x6⟩ := id X
  have kn := SI_K S (by omega) hk
  have S' := SI_first S hk hd hK t0 t1
  apply q_H_askDirectory
  refine H_open hf S X C.2.1 hk hK (fun h1 ro fr1 => ?_)
  have FD1 : FD md h h1 := ⟨fun o p => fr1 o (by omega) (by omega), fun _ _ => by rw [fr1 17 (by decide) (by decide)], fun _ => fr1 4 (by decide) (by decide)⟩
  have C1 : CR f md s h1 := CR_congr C (fr1 2 (by decide) (by decide)) (fr1 3 (by decide) (by decide)) (fr1 4 (by decide) (by decide)) (fr1 24 (by decide) (by decide)) (fr1 25 (by decide) (by decide)) (by rw [fr1 17 (by decide) (by decide)]) (by rw [fr1 17 (by decide) (by decide)]) (by rw [fr1 17 (by decide) (by decide)])
  have key : ∀ (m : Nat) (p q ov : Int) (s' b : AH), p + m = 4 * (rkJ f K0 s k : Int) → 0 ≤ p → p ≤ q → q ≤ p + 4 → (ov = 0 ∨ ov = 1) → SI f g n root K0 md s' k q → s 1 0 ≤ s' 1 0 → dirJ f s' k → (∀ j : Nat, (j : Int) < s 1 0 → s' 2 j = s 2 j) → CR f md s' b → Ro b 18 19 (rkJ f K0 s k) (rwJ f root s k) → FD md h b → (∀ F x y z, DW f g n root K0 md k F x y z q ov s' → DW f g n root K0 md k F x y z (if k = 0 then 2 else 0) 0 s) → Go G (pI Q) 45 27 [some (vR 17), none, some (vI ov), some (vI q), some (vI p), none] [] b := by
    intro m
    induction m with
    | zero =>
      intro p q ov s' b hm p0 pq qp o01 T tN td t2 Cb rb fb ac
      have tk : (k : Int) < s' 1 0 := (by omega)
      have rk' : rkJ f K0 s' k = rkJ f K0 s k := by unfold rkJ; rw [t2 k hk]
      apply q_H_askDirectory_c27
      apply q_C_places_18
      rw [rb.1, wI_id (z := 4 * (rkJ f K0 s k : Int)) (by omega) (by omega), wI_id (z := p) (by omega) (by omega)]
      refine ⟨fun _ => ⟨Or.inr rfl, H1 b s' (ac _ _ _ _ (DW_end f g n root K0 md (by rw [rk']; omega) T)) (SI_next T (fun _ _ => by rw [rk']; omega)) tk t2 Cb fb⟩, fun c => by omega⟩
    | succ m ih =>
      intro p q ov s' b hm p0 pq qp o01 T tN td t2 Cb rb fb ac
      have tk : (k : Int) < s' 1 0 := (by omega)
      have rk' : rkJ f K0 s' k = rkJ f K0 s k := by unfold rkJ; rw [t2 k hk]
      have rw' : rwJ f root s' k = rwJ f root s k := by unfold rwJ; rw [t2 k hk]
      have Xb : CX g n root md b := CX_congr (fb.1 7 (by omega)) (fb.1 9 (by omega)) X
      have bw : By (s' 5) := T.2.2.2.2.2.2.2.2.1.2.1
      apply q_H_askDirectory_c27
      apply q_C_places_18
      rw [rb.1, wI_id (z := 4 * (rkJ f K0 s k : Int)) (by omega) (by omega), wI_id (z := p) (by omega) (by omega), wI_id (z := q) (by omega) (by omega), wI_id (z := ov) (by omega) (by omega)]
      refine ⟨fun c => by omega, fun _ => ⟨fun c => ?_, fun c => ih (p + 1) q ov s' b (by omega) (by omega) (by omega) (by omega) o01 T tN td t2 Cb rb fb ac⟩⟩
      have pe : p = q := (by omega)
      subst pe
      have hp : p < 4 * (rkJ f K0 s' k : Int) := by rw [rk']; omega
      have re := SI_ear T x5.2 tk p0 hp
      rw [rw'] at re
      have ty : rd (s' 5) (ea (rwJ f root s k) p) = rd f (ea (rwJ f root s k) p) := by
        have := SI_ty T tk td p0 (Int.le_refl p) hp
        rw [rw'] at this
        exact this
      have bf := hf.rd (show 0 ≤ ea (rwJ f root s k) p by omega) (show ea (rwJ f root s k) p < 13824 by omega)
      refine C_entry_18 rb p0 (by omega) (D_get (by omega) (by omega) ?_)
      rw [Cb.2.1, ty, wI_id (z := rd f (ea (rwJ f root s k) p)) (by omega) (by omega)]
      have e138 : ∀ (ov' q' : Int) (s2 b2 : AH), ov' = (if ov = 1 ∨ rd f (ea (rwJ f root s k) p) = 0 then 1 else 0) → p + 1 ≤ q' → q' ≤ p + 1 + 4 → SI f g n root K0 md s2 k q' → s' 1 0 ≤ s2 1 0 → dirJ f s2 k → (∀ j : Nat, (j : Int) < s' 1 0 → s2 2 j = s' 2 j) → CR f md s2 b2 → FM md b b2 → (∀ F x y z, DW f g n root K0 md k F x y z q' ov' s2 → DW f g n root K0 md k F x y z p ov s') → Go G (pI Q) 45 138 [some (vR 17), none, some (vI ov), some (vI q'), some (vI p), some (vI (rd f (ea (rwJ f root s k) p)))] [] b2 := by
        intro ov' q' s2 b2 eo a1 a2 a3 a4 a5 a6 a7 a8 a9
        have rb2 : Ro b2 18 19 (rkJ f K0 s k) (rwJ f root s k) := by unfold Ro; rw [a8.1 18 (by omega), a8.1 19 (by omega)]; exact rb
        have nx := ih (p + 1) q' ov' s2 b2 (by omega) (by omega) (by omega) (by omega) (by rw [eo]; split; exact Or.inr rfl; exact Or.inl rfl) a3 (Int.le_trans tN a4) a5 (fun j hj => (a6 j (by omega)).trans (t2 j hj)) a7 rb2 (fb.tr (FD.m a8)) (fun F x y z dw => ac F x y z (a9 F x y z dw))
        apply q_H_askDirectory_c138
        rw [wI_id (z := ov) (by omega) (by omega), wI_id (z := rd f (ea (rwJ f root s k) p)) (by omega) (by omega)]
        refine ⟨fun c1 => ⟨fun c2 => ?_, fun c2 => ?_⟩, fun c1 => ?_⟩
        · rw [if_pos (Or.inr c2)] at eo
          rw [eo] at nx; exact nx
        · rw [if_neg (by omega)] at eo
          rw [eo] at nx; exact nx
        · rw [if_pos (Or.inl (by omega))] at eo
          rw [eo] at nx; exact nx
      have c112 : ¬ (ov = 1 ∧ rd f (ea (rwJ f root s k) p) ≠ 0) → Go G (pI Q) 45 112 [some (vR 17), none, some (vI ov), some (vI (p + 1)), some (vI p), some (vI (rd f (ea (rwJ f root s k) p)))] [] b := by
        intro no
        apply q_H_askDirectory_c112
        rw [wI_id (z := rd f (ea (rwJ f root s k) p)) (by omega) (by omega)]
        refine ⟨fun lo => ?_, fun hi => ?_⟩
        · have D : DG f g n root K0 md k p ov s' (p + 1) (if rd f (ea (rwJ f root s k) p) = 0 then 1 else ov) s' := ⟨hp, T, Or.inl ⟨by rw [rw']; exact lo, by rw [rw']; exact no, rfl, by rw [rw'], rfl⟩⟩
          have A := DG_SI (by omega) hf tk td p0 D
          refine e138 (if rd f (ea (rwJ f root s k) p) = 0 then 1 else ov) (p + 1) s' b ?_ (by omega) (by omega) A.1 (Int.le_refl _) td (fun _ _ => rfl) Cb (FM.rf md b) (fun F x y z dw => DW_go f g n root K0 md D dw)
          by_cases z : rd f (ea (rwJ f root s k) p) = 0
          · rw [if_pos z, if_pos (Or.inr z)]
          · rw [if_neg z]
            split <;> omega
        · have ov0 : ov = 0 := (by omega)
          subst ov0
          refine H_meetSet hf T Xb Cb (by rw [rk', rw']; exact rb) tk td p0 hp (by rw [rw']; omega) (fun h' F dn F0 a1 a2 a3 a4 a5 a6 => ?_) (fun h' c s2 c1 c4 D C2 F2 => ?_)
          · rw [rw'] at a2
            have eF : DW f g n root K0 md k F (rwJ f root s' k (p / 4).toNat) (p % 4) s' p 0 s' := DW_no f g n root K0 md dn F0
            rw [rw'] at eF
            refine ⟨fun _ => ⟨Or.inl rfl, H0 h' F _ _ s' (ac _ _ _ _ eF) F0 dn.2.2.1 a1 a2 a3 (by rw [a4, Cb.2.1]; exact T.2.2.2.2.2.2.2.2.1.1 dn.2.2.1) (fb.w.tr (FD0.m a6))⟩, fun z => absurd (by rw [show p + 0 = p by omega]) z⟩
          · have A := DG_SI (by omega) hf tk td p0 D
            rw [wI_id (z := p + c) (by omega) (by omega), wI_id (z := p) (by omega) (by omega)]
            refine ⟨fun z => by omega, fun _ => ?_⟩
            exact e138 0 (p + c) s2 h' (by rw [if_neg (by omega)]) (by omega) (by omega) A.1 A.2.1 A.2.2.1 A.2.2.2.1 C2 F2 (fun F x y z dw => DW_go f g n root K0 md D dw)
      refine ⟨fun c0 => c112 (by omega), fun c0 => ⟨fun c1 => c112 (by omega), fun c1 => ?_⟩⟩
      have ov1 : ov = 1 := (by omega)
      refine H_strike rb p0 (by omega) (fun md0 h' a1 a2 a3 a4 a5 => ?_) (fun md1 => ?_) (by rw [Cb.2.2.2.2.1]; exact x6)
      · rw [Cb.2.2.2.2.1] at md0
        have eF : DW f g n root K0 md k 5 (rwJ f root s' k (p / 4).toNat) (p % 4) s' p ov s' := DW_no f g n root K0 md ⟨hp, T, md0, Or.inl ⟨ov1, by rw [rw']; exact c1, rfl⟩⟩ (by decide)
        rw [rw'] at eF
        refine ⟨fun _ => ⟨Or.inl rfl, H0 h' 5 _ _ s' (ac _ _ _ _ eF) (by decide) md0 a1 a2 a3 (by rw [a5 3 (by decide), Cb.2.1]; exact T.2.2.2.2.2.2.2.2.1.1 md0) (fb.w.tr ⟨fun o p => a5 o (by omega), fun j p => a4 j (by omega) (by omega) (by omega), fun _ => a5 4 (by decide)⟩)⟩, fun z => absurd wI_0 z⟩
      · rw [Cb.2.2.2.2.1] at md1
        refine ⟨fun z => absurd z (by decide), fun _ => ?_⟩
        have rb3 : Ro (hs b 17 13 (b 17 13 + 1)) 18 19 (rkJ f K0 s k) (rwJ f root s k) := by unfold Ro; rw [hs_o _ _ _ _ _ (by decide), hs_o _ _ _ _ _ (by decide)]; exact rb
        refine C_entry_18 rb3 p0 (by omega) ?_
        have d2 : Dk (hs b 17 13 (b 17 13 + 1)) := Dk_congr (hs_o _ _ _ _ _ (by decide)) (hs_o _ _ _ _ _ (by decide)) (hs_o _ _ _ _ _ (by decide)) Cb.1
        refine D_wb1 d2 (by omega) (by omega) (fun b3 u => ?_)
        rw [hs_o _ _ _ _ _ (by decide), Cb.2.1] at u
        have D : DG f g n root K0 md k p ov s' (p + 1) 1 (edt s' (wb (s' 5) (ea (rwJ f root s' k) p) 1 0) (s' 6 0 + 1)) := ⟨hp, T, Or.inr (Or.inl ⟨ov1, by rw [rw']; exact c1, md1, rfl, rfl, rfl⟩)⟩
        rw [rw'] at D
        have A := DG_SI (by omega) hf tk td p0 D
        refine e138 1 (p + 1) (edt s' (wb (s' 5) (ea (rwJ f root s k) p) 1 0) (s' 6 0 + 1)) b3 (by rw [if_pos (Or.inl ov1)]) (by omega) (by omega) A.1 A.2.1 A.2.2.1 A.2.2.2.1 (CR_edt Cb u.1 u.2.1 ?_ ?_ ?_ ?_ ?_) ((FM.k (by omega)).tr (FM.u u md1)) (fun F x y z dw => DW_go f g n root K0 md D dw)
        · rw [u.2.2 24 (by decide) (by decide), hs_o _ _ _ _ _ (by decide)]
        · rw [u.2.2 25 (by decide) (by decide), hs_o _ _ _ _ _ (by decide)]
        · rw [u.2.2 17 (by decide) (by decide), hs_k _ _ _ _ _ (by decide)]
        · rw [u.2.2 17 (by decide) (by decide), hs_k _ _ _ _ _ (by decide)]
        · rw [u.2.2 17 (by decide) (by decide), hs_same, Cb.2.2.2.1]
  have P0 := SI_P0 S hk
  have Pr : s 2 k ≤ 407 := by
    by_cases q : k = 0
    · rw [q, S.1.2.1]; omega
    · have := SI_even S (j := k) (by omega) hk
      unfold clu at this
      omega
  rw [wI_id (z := s 2 k) (by omega) (by omega)]
  have k1 : 1 ≤ rkJ f K0 s k := by
    by_cases q : k = 0
    · subst q
      have k0 : rkJ f K0 s 0 = K0 := by unfold rkJ rkP; rw [S.1.2.1, if_pos rfl]
      omega
    · obtain ⟨p1, p2, p3, p4, p5⟩ := S.2.2.2.1 k (by omega) hk
      have hd' : isD f (ha (s 2 k)) := by
        rcases hd with y | y
        · exact absurd y q
        · exact y
      have l5 := p5.2.2.1.2.2.2.2.1
      rw [ha_ea, ← p4] at l5
      have l6 := l5 hd'
      have cl := SI_even S (j := k) (by omega) hk
      have rr := ha_rng cl.1 x5.2
      have r2 := ha_rng2 cl.1 x5.2 cl.2
      have u5 := u4_rng hf (show 0 ≤ ha (s 2 k) + 56 by omega) (show ha (s 2 k) + 56 + 3 < 13824 by omega)
      unfold rkJ rkP
      rw [if_neg (fun y => q (P0.2 y))]
      omega
  refine ⟨fun c => ?_, fun c => ?_⟩
  · have z := P0.2 c
    rw [if_pos z] at S'
    refine key (4 * rkJ f K0 s k - 2) 2 2 0 s h1 (by omega) (by omega) (by omega) (by omega) (Or.inl rfl) S' (Int.le_refl _) hd (fun _ _ => rfl) C1 ro FD1 (fun F x y w dw => ?_)
    rw [if_pos z]; exact dw
  · have z : k ≠ 0 := fun q => c (by rw [q]; exact S.1.2.1)
    rw [if_neg z] at S'
    refine key (4 * rkJ f K0 s k) 0 0 0 s h1 (by omega) (by omega) (by omega) (by omega) (Or.inl rfl) S' (Int.le_refl _) hd (fun _ _ => rfl) C1 ro FD1 (fun F x y w dw => ?_)
    rw [if_neg z]; exact dw
theorem H_askTree {Q : Int → AH → Prop} {x1 : Int} (hf : By f) (hx : x1 = 0 ∨ x1 = 1) (S : SI f g n root K0 md s 0 0) (hK : 1 ≤ K0) (t0 : rd f (ca root) ≠ 133) (t1 : rd f (ca root + 32) ≠ 133) (X : CX g n root md h) (C : CR f md s (hs (hs (hs (hs h 17 12 x1) 17 13 0) 25 0 0) 17 11 1))
    (H0 : ∀ h' F x y z, TW f g n root K0 md F x y z 0 s → F ≠ 0 → md = 0 → h' 17 15 = F → h' 17 16 = x → h' 17 17 = y → h' 3 = f → FD0 md h h' → Q F h')
    (H1 : ∀ h' z, TW f g n root K0 md 0 0 0 z 0 s → CR f md z h' → FD md h h' → Q 0 h') : RunsI G 44 [vR 17, vI x1] h Q := by
  have x5 := X.2.2.2.2.1
  apply q_H_askTree
  refine ⟨hx, by omega, ?_⟩
  have key : ∀ (m k : Nat) (s' b : AH), k + m = 102 → (k : Int) ≤ s' 1 0 → SI f g n root K0 md s' k 0 → CR f md s' b → FD md h b → (∀ F x y z, TW f g n root K0 md F x y z k s' → TW f g n root K0 md F x y z 0 s) → Go G (pI Q) 44 24 [some (vR 17), none, some (vI (dc f s' k : Nat))] [] b := by
    intro m
    induction m with
    | zero =>
      intro k s' b hm kl T Cb fb ac
      have := SI_N T (by omega)
      omega
    | succ m ih =>
      intro k s' b hm kl T Cb fb ac
      have N' := SI_N T (by omega)
      have d1 := dc_le (f := f) (s := s') k
      have d2 := dc_le (f := f) (s := s') (s' 1 0).toNat
      by_cases c : (k : Int) < s' 1 0
      · by_cases hd : dirJ f s' k
        · apply q_H_askTree_c24
          have lt' := dc_lt (j := (s' 1 0).toNat) hd (by omega)
          rw [Cb.2.2.2.2.2.1, wI_id (z := ((dc f s' (s' 1 0).toNat : Nat) : Int)) (by omega) (by omega), wI_id (z := ((dc f s' k : Nat) : Int)) (by omega) (by omega)]
          refine ⟨fun q => by omega, fun _ => ⟨fun q => by omega, fun _ => ⟨by omega, ?_⟩⟩⟩
          rw [show (((dc f s' k : Nat) : Int)).toNat = dc f s' k by omega, Cb.2.2.2.2.2.2 k c hd]
          refine H_askDirectory hf T (CX_congr (fb.1 7 (by omega)) (fb.1 9 (by omega)) X) Cb c hd hK t0 t1 (fun h' F x y z dw F0 m0 a1 a2 a3 a4 a5 => ?_) (fun h' z dw T2 kz kp C2 f2 => ?_)
          · refine ⟨fun _ => ?_, fun q => absurd wI_0 q⟩
            rw [a1]
            exact H0 h' F x y z (ac _ _ _ _ (TW_no f g n root K0 md c hd dw F0)) F0 m0 a1 a2 a3 a4 (fb.w.tr a5)
          · refine ⟨fun q => absurd q (by decide), fun _ => ?_⟩
            have e2 : dc f z (k + 1) = dc f s' k + 1 := by
              rw [dc_congr (fun i hi => kp i (by omega)), dc_y hd]
            have nx := ih (k + 1) z h' (by omega) (by omega) T2 C2 (fb.tr f2) (fun F x y w tw => ac F x y w (TW_dir f g n root K0 md c hd dw tw))
            rw [e2] at nx
            rw [show ((dc f s' k : Nat) : Int) + 1 = ((dc f s' k + 1 : Nat) : Int) by omega]
            exact nx
        · have nx := ih (k + 1) s' b (by omega) (by omega) (SI_next T (fun _ q => absurd q hd)) Cb fb (fun F x y z tw => ac F x y z (TW_skip f g n root K0 md c hd T tw))
          rw [dc_n hd] at nx
          exact nx
      · apply q_H_askTree_c24
        have ek : (s' 1 0).toNat = k := (by omega)
        rw [Cb.2.2.2.2.2.1, ek, wI_id (z := ((dc f s' k : Nat) : Int)) (by omega) (by omega)]
        exact ⟨fun _ => H1 b s' (ac _ _ _ _ (TW_end f g n root K0 md (by omega) T)) Cb fb, fun q => by omega⟩
  have F0 : FD md h (hs (hs (hs (hs h 17 12 x1) 17 13 0) 25 0 0) 17 11 1) := by
    refine ⟨fun o p => ?_, fun k p => ?_, fun _ => ?_⟩
    · rw [hs_o _ _ _ _ _ (by omega), hs_o _ _ _ _ _ (by omega), hs_o _ _ _ _ _ (by omega), hs_o _ _ _ _ _ (by omega)]
    · rw [hs_k _ _ _ _ _ (by omega), hs_o _ _ _ _ _ (by decide), hs_k _ _ _ _ _ (by omega), hs_k _ _ _ _ _ (by omega)]
    · rw [hs_o _ _ _ _ _ (by decide), hs_o _ _ _ _ _ (by decide), hs_o _ _ _ _ _ (by decide), hs_o _ _ _ _ _ (by decide)]
  have N1 := S.1.1
  exact key 102 0 s _ (by omega) (by omega) S C F0 (fun _ _ _ _ t => t)
end WF
