/-! mounting -/
def Mo (h : AH) : Prop := ∃ t R, V (h 3) (h 9) (h 7 1) (h 7 2) (h 7 3) t R ∧ Hd (h 3) t R h ∧ E2 (h 38) (h 9) ∧ Gr (h 9) ∧ h 34 0 = h 7 1 ∧ h 34 1 = h 7 2 ∧ h 34 2 = h 7 3
theorem Mo_C : MnC Mo := by
  intro h h' ag ⟨t, R, v, hd, e2, gr, a, b, c⟩
  obtain ⟨g2, g3, g71, g72, g73, g9, g12, g13, g38, g0, g1, g22⟩ := ag
  refine ⟨t, R, by rw [g3, g9, g71, g72, g73]; exact v, ?_, by rw [g38, g9]; exact e2, by rw [g9]; exact gr, by rw [g0, g71]; exact a, by rw [g1, g72]; exact b, by rw [g22, g73]; exact c⟩
  unfold Hd at *
  rw [g3, g12, g13]
  exact hd
theorem TW_F {f g : Nat → Int} {n root md : Int} {K0 : Nat} {F x y : Int} {z s : AH} {k : Nat} (T : TW f g n root K0 md F x y z k s) : 0 ≤ F ∧ F ≤ 8 := by
  have dw : ∀ (k : Nat) (e ov : Int) (s : AH), DW f g n root K0 md k F x y z e ov s → 0 ≤ F ∧ F ≤ 8 := fun k e ov s D => D (fun _ _ _ => 0 ≤ F ∧ F ≤ 8) (fun _ _ _ q _ _ _ => by rw [q]; decide) (fun _ _ _ d _ _ _ _ => by
    rcases d.2.2.2 with ⟨_, _, q⟩ | ⟨_, _, ⟨_, q⟩ | ⟨_, _, q, _⟩⟩
    · rw [q]; decide
    · rw [q]; decide
    · exact FCA_rng q) (fun _ _ _ _ _ _ _ ih => ih)
  exact T (fun _ _ => 0 ≤ F ∧ F ≤ 8) (fun _ _ q _ _ _ => by rw [q]; decide) (fun _ _ _ _ _ ih => ih) (fun _ _ _ _ d _ => dw _ _ _ _ d) (fun _ _ _ _ _ _ ih => ih)
theorem WK_0 {f : Nat → Int} {root : Int} {K : Nat} {mp tb' : Int} : WK (own f root K mp tb') (s0 f root K mp tb') := ⟨fun j j1 hj => by rw [s0_1] at hj; omega, fun c _ => by rw [s0_0]⟩
section MOUNT
variable {G : GG} {h : AH}
theorem V_mount {P : Int → AH → Prop} (sy : Syn h) (h8 : h 0 8 = 0)
    (H0 : ∀ h' x y z, BaseNo (h 3) x y z → h' 17 15 = x → h' 17 16 = y → h' 17 17 = z → (∀ o, ¬ (o = 6 ∨ o = 7 ∨ o = 9 ∨ o = 17 ∨ o = 24) → h' o = h o) → P (-10 - x) h')
    (H1 : ∀ h' a K g g' F x y z, BaseOK (h 3) a K g → E2 g' g → TW (h 3) g' (u4 (h 3) (a + 32)) (u4 (h 3) (a + 36)) K 0 F x y z 0 (s0 (h 3) (u4 (h 3) (a + 36)) K (u4 (h 3) (ca (u4 (h 3) (a + 36)) + 20)) (u4 (h 3) (ca (u4 (h 3) (a + 36)) + 32 + 20))) → F ≠ 0 → h' 17 15 = F → h' 17 16 = x → h' 17 17 = y → (∀ o, ¬ (o = 6 ∨ o = 7 ∨ o = 9 ∨ (17 ≤ o ∧ o ≤ 25)) → h' o = h o) → P (-10 - F) h')
    (H2 : ∀ h' a K g g' z, BaseOK (h 3) a K g → E2 g' g → TW (h 3) g' (u4 (h 3) (a + 32)) (u4 (h 3) (a + 36)) K 0 0 0 0 z 0 (s0 (h 3) (u4 (h 3) (a + 36)) K (u4 (h 3) (ca (u4 (h 3) (a + 36)) + 20)) (u4 (h 3) (ca (u4 (h 3) (a + 36)) + 32 + 20))) → ¬ Bmp (h 3) (u4 (h 3) (ca (u4 (h 3) (a + 36)) + 20)) (fun x => z 0 x.toNat ≠ -1) (u4 (h 3) (a + 32)) → h' 17 15 = 9 → h' 17 16 = 0 → h' 17 17 = 0 → (∀ o, ¬ (o = 6 ∨ o = 7 ∨ o = 9 ∨ (17 ≤ o ∧ o ≤ 25)) → h' o = h o) → P (-10 - 9) h')
    (H3 : ∀ h' a K g z t R, BaseOK (h 3) a K g → E2 (h' 9) g → Gr (h' 9) → TW (h 3) (h' 9) (u4 (h 3) (a + 32)) (u4 (h 3) (a + 36)) K 0 0 0 0 z 0 (s0 (h 3) (u4 (h 3) (a + 36)) K (u4 (h 3) (ca (u4 (h 3) (a + 36)) + 20)) (u4 (h 3) (ca (u4 (h 3) (a + 36)) + 32 + 20))) → Bmp (h 3) (u4 (h 3) (ca (u4 (h 3) (a + 36)) + 20)) (fun x => z 0 x.toNat ≠ -1) (u4 (h 3) (a + 32)) → h' 7 1 = u4 (h 3) (a + 32) → h' 7 2 = u4 (h 3) (a + 36) → h' 7 3 = u4 (h 3) (ca (u4 (h 3) (a + 36)) + 20) → V (h 3) (h' 9) (h' 7 1) (h' 7 2) (h' 7 3) t R → Hd (h 3) t R h' → (∀ k, 15 ≤ k → k ≤ 17 → h' 17 k = h 17 k) → h' 0 8 = 1 → (∀ o, ¬ (o = 0 ∨ o = 6 ∨ o = 7 ∨ o = 9 ∨ (11 ≤ o ∧ o ≤ 25)) → h' o = h o) → P (if a = 0 then 1 else 2) h') : RunsI G 143 [vR 0] h P := by
  have hb := sy.1.2.1
  apply q_V_mount
  rw [h8]
  refine ⟨fun _ => ?_, fun z => absurd wI_0 z⟩
  refine H_askBase hb (fun h1 a K g ok gr e2 mt n1 n2 n3 n4 k1 o1 => ?_) (fun h1 x y z no a1 a2 a3 o1 => ?_)
  · refine ⟨fun _ => ?_, fun z => absurd wI_0 z⟩
    obtain ⟨a01, nr, K1, Kn⟩ := BaseOK_n ok
    have h1_3 : h1 3 = h 3 := o1 3 (by decide) (by decide) (by decide) (by decide) (by decide)
    have d1 : Dk h1 := Dk_congr (o1 2 (by decide) (by decide) (by decide) (by decide) (by decide)) h1_3 (o1 4 (by decide) (by decide) (by decide) (by decide) (by decide)) sy.1
    have mp := ok.2.2.2.2.1
    have mpr := mp.2.2.2.2.1
    have rt := ok.2.2.2.1.1.2.1 0 (by omega)
    unfold clu at rt
    simp only [tc] at rt
    have C0 : CR (h 3) 0 (s0 (h 3) (u4 (h 3) (a + 36)) K (u4 (h 3) (ca (u4 (h 3) (a + 36)) + 20)) (u4 (h 3) (ca (u4 (h 3) (a + 36)) + 32 + 20))) (hs (hs (hs (hs h1 17 12 0) 17 13 0) 25 0 0) 17 11 1) := CR_0 d1 h1_3 (Mt_congr mt (fun x _ _ => ⟨fun q => by
      rcases q with (q | q) | q
      · exact Or.inl q
      · exact Or.inr (Or.inl q)
      · exact Or.inr (Or.inr q), fun q => by
      rcases q with q | q | q
      · exact Or.inl (Or.inl q)
      · exact Or.inl (Or.inr q)
      · exact Or.inr q⟩))
    have oo : ∀ o, ¬ (o = 6 ∨ o = 7 ∨ o = 9 ∨ (17 ≤ o ∧ o ≤ 25)) → h1 o = h o := fun o p => o1 o (by omega) (by omega) (by omega) (by omega) (by omega)
    refine H_askTree (f := h 3) (g := h1 9) (n := u4 (h 3) (a + 32)) (root := u4 (h 3) (a + 36)) (K0 := K) (md := 0) (s := s0 (h 3) (u4 (h 3) (a + 36)) K (u4 (h 3) (ca (u4 (h 3) (a + 36)) + 20)) (u4 (h 3) (ca (u4 (h 3) (a + 36)) + 32 + 20))) hb (Or.inl rfl) (SI_0 hb ok.2.2.2.1) K1 (by rw [mp.1]; decide) (by rw [ok.2.2.2.2.2.1]; decide) ⟨n1, n2, rfl, Gr_E2 e2 gr, nr, Or.inl rfl⟩ C0 (fun h' F x y z tw F0 _ a1 a2 a3 a4 fd => ?_) (fun h' z tw C fd => ?_)
    · have fr := TW_F tw
      have go : ∀ o, ¬ (o = 6 ∨ o = 7 ∨ o = 9 ∨ (17 ≤ o ∧ o ≤ 25)) → h' o = h o := fun o p => by
        by_cases q : o = 3
        · rw [q]; exact a4
        · by_cases q4 : o = 4
          · rw [q4, fd.2.2 rfl]; exact oo 4 (by decide)
          · exact (fd.1 o (by omega)).trans (oo o p)
      apply q_V_mount_c31
      rw [wI_id (z := F) (by omega) (by omega)]
      exact ⟨fun q => absurd q F0, fun _ => ⟨fun q => absurd q F0, fun _ => H1 h' a K g (h1 9) F x y z ok e2 tw F0 a1 a2 a3 go⟩⟩
    · obtain ⟨k', S', kl⟩ := TW_end_SI tw
      have z5 : z 5 = h 3 := S'.2.2.2.2.2.2.2.2.1.1 rfl
      have x7 : h' 7 = h1 7 := fd.1 7 (by decide)
      have e71 : h' 7 1 = u4 (h 3) (a + 32) := by rw [x7]; exact n1
      have e72 : h' 7 2 = u4 (h 3) (a + 36) := by rw [x7]; exact n2
      have e73 : h' 7 3 = u4 (h 3) (ca (u4 (h 3) (a + 36)) + 20) := by rw [x7]; exact n3
      have e9 : h' 9 = h1 9 := fd.1 9 (by decide)
      have e3 : h' 3 = h 3 := C.2.1.trans z5
      have go : ∀ o, ¬ (o = 6 ∨ o = 7 ∨ o = 9 ∨ (17 ≤ o ∧ o ≤ 25)) → h' o = h o := fun o p => by
        by_cases q : o = 3
        · rw [q]; exact e3
        · by_cases q4 : o = 4
          · rw [q4, fd.2.2 rfl]; exact oo 4 (by decide)
          · exact (fd.1 o (by omega)).trans (oo o p)
      have mpr' := mpr
      unfold clu at mpr'
      apply q_V_mount_c31
      refine ⟨fun _ => ?_, fun q => absurd wI_0 q⟩
      apply q_H_askBitmap
      refine H_isRightBitmap (M := fun x => z 0 x.toNat ≠ -1) (by rw [e3]; exact hb) (by rw [e71]; exact nr) (by rw [e73]; omega) C.2.2.1 (fun bm => ⟨fun q => absurd q (by decide), fun _ => ?_⟩) (fun bm => ⟨fun _ => ?_, fun q => absurd wI_0 q⟩)
      · rw [e3, e73, e71] at bm
        refine ⟨fun _ => ⟨Or.inr rfl, ?_⟩, fun q => absurd wI_0 q⟩
        have om : own (h 3) (u4 (h 3) (a + 36)) K (u4 (h 3) (ca (u4 (h 3) (a + 36)) + 20)) (u4 (h 3) (ca (u4 (h 3) (a + 36)) + 32 + 20)) (u4 (h 3) (ca (u4 (h 3) (a + 36)) + 20)).toNat = -2 := by
          unfold own
          rw [show (((u4 (h 3) (ca (u4 (h 3) (a + 36)) + 20)).toNat : Nat) : Int) = u4 (h 3) (ca (u4 (h 3) (a + 36)) + 20) by omega, if_neg mp.2.2.2.2.2.1, if_pos rfl]
        have v := V_of hb nr S' kl K1 (TW_WK tw WK_0) om mpr bm mp.1 ok.2.2.2.2.2.1
        have i3 : (hs h' 0 8 1) 3 = h 3 := by rw [hs_o _ _ _ _ _ (by decide)]; exact e3
        have i7 : (hs h' 0 8 1) 7 = h' 7 := hs_o _ _ _ _ _ (by decide)
        refine T_index v i3 (by rw [i7]; exact e71) (by rw [i7]; exact e72) (fun b hd ob => ?_)
        have b7 : b 7 = h' 7 := (ob 7 (by decide)).trans i7
        have b9 : b 9 = h1 9 := by rw [ob 9 (by decide), hs_o _ _ _ _ _ (by decide)]; exact e9
        have b17 : b 17 = h' 17 := by rw [ob 17 (by decide), hs_o _ _ _ _ _ (by decide)]
        have fin := H3 b a K g z _ _ ok (by rw [b9]; exact e2) (by rw [b9]; exact Gr_E2 e2 gr) (by rw [b9]; exact tw) bm (by rw [b7]; exact e71) (by rw [b7]; exact e72) (by rw [b7]; exact e73) (by rw [b7, b9, e71, e72, e73]; exact v) hd (fun k p q => by rw [b17, fd.2.1 k (by omega)]; exact k1 k (by omega)) (by rw [ob 0 (by decide), hs_same]) (fun o p => by rw [ob o (by omega), hs_o _ _ _ _ _ (by omega)]; exact go o (by omega))
        have b14 : b 17 14 = (if a = 0 then 0 else 1) := by rw [b17, fd.2.1 14 (by decide)]; exact n4
        rw [b14]
        by_cases a0 : a = 0
        · rw [if_pos a0] at fin ⊢
          exact ⟨fun _ => fin, fun q => absurd wI_0 q⟩
        · rw [if_neg a0] at fin ⊢
          exact ⟨fun q => absurd q (by decide), fun _ => fin⟩
      · rw [e3, e73, e71] at bm
        apply q_H_found
        refine ⟨fun q => absurd q (by decide), fun _ => H2 _ a K g (h1 9) z ok e2 tw bm ?_ ?_ ?_ (fun o p => ?_)⟩
        · rw [hs_k _ _ _ _ _ (by decide), hs_k _ _ _ _ _ (by decide), hs_same]
        · rw [hs_k _ _ _ _ _ (by decide), hs_same]
        · rw [hs_same]
        · rw [hs_o _ _ _ _ _ (by omega), hs_o _ _ _ _ _ (by omega), hs_o _ _ _ _ _ (by omega)]; exact go o p
  · have xr := BaseNo_x no
    rw [wI_id (z := x) (by omega) (by omega)]
    refine ⟨fun q => by omega, fun _ => ?_⟩
    apply q_V_mount_c31
    rw [wI_id (z := x) (by omega) (by omega)]
    exact ⟨fun q => by omega, fun _ => ⟨fun q => by omega, fun _ => H0 h1 x y z no a1 a2 a3 (fun o p => o1 o (by omega) (by omega) (by omega) (by omega) (by omega))⟩⟩
theorem T_mount (hI : Inv Mo h) : okI G (Inv Mo) 143 227 [] h := by
  obtain ⟨⟨c1, c2, c3, c4⟩, m⟩ := id hI
  have hE : E (ub (h 35)) (h 3) := fun k hk => by rw [c1.1.2.1 k hk]; exact (c1.2.2.2 k hk).symm
  have hb := c1.1.1.2.1
  rcases c2.2.2.2.2.1 with h8 | h8
  · have h43 : h 34 3 = 0 := by rw [← c2.2.2.2.1]; exact h8
    have ref : ∀ (b : AH), (∀ o, 34 ≤ o → b o = h o) → ∀ (a : Int) (K : Nat) (g : Nat → Int), BaseOK (h 3) a K g → ∀ (Q : Int → AH → Prop), (∀ h1, Gr g → E2 (h1 38) g → Mt (h1 37) (BM (h 3) (u4 (h 3) (a + 36)) K) → h1 34 0 = u4 (h 3) (a + 32) → h1 34 1 = u4 (h 3) (a + 36) → h1 34 2 = u4 (h 3) (ca (u4 (h 3) (a + 36)) + 20) → h1 34 12 = (if a = 0 then 0 else 1) → h1 34 35 = 0 → (∀ k, (3 ≤ k ∧ k ≤ 11) ∨ k = 41 → h1 34 k = h 34 k) → (∀ o, o ≠ 34 → o ≠ 37 → o ≠ 38 → h1 o = b o) → RunsI G 224 [vR 34] h1 (fun r2 h2 => ((wI r2 = 0 → Go G (pI Q) 227 34 [some (vR 34), none] [vI 0] h2) ∧ (¬ wI r2 = 0 → Go G (pI Q) 227 34 [some (vR 34), none] [vI 1] h2)))) → RunsI G 227 [vR 34] b Q := by
      intro b ob a K g ok Q k
      apply q_M_mount
      rw [ob 34 (by omega), h43]
      refine ⟨fun _ => ⟨Or.inl rfl, ?_⟩, fun z => absurd wI_0 z⟩
      have i35 : (hs b 34 35 0) 35 = h 35 := by rw [hs_o _ _ _ _ _ (by decide), ob 35 (by omega)]
      refine M_isMountable (f := h 3) (by rw [i35]; exact c1.2.1) (by rw [i35]; exact hE) (fun h1 a2 K2 g2 ok2 gr e2 mt n0 n1 n2 n12 k1 o1 => ⟨fun z => absurd z (by decide), fun _ => ?_⟩) (fun h1 x y z no _ _ _ _ _ => (Base_ex ok no).elim)
      obtain ⟨q1, q2, q3⟩ := BaseOK_fun ok2 ok
      subst q1 q2 q3
      exact k h1 gr e2 mt n0 n1 n2 n12 (by rw [k1 35 (by decide) (by decide) (by decide) (by decide) (by decide), hs_same]) (fun k p => by rw [k1 k (by omega) (by omega) (by omega) (by omega) (by omega), hs_k _ _ _ _ _ (by omega), ob 34 (by omega)]) (fun o p q r => by rw [o1 o p q r, hs_o _ _ _ _ _ p])
    have mtq : ∀ (a : Int) (K : Nat) (A : Nat → Int), Mt A (BM (h 3) (u4 (h 3) (a + 36)) K) → Mt A (fun x => s0 (h 3) (u4 (h 3) (a + 36)) K (u4 (h 3) (ca (u4 (h 3) (a + 36)) + 20)) (u4 (h 3) (ca (u4 (h 3) (a + 36)) + 32 + 20)) 0 x.toNat ≠ -1) := fun a K A mt => by
      rw [s0_0]
      refine Mt_congr mt (fun x x0 _ => ?_)
      rw [← own_met x0]
      exact ⟨fun q => by
        rcases q with (q | q) | q
        · exact Or.inl q
        · exact Or.inr (Or.inl q)
        · exact Or.inr (Or.inr q), fun q => by
        rcases q with q | q | q
        · exact Or.inl (Or.inl q)
        · exact Or.inl (Or.inr q)
        · exact Or.inr q⟩
    have inv : ∀ (b h2 : AH), (∀ o, ¬ (o = 6 ∨ o = 7 ∨ o = 9 ∨ (17 ≤ o ∧ o ≤ 25)) → b o = h o) → h2 17 15 = h2 34 9 → h2 17 16 = h2 34 10 → h2 17 17 = h2 34 11 → h2 34 3 = 0 → (∀ k, (4 ≤ k ∧ k ≤ 6) ∨ k = 41 → h2 34 k = h 34 k) → Sb (h2 36) → (∀ o, ¬ (o = 34 ∨ (36 ≤ o ∧ o ≤ 51)) → h2 o = b o) → Inv Mo h2 := by
      intro b h2 ob a1 a2 a3 z3 kk s6 o2
      have oo : ∀ o, ¬ (o = 6 ∨ o = 7 ∨ o = 9 ∨ (17 ≤ o ∧ o ≤ 25) ∨ o = 34 ∨ (36 ≤ o ∧ o ≤ 51)) → h2 o = h o := fun o p => (o2 o (by omega)).trans (ob o (by omega))
      refine ⟨⟨⟨?_, by rw [oo 35 (by decide)]; exact c1.2.1, s6, by rw [oo 2 (by decide), oo 35 (by decide)]; exact c1.2.2.2⟩, C2_congr (by rw [oo 1 (by decide)]) (by rw [oo 1 (by decide)]) (by rw [oo 0 (by decide)]) (by rw [oo 26 (by decide)]) (by rw [z3, h43]) (kk 4 (by omega)) (kk 5 (by omega)) (kk 6 (by omega)) c2, C3_congr (by rw [oo 32 (by decide)]) (kk 41 (by omega)) (oo 33 (by decide)) (oo 52 (by decide)) c3, ⟨a1, a2, a3⟩⟩, fun q => ?_⟩
      · have sy := c1.1
        unfold Syn Dk at *
        rw [oo 2 (by decide), oo 3 (by decide), oo 4 (by decide)]
        exact sy
      · rw [oo 0 (by decide), h8] at q
        exact absurd q (by decide)
    refine V_mount c1.1 h8 (fun b x y z no a1 a2 a3 ob => ?_) (fun b a K g g' F x y z ok eg tw F0 a1 a2 a3 ob => ?_) (fun b a K g g' z ok eg tw bm a1 a2 a3 ob => ?_) (fun b a K g z t R ok eg gr' tw bm x71 x72 x73 v hd f17 b08 ob => ?_)
    · show RunsI G 227 [vR 34] b _
      apply q_M_mount
      rw [ob 34 (by decide), h43]
      refine ⟨fun _ => ⟨Or.inl rfl, ?_⟩, fun z => absurd wI_0 z⟩
      have i35 : (hs b 34 35 0) 35 = h 35 := by rw [hs_o _ _ _ _ _ (by decide), ob 35 (by decide)]
      refine M_isMountable (f := h 3) (by rw [i35]; exact c1.2.1) (by rw [i35]; exact hE) (fun h1 a2 K2 g2 ok2 _ _ _ _ _ _ _ _ _ => (Base_ex ok2 no).elim) (fun h1 x' y' z' no' e9 e10 e11 k1 o1 => ⟨fun _ => ?_, fun q => absurd wI_0 q⟩)
      obtain ⟨q1, q2, q3⟩ := BaseNo_fun no' no
      apply q_M_mount_c34
      refine ⟨fun _ => ⟨Or.inl rfl, fun _ => ?_, fun q => absurd wI_0 q⟩, fun q => absurd wI_0 q⟩
      have i9 : ∀ k, k ≠ 3 → (hs h1 34 3 0) 34 k = h1 34 k := fun k hk => hs_k _ _ _ _ _ hk
      have t17 : (hs h1 34 3 0) 17 = b 17 := by rw [hs_o _ _ _ _ _ (by decide), o1 17 (by decide) (by decide) (by decide), hs_o _ _ _ _ _ (by decide)]
      refine ⟨by rw [i9 9 (by decide), e9, q1], inv b _ (fun o p => ob o (by omega)) (by rw [t17, i9 9 (by decide), e9, q1, a1]) (by rw [t17, i9 10 (by decide), e10, q2, a2]) (by rw [t17, i9 11 (by decide), e11, q3, a3]) (hs_same _ _ _ _) (fun k p => ?_) ?_ (fun o p => ?_)⟩
      · rw [i9 k (by omega), k1 k (by omega) (by omega) (by omega) (by omega) (by omega) (by omega) (by omega) (by omega), hs_k _ _ _ _ _ (by omega), ob 34 (by decide)]
      · rw [hs_o _ _ _ _ _ (by decide), o1 36 (by decide) (by decide) (by decide), hs_o _ _ _ _ _ (by decide), ob 36 (by decide)]; exact c1.2.2.1
      · rw [hs_o _ _ _ _ _ (by omega), o1 o (by omega) (by omega) (by omega), hs_o _ _ _ _ _ (by omega)]
    · show RunsI G 227 [vR 34] b _
      obtain ⟨a01, nr, K1, Kn⟩ := BaseOK_n ok
      refine ref b (fun o p => ob o (by omega)) a K g ok _ (fun h1 gr e2 mt n0 n1 n2 n12 k35 kk o1 => ?_)
      refine M_areSetsRight (f := h 3) (md := 0) hb tw ⟨n0, n1, e2.tr eg.sm, Gr_E2 e2 gr, nr, Or.inl rfl, k35⟩ K1 (s0_1 _ _ _ _ _) (by rw [s0_2]) (by rw [o1 35 (by decide) (by decide) (by decide), ob 35 (by decide)]; exact c1.2.1) (by rw [o1 35 (by decide) (by decide) (by decide), ob 35 (by decide)]; exact hE) (by rw [o1 36 (by decide) (by decide) (by decide), ob 36 (by decide)]; exact c1.2.2.1) (fun q => absurd q (by decide)) (mtq a K _ mt) (fun q => absurd q (by decide)) (fun q => absurd q F0) (fun _ h2 e9 e10 e11 s6 fr => ⟨fun _ => ?_, fun q => absurd wI_0 q⟩)
      apply q_M_mount_c34
      refine ⟨fun _ => ⟨Or.inl rfl, fun _ => ?_, fun q => absurd wI_0 q⟩, fun q => absurd wI_0 q⟩
      have i9 : ∀ k, k ≠ 3 → (hs h2 34 3 0) 34 k = h2 34 k := fun k hk => hs_k _ _ _ _ _ hk
      have t17 : (hs h2 34 3 0) 17 = b 17 := by rw [hs_o _ _ _ _ _ (by decide), fr.1 17 (by decide), o1 17 (by decide) (by decide) (by decide)]
      refine ⟨by rw [i9 9 (by decide), e9], inv b _ ob (by rw [t17, i9 9 (by decide), e9, a1]) (by rw [t17, i9 10 (by decide), e10, a2]) (by rw [t17, i9 11 (by decide), e11, a3]) (hs_same _ _ _ _) (fun k p => ?_) ?_ (fun o p => ?_)⟩
      · rw [i9 k (by omega), fr.2 k (by omega)]; exact kk k (by omega)
      · rw [hs_o _ _ _ _ _ (by decide)]; exact s6
      · rw [hs_o _ _ _ _ _ (by omega), fr.1 o (by omega)]; exact o1 o (by omega) (by omega) (by omega)
    · show RunsI G 227 [vR 34] b _
      obtain ⟨a01, nr, K1, Kn⟩ := BaseOK_n ok
      have mpr := ok.2.2.2.2.1.2.2.2.2.1
      unfold clu at mpr
      obtain ⟨k', S', kl⟩ := TW_end_SI tw
      refine ref b (fun o p => ob o (by omega)) a K g ok _ (fun h1 gr e2 mt n0 n1 n2 n12 k35 kk o1 => ?_)
      refine M_areSetsRight (f := h 3) (md := 0) hb tw ⟨n0, n1, e2.tr eg.sm, Gr_E2 e2 gr, nr, Or.inl rfl, k35⟩ K1 (s0_1 _ _ _ _ _) (by rw [s0_2]) (by rw [o1 35 (by decide) (by decide) (by decide), ob 35 (by decide)]; exact c1.2.1) (by rw [o1 35 (by decide) (by decide) (by decide), ob 35 (by decide)]; exact hE) (by rw [o1 36 (by decide) (by decide) (by decide), ob 36 (by decide)]; exact c1.2.2.1) (fun q => absurd q (by decide)) (mtq a K _ mt) (fun q => absurd q (by decide)) (fun _ h2 R2 fr => ⟨fun q => absurd q (by decide), fun _ => ?_⟩) (fun q => absurd rfl q)
      apply q_M_mount_c34
      refine ⟨fun q => absurd q (by decide), fun _ => ?_⟩
      have e0 : h2 34 0 = u4 (h 3) (a + 32) := by rw [fr.2 0 (by decide)]; exact n0
      have em : h2 34 2 = u4 (h 3) (ca (u4 (h 3) (a + 36)) + 20) := by rw [fr.2 2 (by decide)]; exact n2
      refine M_isMapRight (f := h 3) (M := fun x => z 0 x.toNat ≠ -1) R2.2.1 (by rw [e0]; exact nr) (by rw [em]; omega) R2.2.2.2.2.1 (fun bm2 => absurd (by rw [e0, em] at bm2; exact bm2) bm) (fun bm2 => ⟨fun _ => ?_, fun q => absurd wI_0 q⟩)
      apply q_M_meets
      refine ⟨Or.inl rfl, Or.inl rfl, fun _ => ?_, fun q => absurd wI_0 q⟩
      generalize eg2 : hs (hs (hs h2 34 9 9) 34 10 0) 34 11 0 = h4
      have j9 : h4 34 9 = 9 := by rw [← eg2, hs_k _ _ _ _ _ (by decide), hs_k _ _ _ _ _ (by decide), hs_same]
      have j10 : h4 34 10 = 0 := by rw [← eg2, hs_k _ _ _ _ _ (by decide), hs_same]
      have j11 : h4 34 11 = 0 := by rw [← eg2, hs_same]
      have jk : ∀ k, ¬ (9 ≤ k ∧ k ≤ 11) → h4 34 k = h2 34 k := fun k p => by rw [← eg2, hs_k _ _ _ _ _ (by omega), hs_k _ _ _ _ _ (by omega), hs_k _ _ _ _ _ (by omega)]
      have jo : ∀ o, o ≠ 34 → h4 o = h2 o := fun o p => by rw [← eg2, hs_o _ _ _ _ _ p, hs_o _ _ _ _ _ p, hs_o _ _ _ _ _ p]
      clear eg2
      have i9 : ∀ k, k ≠ 3 → (hs h4 34 3 0) 34 k = h4 34 k := fun k hk => hs_k _ _ _ _ _ hk
      have t17 : (hs h4 34 3 0) 17 = b 17 := by rw [hs_o _ _ _ _ _ (by decide), jo 17 (by decide), fr.1 17 (by decide), o1 17 (by decide) (by decide) (by decide)]
      refine ⟨by rw [i9 9 (by decide), j9], inv b _ ob (by rw [t17, i9 9 (by decide), j9, a1]) (by rw [t17, i9 10 (by decide), j10, a2]) (by rw [t17, i9 11 (by decide), j11, a3]) (hs_same _ _ _ _) (fun k p => ?_) ?_ (fun o p => ?_)⟩
      · rw [i9 k (by omega), jk k (by omega), fr.2 k (by omega)]; exact kk k (by omega)
      · rw [hs_o _ _ _ _ _ (by decide), jo 36 (by decide)]; exact R2.2.2.1
      · rw [hs_o _ _ _ _ _ (by omega), jo o (by omega), fr.1 o (by omega)]; exact o1 o (by omega) (by omega) (by omega)
    · show RunsI G 227 [vR 34] b _
      obtain ⟨a01, nr, K1, Kn⟩ := BaseOK_n ok
      have mpr := ok.2.2.2.2.1.2.2.2.2.1
      unfold clu at mpr
      refine ref b (fun o p => ob o (by omega)) a K g ok _ (fun h1 gr e2 mt n0 n1 n2 n12 k35 kk o1 => ?_)
      refine M_areSetsRight (f := h 3) (md := 0) hb tw ⟨n0, n1, e2.tr eg.sm, Gr_E2 e2 gr, nr, Or.inl rfl, k35⟩ K1 (s0_1 _ _ _ _ _) (by rw [s0_2]) (by rw [o1 35 (by decide) (by decide) (by decide), ob 35 (by decide)]; exact c1.2.1) (by rw [o1 35 (by decide) (by decide) (by decide), ob 35 (by decide)]; exact hE) (by rw [o1 36 (by decide) (by decide) (by decide), ob 36 (by decide)]; exact c1.2.2.1) (fun q => absurd q (by decide)) (mtq a K _ mt) (fun q => absurd q (by decide)) (fun _ h2 R2 fr => ⟨fun q => absurd q (by decide), fun _ => ?_⟩) (fun q => absurd rfl q)
      apply q_M_mount_c34
      refine ⟨fun q => absurd q (by decide), fun _ => ?_⟩
      have e0 : h2 34 0 = u4 (h 3) (a + 32) := by rw [fr.2 0 (by decide)]; exact n0
      have er : h2 34 1 = u4 (h 3) (a + 36) := by rw [fr.2 1 (by decide)]; exact n1
      have em : h2 34 2 = u4 (h 3) (ca (u4 (h 3) (a + 36)) + 20) := by rw [fr.2 2 (by decide)]; exact n2
      refine M_isMapRight (f := h 3) (M := fun x => z 0 x.toNat ≠ -1) R2.2.1 (by rw [e0]; exact nr) (by rw [em]; omega) R2.2.2.2.2.1 (fun bm2 => ⟨fun q => absurd q (by decide), fun _ => ⟨Or.inr rfl, fun q => absurd q (by decide), fun _ => ?_⟩⟩) (fun bm2 => absurd (by rw [e0, em]; exact bm) bm2)
      have i9 : ∀ k, k ≠ 3 → (hs h2 34 3 1) 34 k = h2 34 k := fun k hk => hs_k _ _ _ _ _ hk
      have io : ∀ o, o ≠ 34 → (hs h2 34 3 1) o = h2 o := fun o p => hs_o _ _ _ _ _ p
      have ib : ∀ o, ¬ (34 ≤ o ∧ o ≤ 51) → (hs h2 34 3 1) o = b o := fun o p => by rw [io o (by omega), fr.1 o (by omega)]; exact o1 o (by omega) (by omega) (by omega)
      have ih : ∀ o, ¬ (o = 0 ∨ o = 6 ∨ o = 7 ∨ o = 9 ∨ (11 ≤ o ∧ o ≤ 25) ∨ (34 ≤ o ∧ o ≤ 51)) → (hs h2 34 3 1) o = h o := fun o p => (ib o (by omega)).trans (ob o (by omega))
      have i35 : (hs h2 34 3 1) 35 = h 35 := by rw [io 35 (by decide), fr.1 35 (by decide), o1 35 (by decide) (by decide) (by decide), ob 35 (by decide)]
      have ik : ∀ k, (4 ≤ k ∧ k ≤ 11) ∨ k = 41 → (hs h2 34 3 1) 34 k = h 34 k := fun k p => by rw [i9 k (by omega), fr.2 k (by omega)]; exact kk k (by omega)
      have IV : Inv Mo (hs h2 34 3 1) := by
        refine ⟨⟨⟨?_, by rw [i35]; exact c1.2.1, by rw [io 36 (by decide)]; exact R2.2.2.1, by rw [ih 2 (by decide), i35]; exact c1.2.2.2⟩, ⟨?_, ?_, ?_, ?_, ?_, ?_⟩, C3_congr (by rw [ih 32 (by decide)]) (ik 41 (by omega)) (ih 33 (by decide)) (ih 52 (by decide)) c3, ⟨?_, ?_, ?_⟩⟩, fun _ => ⟨t, R, ?_, ?_, ?_, ?_, ?_, ?_, ?_⟩⟩
        · have sy := c1.1
          unfold Syn Dk at *
          rw [ih 2 (by decide), ih 3 (by decide), ih 4 (by decide)]
          exact sy
        · rw [ih 1 (by decide), ik 5 (by omega)]; exact c2.1
        · rw [ih 1 (by decide)]; exact c2.2.1
        · rw [ih 1 (by decide), ik 6 (by omega)]; exact c2.2.2.1
        · rw [ib 0 (by decide), b08, hs_same]
        · rw [ib 0 (by decide)]; exact Or.inr b08
        · rw [ih 26 (by decide), ik 4 (by omega)]; exact c2.2.2.2.2.2
        · rw [ib 17 (by decide), f17 15 (by omega) (by omega), ik 9 (by omega)]; exact c4.1
        · rw [ib 17 (by decide), f17 16 (by omega) (by omega), ik 10 (by omega)]; exact c4.2.1
        · rw [ib 17 (by decide), f17 17 (by omega) (by omega), ik 11 (by omega)]; exact c4.2.2
        · rw [ih 3 (by decide), ib 9 (by decide), ib 7 (by decide)]; exact v
        · rw [ih 3 (by decide)]
          unfold Hd at hd ⊢
          rw [ib 12 (by decide), ib 13 (by decide)]
          exact hd
        · rw [io 38 (by decide), fr.1 38 (by decide), ib 9 (by decide)]; exact e2.tr eg.sm
        · rw [ib 9 (by decide)]; exact gr'
        · rw [i9 0 (by decide), e0, ib 7 (by decide), x71]
        · rw [i9 1 (by decide), er, ib 7 (by decide), x72]
        · rw [i9 2 (by decide), em, ib 7 (by decide), x73]
      rw [i9 12 (by decide), fr.2 12 (by decide), n12]
      by_cases a0 : a = 0
      · rw [if_pos a0, if_pos a0]
        exact ⟨fun _ => ⟨rfl, IV⟩, fun q => absurd wI_0 q⟩
      · rw [if_neg a0, if_neg a0]
        exact ⟨fun q => absurd q (by decide), fun _ => ⟨rfl, IV⟩⟩
  · apply q_V_mount
    rw [h8]
    refine ⟨fun q => absurd q (by decide), fun _ => ?_⟩
    show RunsI G 227 [vR 34] h _
    apply q_M_mount
    rw [← c2.2.2.2.1, h8]
    exact ⟨fun q => absurd q (by decide), fun _ => ⟨rfl, hI⟩⟩
end MOUNT
