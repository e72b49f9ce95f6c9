/-! mending: the class and the reference -/
theorem E2.tr {f g e : Nat → Int} (a : E2 f g) (b : E2 g e) : E2 f e := fun k hk => (a k hk).trans (b k hk)
theorem Gr_E2 {f g : Nat → Int} (a : E2 f g) (b : Gr g) : Gr f := fun k hk => by rw [a k hk]; exact b k hk
theorem BaseOK_n {f : Nat → Int} {a : Int} {K : Nat} {g : Nat → Int} (h : BaseOK f a K g) : (a = 0 ∨ a = 256) ∧ (16 ≤ u4 f (a + 32) ∧ u4 f (a + 32) ≤ 100) ∧ 1 ≤ K ∧ (K : Int) ≤ u4 f (a + 32) := by
  have q : (a = 0 ∨ a = 256) ∧ BtOK f a := by
    rcases h.1 with ⟨x, y⟩ | ⟨_, x, y⟩
    · subst y; exact ⟨Or.inl rfl, x⟩
    · subst y; exact ⟨Or.inr rfl, x⟩
  have n := q.2.1
  have w := h.2.2.2.1
  exact ⟨q.1, n, w.1.1, php2 w.1.2.1 (by omega) w.1.2.2⟩
theorem BaseNo_x {f : Nat → Int} {x y z : Int} (h : BaseNo f x y z) : 1 ≤ x ∧ x ≤ 4 := by
  rcases h with ⟨_, _, h, _⟩ | ⟨a, _, ⟨_, h, _⟩ | ⟨_, _, h, _⟩ | ⟨_, _, K, ⟨_, h, _⟩ | ⟨_, ⟨_, h, _⟩ | ⟨_, _, h, _⟩⟩⟩⟩ <;> omega
theorem CR_0 {f : Nat → Int} {root : Int} {K : Nat} {mp tb' md : Int} {h : AH} (hd : Dk h) (h3 : h 3 = f) (hm : Mt (h 24) (fun x => RM f root K x ∨ x = mp ∨ x = tb')) : CR f md (s0 f root K mp tb') (hs (hs (hs (hs h 17 12 md) 17 13 0) 25 0 0) 17 11 1) := by
  have s1 := s0_1 f root K mp tb'
  have d0 : dirJ f (s0 f root K mp tb') 0 := Or.inl rfl
  have e1 : dc f (s0 f root K mp tb') 1 = 1 := by rw [dc_y d0]; rfl
  refine ⟨Dk_congr ?_ ?_ ?_ hd, ?_, ?_, ?_, ?_, ?_, fun j hj _ => ?_⟩
  · rw [hs_o _ _ _ _ _ (by decide), hs_o _ _ _ _ _ (by decide), hs_o _ _ _ _ _ (by decide), hs_o _ _ _ _ _ (by decide)]
  · rw [hs_o _ _ _ _ _ (by decide), hs_o _ _ _ _ _ (by decide), hs_o _ _ _ _ _ (by decide), hs_o _ _ _ _ _ (by decide)]
  · rw [hs_o _ _ _ _ _ (by decide), hs_o _ _ _ _ _ (by decide), hs_o _ _ _ _ _ (by decide), hs_o _ _ _ _ _ (by decide)]
  · rw [hs_o _ _ _ _ _ (by decide), hs_o _ _ _ _ _ (by decide), hs_o _ _ _ _ _ (by decide), hs_o _ _ _ _ _ (by decide), s0_5]; exact h3
  · rw [hs_o _ _ _ _ _ (by decide), hs_o _ _ _ _ _ (by decide), hs_o _ _ _ _ _ (by decide), hs_o _ _ _ _ _ (by decide), s0_0]
    exact Mt_congr hm (fun x x0 _ => own_met x0)
  · rw [hs_k _ _ _ _ _ (by decide), hs_o _ _ _ _ _ (by decide), hs_same, s0_6]
  · rw [hs_k _ _ _ _ _ (by decide), hs_o _ _ _ _ _ (by decide), hs_k _ _ _ _ _ (by decide), hs_same]
  · rw [hs_same, s1]
    show (1 : Int) = (dc f (s0 f root K mp tb') 1 : Nat)
    rw [e1]
    rfl
  · rw [s1] at hj
    rw [show j = 0 by omega, hs_o _ _ _ _ _ (by decide), s0_2]
    show hs _ 25 0 0 25 0 = 0
    rw [hs_same]
section MEND2
variable {G : GG} {h : AH}
theorem V_mend {P : Int → AH → Prop} (sy : Syn h) (h8 : h 0 8 = 0) (hf : 0 ≤ h 1 3 ∧ h 1 3 ≤ 1000)
    (H0 : ∀ h' x y z, BaseNo (h 3) x y z → h' 17 15 = x → h' 17 16 = y → h' 17 17 = z → (∀ o, ¬ (o = 6 ∨ o = 7 ∨ o = 9 ∨ o = 17 ∨ o = 24) → h' o = h o) → P (-10 - x) h')
    (H1 : ∀ h' r a K g, BaseOK (h 3) a K g → MDr (h 3) a K g (u4 (h 3) (a + 32)) (u4 (h 3) (a + 36)) (u4 (h 3) (ca (u4 (h 3) (a + 36)) + 20)) (u4 (h 3) (ca (u4 (h 3) (a + 36)) + 32 + 20)) (h 1 3) (h 1 4) r (h' 2) (h' 1 3) (h' 1 4) → Syn h' → (∀ k, 15 ≤ k → k ≤ 17 → h' 17 k = h 17 k) → (∀ o, ¬ (o = 1 ∨ o = 2 ∨ o = 3 ∨ o = 4 ∨ o = 6 ∨ o = 7 ∨ o = 9 ∨ (17 ≤ o ∧ o ≤ 25)) → h' o = h o) → P r h') : RunsI G 146 [vR 0] h P := by
  have hb := sy.1.2.1
  apply q_V_mend
  rw [h8]
  refine ⟨fun _ => ?_, fun z => absurd wI_0 z⟩
  refine H_askBase hb (fun h1 a K g ok gr e2 mt n1 n2 n3 n4 k1 o1 => ?_) (fun h1 x y z no a1 a2 a3 o1 => ?_)
  · refine ⟨fun _ => ?_, fun z => absurd wI_0 z⟩
    obtain ⟨a01, nr, K1, Kn⟩ := BaseOK_n ok
    have h1_3 : h1 3 = h 3 := o1 3 (by decide) (by decide) (by decide) (by decide) (by decide)
    have h1_1 : h1 1 = h 1 := o1 1 (by decide) (by decide) (by decide) (by decide) (by decide)
    have h1_2 : h1 2 = h 2 := o1 2 (by decide) (by decide) (by decide) (by decide) (by decide)
    have h1_4 : h1 4 = h 4 := o1 4 (by decide) (by decide) (by decide) (by decide) (by decide)
    have sy1 : Syn h1 := by unfold Syn Dk at *; rw [h1_2, h1_3, h1_4]; exact sy
    have d2 : ∀ k, k < 13824 → h 2 k = h 3 k := fun k hk => (sy.2.1 k hk).symm
    refine H_mendBoot (a := a) sy1 (by rw [h1_1]; exact hf) n4 (fun r b fl r01 syb e3 kb ob => ?_)
    rw [h1_2, h1_3, h1_1] at fl
    rw [h1_3] at e3
    have fl' := Fl_cg (Nat.le_refl _) d2 (fun _ _ => rfl) fl
    have b17 : b 17 = h1 17 := ob 17 (by decide) (by decide) (by decide) (by decide)
    have oo : ∀ o, ¬ (o = 1 ∨ o = 2 ∨ o = 3 ∨ o = 4 ∨ o = 6 ∨ o = 7 ∨ o = 9 ∨ o = 17 ∨ o = 24) → b o = h o := fun o p => (ob o (by omega) (by omega) (by omega) (by omega)).trans (o1 o (by omega) (by omega) (by omega) (by omega) (by omega))
    rcases r01 with r0 | r1
    · subst r0
      refine ⟨fun _ => H1 b (-7) a K g ok (Or.inl ⟨rfl, fl'⟩) syb (fun k p q => by rw [b17]; exact k1 k (by omega)) (fun o p => oo o (by omega)), fun z => absurd wI_0 z⟩
    · subst r1
      refine ⟨fun z => absurd z (by decide), fun _ => ?_⟩
      have b3 := e3 rfl
      have bd : ∀ k, k < 13824 → b 2 k = fb (h 3) a k := Fl_1 fl'
      have bf := Fl_f hf fl'
      have b7 : b 7 = h1 7 := ob 7 (by decide) (by decide) (by decide) (by decide)
      have b9 : b 9 = h1 9 := ob 9 (by decide) (by decide) (by decide) (by decide)
      have byf := By_fb hb a
      obtain ⟨w1, wt⟩ := RWok_fb (b := a) ok.2.2.2.1
      have rt := ok.2.2.2.1.1.2.1 0 (by omega)
      unfold clu at rt
      simp only [tc] at rt
      have mp := ok.2.2.2.2.1
      have mpr := mp.2.2.2.2.1
      unfold clu at mpr
      have crt : 1024 ≤ ca (u4 (h 3) (a + 36)) := by unfold ca; omega
      have rmq : ∀ x, RM (fb (h 3) a) (u4 (h 3) (a + 36)) K x ↔ RM (h 3) (u4 (h 3) (a + 36)) K x := fun x => ⟨fun ⟨i, i1, i2⟩ => ⟨i, i1, by rw [← wt i (by omega)]; exact i2⟩, fun ⟨i, i1, i2⟩ => ⟨i, i1, by rw [wt i (by omega)]; exact i2⟩⟩
      have C0 : CR (fb (h 3) a) 1 (s0 (fb (h 3) a) (u4 (h 3) (a + 36)) K (u4 (h 3) (ca (u4 (h 3) (a + 36)) + 20)) (u4 (h 3) (ca (u4 (h 3) (a + 36)) + 32 + 20))) (hs (hs (hs (hs b 17 12 1) 17 13 0) 25 0 0) 17 11 1) := CR_0 syb.1 b3 (by
        rw [ob 24 (by decide) (by decide) (by decide) (by decide)]
        refine Mt_congr mt (fun x _ _ => ⟨fun q => ?_, fun q => ?_⟩)
        · rcases q with (q | q) | q
          · exact Or.inl ((rmq x).mpr q)
          · exact Or.inr (Or.inl q)
          · exact Or.inr (Or.inr q)
        · rcases q with q | q | q
          · exact Or.inl (Or.inl ((rmq x).mp q))
          · exact Or.inl (Or.inr q)
          · exact Or.inr q)
      refine H_askTree (f := fb (h 3) a) (g := b 9) (n := u4 (h 3) (a + 32)) (root := u4 (h 3) (a + 36)) (K0 := K) (md := 1) (s := s0 (fb (h 3) a) (u4 (h 3) (a + 36)) K (u4 (h 3) (ca (u4 (h 3) (a + 36)) + 20)) (u4 (h 3) (ca (u4 (h 3) (a + 36)) + 32 + 20))) byf (Or.inr rfl) (SI_0 byf w1) K1 ?_ ?_ ⟨by rw [b7]; exact n1, by rw [b7]; exact n2, rfl, by rw [b9]; exact Gr_E2 e2 gr, nr, Or.inr rfl⟩ C0 (fun h' F x y z _ _ m0 => absurd m0 (by decide)) (fun h' z tw C fd => ?_)
      · rw [fb_hi _ _ (by omega), mp.1]; decide
      · rw [fb_hi _ _ (by omega), ok.2.2.2.2.2.1]; decide
      obtain ⟨k', S', _⟩ := TW_end_SI tw
      have x7 : h' 7 = h1 7 := (fd.1 7 (by decide)).trans b7
      have x1 : h' 1 = b 1 := fd.1 1 (by decide)
      have x2 : h' 2 = b 2 := fd.1 2 (by decide)
      have fd' : ∀ k, k < 13824 → h' 2 k = fb (h 3) a k := fun k hk => by rw [x2]; exact bd k hk
      have f17 : ∀ k, 15 ≤ k → k ≤ 17 → h' 17 k = h 17 k := fun k p q => by rw [fd.2.1 k (by omega), b17]; exact k1 k (by omega)
      have oh : ∀ o, ¬ (o = 1 ∨ o = 2 ∨ o = 3 ∨ o = 4 ∨ o = 6 ∨ o = 7 ∨ o = 9 ∨ (17 ≤ o ∧ o ≤ 25)) → h' o = h o := fun o p => (fd.1 o (by omega)).trans (oo o (by omega))
      have e71 : h' 7 1 = u4 (h 3) (a + 32) := by rw [x7]; exact n1
      have e73 : h' 7 3 = u4 (h 3) (ca (u4 (h 3) (a + 36)) + 20) := by rw [x7]; exact n3
      refine H_mendRest (M := fun x => z 0 x.toNat ≠ -1) C.1 C.2.1 (by rw [x1]; exact bf) (by rw [e71]; exact nr) (by rw [e73]; omega) C.2.2.1 (fun k hk => ?_) (fun h4 f4 s4 e17 k4 o4 => ?_) (fun h4 dd1 ff1 nn1 rr f4 f5 r01 s4 bm k5 k4 o4 => ?_)
      · rw [fd' k (by omega), C.2.1]
        exact (S'.2.2.2.2.2.2.2.2.1.2.2.1 k (Or.inl hk)).symm
      · refine ⟨fun _ => H1 h4 (-7) a K g ok (Or.inr ⟨b 2, b 1 3, b 1 4, b 9, z, fl', by rw [b9]; exact e2, tw, Or.inl ⟨rfl, ?_⟩⟩) s4 (fun k p q => by rw [e17]; exact f17 k p q) (fun o p => (o4 o (by omega) (by omega) (by omega) (by omega)).trans (oh o p)), fun q => absurd wI_0 q⟩
        rw [x1] at f4
        exact Fl_cg (Nat.le_refl _) fd' (fun _ _ => rfl) f4
      · rw [x1] at f4
        rw [e71, e73] at f5 bm
        have f4' := Fl_cg (Nat.le_refl _) fd' (fun _ _ => rfl) f4
        have tail : ∀ r, ((rr = 0 ∧ r = -7) ∨ (rr = 1 ∧ ((r = z 6 0 ∧ Bmp (z 5) (u4 (h 3) (ca (u4 (h 3) (a + 36)) + 20)) (fun x => z 0 x.toNat ≠ -1) (u4 (h 3) (a + 32))) ∨ (r = z 6 0 + 1 ∧ ¬ Bmp (z 5) (u4 (h 3) (ca (u4 (h 3) (a + 36)) + 20)) (fun x => z 0 x.toNat ≠ -1) (u4 (h 3) (a + 32)))))) → P r h4 := fun r hr => H1 h4 r a K g ok (Or.inr ⟨b 2, b 1 3, b 1 4, b 9, z, fl', by rw [b9]; exact e2, tw, Or.inr ⟨dd1, ff1, nn1, rr, f4', f5, hr⟩⟩) s4 (fun k p q => by rw [k5 k (by omega)]; exact f17 k p q) (fun o p => (o4 o (by omega) (by omega) (by omega) (by omega) (by omega)).trans (oh o p))
        rcases r01 with q | q
        · subst q
          exact ⟨fun _ => tail (-7) (Or.inl ⟨rfl, rfl⟩), fun q => absurd wI_0 q⟩
        · subst q
          refine ⟨fun q => absurd q (by decide), fun _ => tail _ (Or.inr ⟨rfl, ?_⟩)⟩
          rw [C.2.2.2.1] at bm
          rcases bm with ⟨b1, b2⟩ | ⟨b1, b2⟩
          · exact Or.inl ⟨b2, b1⟩
          · exact Or.inr ⟨b2, b1⟩
  · have xr := BaseNo_x no
    rw [wI_id (z := x) (by omega) (by omega)]
    exact ⟨fun q => by omega, fun _ => H0 h1 x y z no a1 a2 a3 (fun o p => o1 o (by omega) (by omega) (by omega) (by omega) (by omega))⟩
end MEND2
