/-! CLUSTERS that come: the class chooses -/
theorem Ro_cg {h : AH} {o a K : Nat} {r r' : Nat → Int} (e : ∀ i, i < K → r i = r' i) (ro : Ro h o a K r) : Ro h o a K r' := ⟨ro.1, ro.2.1, fun i hi => (ro.2.2 i hi).trans (e i hi)⟩
section CHO
variable {G : GG} {h : AH} {f : Nat → Int} {mp n X : Int}
theorem S_isFreeV {P : Int → AH → Prop} {c : Int} (h3 : h 3 = f) (h71 : h 7 1 = n) (h73 : h 7 3 = mp) (h74 : h 7 4 = X) (hb : By f) (hn : 16 ≤ n ∧ n ≤ 100) (hm : 2 ≤ mp ∧ mp ≤ 101) (hx : 0 ≤ X ∧ X ≤ 101) (hc : 0 ≤ c ∧ c ≤ 1000) (H1 : fre f mp n X c → P 1 h) (H0 : ¬ fre f mp n X c → P 0 h) : RunsI G 115 [vR 7, vI c] h P := by
  subst h3 h71 h73 h74
  exact S_isFree hb hn hm hx hc H1 H0
theorem G_choose {P : Int → AH → Prop} {k K : Nat} {r : Nat → Int} {wr' : Int} (h3 : h 3 = f) (h71 : h 7 1 = n) (h73 : h 7 3 = mp) (h74 : h 7 4 = X) (hb : By f) (hn : 16 ≤ n ∧ n ≤ 100) (hm : 2 ≤ mp ∧ mp ≤ 101) (hx : 0 ≤ X ∧ X ≤ 101) (ro : Ro h 28 29 K r) (cl : ∀ i, i < K → 2 ≤ r i ∧ r i ≤ 101) (e27 : h 27 4 = wr') (w01 : wr' = 0 ∨ wr' = 1) (kw : K = 0 → wr' = 0) (e30 : h 30 1 = 0) (hk : 1 ≤ k ∧ k ≤ 200)
    (H0 : cf f mp n X n.toNat < k → ∀ h', (∀ o, o ≠ 27 → o ≠ 30 → o ≠ 31 → h' o = h o) → P 0 h')
    (H1 : k ≤ cf f mp n X n.toNat → ∀ h', Ro h' 30 31 k (frs f mp n X K (r (K - 1)) wr' k) → h' 27 5 = rnF f mp n X K (r (K - 1)) wr' k → h' 27 4 = wr' → (∀ o, o ≠ 27 → o ≠ 30 → o ≠ 31 → h' o = h o) → P 1 h') : RunsI G 69 [vR 27, vI (k : Int)] h P := by
  have rl := ro.2.1
  have c60 : ∀ row : Int, (row = 0 ∧ atF f mp n X K (r (K - 1)) wr' k = -9) ∨ (2 ≤ row ∧ row ≤ 200 ∧ atF f mp n X K (r (K - 1)) wr' k = row) → Go G (pI P) 69 60 [some (vR 27), some (vI (k : Int)), some (vI row), none] [] h := by
    intro row cs
    apply q_G_choose_c60
    rcases cs with ⟨z, at'⟩ | ⟨z0, z1, at'⟩
    · rw [z]
      refine ⟨fun _ => ⟨Or.inl rfl, ?_⟩, fun y => absurd wI_0 y⟩
      rw [hs_same]
      refine ⟨fun _ => ?_, fun y => absurd wI_0 y⟩
      have frE : ∀ i, frs f mp n X K (r (K - 1)) wr' k i = fi f mp n X n.toNat i := fun i => by unfold frs; rw [if_pos at']
      have rnE : rnF f mp n X K (r (K - 1)) wr' k = 0 := by unfold rnF; rw [if_pos at']
      have fin : ∀ (m : Nat) (b : AH), m ≤ n.toNat → Ro b 30 31 (cf f mp n X m) (fi f mp n X m) → b 27 5 = 0 → b 27 4 = wr' → (∀ o, o ≠ 27 → o ≠ 30 → o ≠ 31 → b o = h o) → (cf f mp n X m = k → P 1 b) := by
        intro m b mn rb b5 b4 ob e
        have mono := cf_mono (f := f) (mp := mp) (n := n) (X := X) (m := m) n.toNat mn
        refine H1 (by omega) b ?_ (by rw [rnE]; exact b5) b4 ob
        rw [e] at rb
        refine Ro_cg (fun i hi => ?_) rb
        rw [frE, show n.toNat = m + (n.toNat - m) by omega, fi_up (by omega)]
      have key : ∀ (q m : Nat) (b : AH), m + q = n.toNat → cf f mp n X m ≤ k → Ro b 30 31 (cf f mp n X m) (fi f mp n X m) → b 27 5 = 0 → b 27 4 = wr' → (∀ o, o ≠ 27 → o ≠ 30 → o ≠ 31 → b o = h o) → Go G (pI P) 69 107 [some (vR 27), some (vI (k : Int)), none, some (vI ((m : Int) + 2))] [] b := by
        intro q
        induction q with
        | zero =>
          intro m b hq ck rb b5 b4 ob
          apply q_G_choose_c107
          rw [ob 7 (by decide) (by decide) (by decide), h71, rb.1, wI_id (z := n + 1) (by omega) (by omega), wI_id (z := (m : Int) + 2) (by omega) (by omega), wI_id (z := (cf f mp n X m : Int)) (by omega) (by omega), wI_id (z := (k : Int)) (by omega) (by omega)]
          refine ⟨fun _ => ⟨fun e => ⟨Or.inr rfl, fin m b (by omega) rb b5 b4 ob (by omega)⟩, fun e => ⟨Or.inl rfl, H0 ?_ b ob⟩⟩, fun y => by omega⟩
          rw [show n.toNat = m by omega]
          omega
        | succ q ih =>
          intro m b hq ck rb b5 b4 ob
          have b7 : b 7 = h 7 := ob 7 (by decide) (by decide) (by decide)
          apply q_G_choose_c107
          rw [b7, h71, rb.1, wI_id (z := n + 1) (by omega) (by omega), wI_id (z := (m : Int) + 2) (by omega) (by omega), wI_id (z := (cf f mp n X m : Int)) (by omega) (by omega), wI_id (z := (k : Int)) (by omega) (by omega)]
          refine ⟨fun y => by omega, fun _ => ⟨fun e => ⟨fun e2 => ⟨Or.inr rfl, fin m b (by omega) rb b5 b4 ob (by omega)⟩, fun e2 => by omega⟩, fun e => ?_⟩⟩
          refine S_isFreeV ((ob 3 (by decide) (by decide) (by decide)).trans h3) (by rw [b7]; exact h71) (by rw [b7]; exact h73) (by rw [b7]; exact h74) hb hn hm hx (by omega) (fun y => ⟨fun z => absurd z (by decide), fun _ => ?_⟩) (fun y => ⟨fun _ => ?_, fun z => absurd wI_0 z⟩)
          · have r102 := cf_le (f := f) (mp := mp) (n := n) (X := X) m
            refine C_add_30 rb (by omega) (fun b2 rb2 ob2 => ?_)
            have c1 : cf f mp n X (m + 1) = cf f mp n X m + 1 := by rw [cf, if_pos y]
            rw [show (m : Int) + 2 + 1 = ((m + 1 : Nat) : Int) + 2 by omega]
            refine ih (m + 1) b2 (by omega) (by omega) ?_ (by rw [ob2 27 (by decide) (by decide)]; exact b5) (by rw [ob2 27 (by decide) (by decide)]; exact b4) (fun o p q r => by rw [ob2 o q r]; exact ob o p q r)
            rw [c1]
            refine Ro_cg (fun i hi => ?_) rb2
            rw [fi]
            by_cases z : i = cf f mp n X m
            · rw [z, st_s, if_pos ⟨y, rfl⟩]
            · rw [st_n _ _ z, if_neg (fun w => z w.2)]
          · have c1 : cf f mp n X (m + 1) = cf f mp n X m := by rw [cf, if_neg y]
            rw [show (m : Int) + 2 + 1 = ((m + 1 : Nat) : Int) + 2 by omega]
            refine ih (m + 1) b (by omega) (by omega) ?_ b5 b4 ob
            rw [c1]
            refine Ro_cg (fun i hi => ?_) rb
            rw [fi_s hi]
      have k0 := key n.toNat 0 (hs h 27 5 0) (by omega) (Nat.zero_le _) ⟨by rw [hs_o _ _ _ _ _ (by decide)]; exact e30, Nat.zero_le 102, fun i hi => absurd hi (Nat.not_lt_zero _)⟩ (hs_same _ _ _ _) (by rw [hs_k _ _ _ _ _ (by decide)]; exact e27) (fun o p q r => hs_o _ _ _ _ _ p)
      exact k0
    · have row9 : atF f mp n X K (r (K - 1)) wr' k ≠ -9 := by omega
      have rr := atF_row row9
      have w := rw_le hk.1 rr
      have cn := cf_le (f := f) (mp := mp) (n := n) (X := X) n.toNat
      rw [wI_id (z := row) (by omega) (by omega)]
      refine ⟨fun y => by omega, fun _ => ⟨Or.inr rfl, ?_⟩⟩
      rw [hs_same]
      refine ⟨fun y => absurd y (by decide), fun _ => ?_⟩
      have key : ∀ (q i : Nat) (b : AH), i + q = k → Ro b 30 31 i (fun j => row + j) → b 27 5 = 1 → b 27 4 = wr' → (∀ o, o ≠ 27 → o ≠ 30 → o ≠ 31 → b o = h o) → Go G (pI P) 69 82 [some (vR 27), some (vI (k : Int)), some (vI row), some (vI (i : Int))] [] b := by
        intro q
        induction q with
        | zero =>
          intro i b hq rb b5 b4 ob
          apply q_G_choose_c82
          rw [wI_id (z := (k : Int)) (by omega) (by omega), wI_id (z := (i : Int)) (by omega) (by omega)]
          refine ⟨fun _ => ⟨Or.inr rfl, H1 w.1 b ?_ (by unfold rnF; rw [if_neg row9]; exact b5) b4 ob⟩, fun y => by omega⟩
          rw [show i = k by omega] at rb
          refine Ro_cg (fun j hj => ?_) rb
          unfold frs
          rw [if_neg row9, at']
        | succ q ih =>
          intro i b hq rb b5 b4 ob
          apply q_G_choose_c82
          rw [wI_id (z := (k : Int)) (by omega) (by omega), wI_id (z := (i : Int)) (by omega) (by omega)]
          refine ⟨fun y => by omega, fun _ => C_add_30 rb (by omega) (fun b2 rb2 ob2 => ?_)⟩
          rw [show (i : Int) + 1 = ((i + 1 : Nat) : Int) by omega]
          refine ih (i + 1) b2 (by omega) (Ro_cg (fun j hj => ?_) rb2) (by rw [ob2 27 (by decide) (by decide)]; exact b5) (by rw [ob2 27 (by decide) (by decide)]; exact b4) (fun o p q r => by rw [ob2 o q r]; exact ob o p q r)
          by_cases z : j = i
          · rw [z, st_s]
          · rw [st_n _ _ z]
      have k0 := key k 0 (hs h 27 5 1) (by omega) ⟨by rw [hs_o _ _ _ _ _ (by decide)]; exact e30, Nat.zero_le 102, fun i hi => absurd hi (Nat.not_lt_zero _)⟩ (hs_same _ _ _ _) (by rw [hs_k _ _ _ _ _ (by decide)]; exact e27) (fun o p q r => hs_o _ _ _ _ _ p)
      exact k0
  have rw' : ∀ (c : Int), 0 ≤ c → c ≤ 200 → ∀ (Q : Int → AH → Prop), (rw0 f mp n X k c → Q 1 h) → (¬ rw0 f mp n X k c → Q 0 h) → RunsI G 117 [vR 7, vI c, vI (k : Int)] h Q := by
    intro c c0 c1 Q q1 q0
    subst h3 h71 h73 h74
    exact S_isFreeRow hb hn hm hx ⟨c0, c1⟩ hk.2 q1 q0
  apply q_G_choose
  rw [ro.1, wI_id (z := (K : Int)) (by omega) (by omega)]
  refine ⟨fun z => ?_, fun z => ?_⟩
  · have K0 : K = 0 := (by omega)
    have wz : wr' = 0 := kw K0
    have c22 : ∀ row : Int, (row = 0 ∧ atF f mp n X K (r (K - 1)) wr' k = -9) ∨ (2 ≤ row ∧ row ≤ 200 ∧ atF f mp n X K (r (K - 1)) wr' k = row) → Go G (pI P) 69 22 [some (vR 27), some (vI (k : Int)), none, none] [vI row] h := by
      intro row cs
      apply q_G_choose_c22
      rw [e27, wz]
      exact ⟨fun _ => c60 row cs, fun y => absurd wI_0 y⟩
    have fr : ∀ (Q : Int → AH → Prop), (∀ c, 2 ≤ c → c ≤ 101 → rf f mp n X k n.toNat = c → Q c h) → (rf f mp n X k n.toNat = -9 → Q 0 h) → RunsI G 118 [vR 7, vI (k : Int)] h Q := by
      intro Q q1 q0
      subst h3 h71 h73 h74
      exact S_firstRow hb hn hm hx hk q1 q0
    refine fr _ (fun c c0 c1 e => c22 c (Or.inr ⟨c0, by omega, by unfold atF; rw [if_pos K0]; exact e⟩)) (fun e => c22 0 (Or.inl ⟨rfl, by unfold atF; rw [if_pos K0]; exact e⟩))
  · have K0 : ¬ K = 0 := (by omega)
    have lr := cl (K - 1) (by omega)
    apply q_G_choose_c22
    rw [e27]
    rcases w01 with wz | wz
    · rw [wz] at c60 ⊢
      exact ⟨fun _ => c60 0 (Or.inl ⟨rfl, by unfold atF; rw [if_neg K0, if_neg (fun y => absurd y.1 (by decide))]⟩), fun y => absurd wI_0 y⟩
    · rw [wz] at c60 ⊢
      refine ⟨fun y => absurd y (by decide), fun _ => ?_⟩
      apply q_C_last_28
      rw [ro.1]
      refine C_at_28 ro (by omega) (by omega) ?_
      rw [show ((K : Int) - 1).toNat = K - 1 by omega]
      refine rw' _ (by omega) (by omega) _ (fun y => ⟨fun x => absurd x (by decide), fun _ => ?_⟩) (fun y => ⟨fun _ => c60 0 (Or.inl ⟨rfl, by unfold atF; rw [if_neg K0, if_neg (fun x => y x.2)]⟩), fun x => absurd wI_0 x⟩)
      apply q_C_last_28
      rw [ro.1]
      refine C_at_28 ro (by omega) (by omega) ?_
      rw [show ((K : Int) - 1).toNat = K - 1 by omega]
      exact c60 _ (Or.inr ⟨by omega, by omega, by unfold atF; rw [if_neg K0, if_pos ⟨rfl, y⟩]⟩)
end CHO
