/-! Arrays.fill, Disk.settle, wipe; letters, spoil; the calls on a volume that is not mounted -/
section MORE
variable {G : GG} {h : AH}
theorem J_fill_3 {P : AH → Prop} {v : Int} (H : ∀ h', h' 3 = fil (h 3) 0 13824 v → (∀ o, o ≠ 3 → h' o = h o) → P h') : RunsV G 277 [vR 3, vI v] h P := by
  apply q_J_fill_3
  have key : ∀ (m j : Nat) (g : AH), j + m = 13824 → g 3 = fil (h 3) 0 j v → (∀ o, o ≠ 3 → g o = h o) → Go G (pV P) 277 5 [some (vR 3), some (vI v), some (vI (j : Int)), some (vI (ob_ln 3 : Int))] [] g := by
    intro m
    have el : (ob_ln 3 : Int) = 13824 := rfl
    rw [el]
    induction m with
    | zero =>
      intro j g hj e1 e2
      apply q_J_fill_3_c5
      rw [wI_id (z := (j : Int)) (by omega) (by omega), wI_id (z := 13824) (by omega) (by omega)]
      refine ⟨fun _ => H g ?_ e2, fun c => by omega⟩
      rw [e1, show j = 13824 by omega]
    | succ m ih =>
      intro j g hj e1 e2
      apply q_J_fill_3_c5
      rw [wI_id (z := (j : Int)) (by omega) (by omega), wI_id (z := 13824) (by omega) (by omega)]
      refine ⟨fun c => by omega, fun _ => ⟨⟨by omega, by rw [el]; omega⟩, ih (j + 1) _ (by omega) ?_ ?_⟩⟩
      · rw [hs_eq, e1, ← fil_succ _ _ _ _ (Int.le_refl 0)]
        show (fun k' => if k' = (j : Int).toNat then v else fil (h 3) 0 j v k') = wr (fil (h 3) 0 j v) (0 + (j : Int)) v
        rw [Int.zero_add]
        rfl
      · intro o a; rw [hs_o _ _ _ _ _ a]; exact e2 o a
  exact key 13824 0 h (by omega) (fil_0 _ _ _).symm (fun _ _ => rfl)
theorem J_fill_6 {P : AH → Prop} {v : Int} (H : ∀ h', h' 6 = fil (h 6) 0 256 v → (∀ o, o ≠ 6 → h' o = h o) → P h') : RunsV G 277 [vR 6, vI v] h P := by
  apply q_J_fill_6
  have key : ∀ (m j : Nat) (g : AH), j + m = 256 → g 6 = fil (h 6) 0 j v → (∀ o, o ≠ 6 → g o = h o) → Go G (pV P) 277 5 [some (vR 6), some (vI v), some (vI (j : Int)), some (vI (ob_ln 6 : Int))] [] g := by
    intro m
    have el : (ob_ln 6 : Int) = 256 := rfl
    rw [el]
    induction m with
    | zero =>
      intro j g hj e1 e2
      apply q_J_fill_6_c5
      rw [wI_id (z := (j : Int)) (by omega) (by omega), wI_id (z := 256) (by omega) (by omega)]
      refine ⟨fun _ => H g ?_ e2, fun c => by omega⟩
      rw [e1, show j = 256 by omega]
    | succ m ih =>
      intro j g hj e1 e2
      apply q_J_fill_6_c5
      rw [wI_id (z := (j : Int)) (by omega) (by omega), wI_id (z := 256) (by omega) (by omega)]
      refine ⟨fun c => by omega, fun _ => ⟨⟨by omega, by rw [el]; omega⟩, ih (j + 1) _ (by omega) ?_ ?_⟩⟩
      · rw [hs_eq, e1, ← fil_succ _ _ _ _ (Int.le_refl 0)]
        show (fun k' => if k' = (j : Int).toNat then v else fil (h 6) 0 j v k') = wr (fil (h 6) 0 j v) (0 + (j : Int)) v
        rw [Int.zero_add]
        rfl
      · intro o a; rw [hs_o _ _ _ _ _ a]; exact e2 o a
  exact key 256 0 h (by omega) (fil_0 _ _ _).symm (fun _ _ => rfl)
theorem J_fill_12 {P : AH → Prop} {v : Int} (H : ∀ h', h' 12 = fil (h 12) 0 102 v → (∀ o, o ≠ 12 → h' o = h o) → P h') : RunsV G 277 [vR 12, vI v] h P := by
  apply q_J_fill_12
  have key : ∀ (m j : Nat) (g : AH), j + m = 102 → g 12 = fil (h 12) 0 j v → (∀ o, o ≠ 12 → g o = h o) → Go G (pV P) 277 5 [some (vR 12), some (vI v), some (vI (j : Int)), some (vI (ob_ln 12 : Int))] [] g := by
    intro m
    have el : (ob_ln 12 : Int) = 102 := rfl
    rw [el]
    induction m with
    | zero =>
      intro j g hj e1 e2
      apply q_J_fill_12_c5
      rw [wI_id (z := (j : Int)) (by omega) (by omega), wI_id (z := 102) (by omega) (by omega)]
      refine ⟨fun _ => H g ?_ e2, fun c => by omega⟩
      rw [e1, show j = 102 by omega]
    | succ m ih =>
      intro j g hj e1 e2
      apply q_J_fill_12_c5
      rw [wI_id (z := (j : Int)) (by omega) (by omega), wI_id (z := 102) (by omega) (by omega)]
      refine ⟨fun c => by omega, fun _ => ⟨⟨by omega, by rw [el]; omega⟩, ih (j + 1) _ (by omega) ?_ ?_⟩⟩
      · rw [hs_eq, e1, ← fil_succ _ _ _ _ (Int.le_refl 0)]
        show (fun k' => if k' = (j : Int).toNat then v else fil (h 12) 0 j v k') = wr (fil (h 12) 0 j v) (0 + (j : Int)) v
        rw [Int.zero_add]
        rfl
      · intro o a; rw [hs_o _ _ _ _ _ a]; exact e2 o a
  exact key 102 0 h (by omega) (fil_0 _ _ _).symm (fun _ _ => rfl)
theorem J_fill_13 {P : AH → Prop} {v : Int} (H : ∀ h', h' 13 = fil (h 13) 0 102 v → (∀ o, o ≠ 13 → h' o = h o) → P h') : RunsV G 277 [vR 13, vI v] h P := by
  apply q_J_fill_13
  have key : ∀ (m j : Nat) (g : AH), j + m = 102 → g 13 = fil (h 13) 0 j v → (∀ o, o ≠ 13 → g o = h o) → Go G (pV P) 277 5 [some (vR 13), some (vI v), some (vI (j : Int)), some (vI (ob_ln 13 : Int))] [] g := by
    intro m
    have el : (ob_ln 13 : Int) = 102 := rfl
    rw [el]
    induction m with
    | zero =>
      intro j g hj e1 e2
      apply q_J_fill_13_c5
      rw [wI_id (z := (j : Int)) (by omega) (by omega), wI_id (z := 102) (by omega) (by omega)]
      refine ⟨fun _ => H g ?_ e2, fun c => by omega⟩
      rw [e1, show j = 102 by omega]
    | succ m ih =>
      intro j g hj e1 e2
      apply q_J_fill_13_c5
      rw [wI_id (z := (j : Int)) (by omega) (by omega), wI_id (z := 102) (by omega) (by omega)]
      refine ⟨fun c => by omega, fun _ => ⟨⟨by omega, by rw [el]; omega⟩, ih (j + 1) _ (by omega) ?_ ?_⟩⟩
      · rw [hs_eq, e1, ← fil_succ _ _ _ _ (Int.le_refl 0)]
        show (fun k' => if k' = (j : Int).toNat then v else fil (h 13) 0 j v k') = wr (fil (h 13) 0 j v) (0 + (j : Int)) v
        rw [Int.zero_add]
        rfl
      · intro o a; rw [hs_o _ _ _ _ _ a]; exact e2 o a
  exact key 102 0 h (by omega) (fil_0 _ _ _).symm (fun _ _ => rfl)
theorem D_settle {P : AH → Prop} (hd : Dk h) (H : ∀ h', Syn h' → h' 3 = h 3 → (∀ k, k < 13824 → h' 2 k = h 3 k) → (∀ o, o ≠ 2 → o ≠ 3 → o ≠ 4 → h' o = h o) → P h') : RunsV G 63 [vR 1] h P := by
  apply q_D_settle
  have key : ∀ (m s : Nat) (g : AH), s + m = 216 → Dk g → g 3 = h 3 → (∀ k, k < 64 * s → g 2 k = h 3 k) → (∀ j, j < s → g 4 j = 0) → (∀ o, o ≠ 2 → o ≠ 3 → o ≠ 4 → g o = h o) → Go G (pV P) 63 2 [some (vR 1), some (vI (s : Int))] [] g := by
    intro m
    induction m with
    | zero =>
      intro s g hm hg e3 e2 e4 fo
      apply q_D_settle_c2
      rw [wI_id (z := (s : Int)) (by omega) (by omega)]
      exact ⟨fun _ => H g ⟨hg, fun k hk => by rw [e3, e2 k (by omega)], fun j hj => e4 j (by omega)⟩ e3 (fun k hk => e2 k (by omega)) fo, fun c => by omega⟩
    | succ m ih =>
      intro s g hm hg e3 e2 e4 fo
      apply q_D_settle_c2
      rw [wI_id (z := (s : Int)) (by omega) (by omega)]
      refine ⟨fun c => by omega, fun _ => ⟨⟨by omega, by omega⟩, ?_⟩⟩
      rw [Int.toNat_natCast]
      have t01 := hg.2.2.1 s (by omega)
      rw [wI_id (z := g 4 s) (by omega) (by omega)]
      refine ⟨fun c => ⟨⟨by omega, by omega⟩, Or.inl rfl, ?_⟩, fun c => ⟨?_, ⟨by omega, by omega⟩, Or.inl rfl, ?_⟩⟩
      · refine ih (s + 1) _ (by omega) ⟨?_, ?_, ?_, ?_⟩ ?_ ?_ ?_ ?_
        · rw [hs_o _ _ _ _ _ (by decide)]; exact hg.1
        · rw [hs_o _ _ _ _ _ (by decide)]; exact hg.2.1
        · intro j hj; rw [hs_app, if_pos rfl]; split; exact Or.inl rfl; exact hg.2.2.1 j hj
        · intro k hk h4
          rw [hs_o _ _ _ _ _ (by decide), hs_o _ _ _ _ _ (by decide)]
          rw [hs_app, if_pos rfl] at h4
          split at h4
          · rename_i hq; exact hg.2.2.2 k hk (by rw [hq]; exact c)
          · exact hg.2.2.2 k hk h4
        · rw [hs_o _ _ _ _ _ (by decide)]; exact e3
        · intro k hk
          rw [hs_o _ _ _ _ _ (by decide)]
          by_cases hq : k < 64 * s
          · exact e2 k hq
          · rw [← hg.2.2.2 k (by omega) (by rw [show k / 64 = s by omega]; exact c), e3]
        · intro j hj; rw [hs_app, if_pos rfl]; split; rfl; exact e4 j (by omega)
        · intro o o2 o3 o4; rw [hs_o _ _ _ _ _ o4]; exact fo o o2 o3 o4
      · rw [wI_id (z := (s : Int) * 64) (by omega) (by omega)]
        omega
      · rw [wI_id (z := (s : Int) * 64) (by omega) (by omega), show ((s : Int) * 64).toNat = 64 * s by omega]
        have v2 : ∀ k, hcp g 3 2 (64 * s) (64 * s) 64 2 k = if 64 * s ≤ k ∧ k < 64 * s + 64 then g 3 k else g 2 k := by
          intro k
          rw [hcp_app, if_pos rfl]
          split
          · rw [show 64 * s + (k - 64 * s) = k by omega]
          · rfl
        refine ih (s + 1) _ (by omega) ⟨?_, ?_, ?_, ?_⟩ ?_ ?_ ?_ ?_
        · intro k hk; rw [hs_o _ _ _ _ _ (by decide), v2]; split; exact hg.2.1 k hk; exact hg.1 k hk
        · rw [hs_o _ _ _ _ _ (by decide), hcp_o _ _ _ _ _ _ _ (by decide)]; exact hg.2.1
        · intro j hj; rw [hs_app, if_pos rfl]; split; exact Or.inl rfl; rw [hcp_o _ _ _ _ _ _ _ (by decide)]; exact hg.2.2.1 j hj
        · intro k hk h4
          rw [hs_o _ _ _ _ _ (show (3 : Nat) ≠ 4 by decide), hs_o _ _ _ _ _ (show (2 : Nat) ≠ 4 by decide), v2, hcp_o _ _ _ _ _ _ _ (by decide)]
          rw [hs_app, if_pos rfl] at h4
          split at h4
          · rw [if_pos (by omega)]
          · rw [hcp_o _ _ _ _ _ _ _ (by decide)] at h4
            split
            · rfl
            · exact hg.2.2.2 k hk h4
        · rw [hs_o _ _ _ _ _ (by decide), hcp_o _ _ _ _ _ _ _ (by decide)]; exact e3
        · intro k hk
          rw [hs_o _ _ _ _ _ (by decide), v2, e3]
          split
          · rfl
          · exact e2 k (by omega)
        · intro j hj; rw [hs_app, if_pos rfl]; split; rfl; rw [hcp_o _ _ _ _ _ _ _ (by decide)]; exact e4 j (by omega)
        · intro o o2 o3 o4; rw [hs_o _ _ _ _ _ o4, hcp_o _ _ _ _ _ _ _ o2]; exact fo o o2 o3 o4
  exact key 216 0 h rfl hd rfl (fun k hk => by omega) (fun j hj => by omega) (fun _ _ _ _ => rfl)
theorem D_wipe {P : AH → Prop} (hd : Dk h) (H : ∀ h', Upd h h' (fil (h 3) 0 13824 0) → P h') : RunsV G 62 [vR 1] h P := by
  apply q_D_wipe
  refine J_fill_3 (fun h1 e1 e2 => ?_)
  have b3 : By (h1 3) := fun k hk => by rw [e1]; unfold fil; rw [if_pos (by omega)]; omega
  have key : ∀ (m s : Nat) (g : AH), s + m = 216 → g 3 = h1 3 → (∀ j, j < 216 → g 4 j = if j < s then 1 else h1 4 j) → (∀ o, o ≠ 4 → g o = h1 o) → Go G (pV P) 62 10 [some (vR 1), some (vI (s : Int))] [] g := by
    intro m
    induction m with
    | zero =>
      intro s g hm e3 e4 fo
      apply q_D_wipe_c10
      rw [wI_id (z := (s : Int)) (by omega) (by omega)]
      refine ⟨fun _ => H g ⟨⟨?_, ?_, ?_, ?_⟩, ?_, ?_⟩, fun c => by omega⟩
      · rw [fo 2 (by decide), e2 2 (by decide)]; exact hd.1
      · rw [e3]; exact b3
      · intro j hj; rw [e4 j hj, if_pos (by omega)]; exact Or.inr rfl
      · intro k hk h4; rw [e4 _ (by omega), if_pos (by omega)] at h4; omega
      · rw [e3, e1]
      · intro o a b; rw [fo o b, e2 o a]
    | succ m ih =>
      intro s g hm e3 e4 fo
      apply q_D_wipe_c10
      rw [wI_id (z := (s : Int)) (by omega) (by omega)]
      refine ⟨fun c => by omega, fun _ => ⟨⟨by omega, by omega⟩, Or.inr rfl, ih (s + 1) _ (by omega) ?_ ?_ ?_⟩⟩
      · rw [hs_o _ _ _ _ _ (by decide)]; exact e3
      · intro j hj
        rw [Int.toNat_natCast, hs_app, if_pos rfl]
        by_cases q : j = s
        · rw [if_pos q, if_pos (by omega)]
        · rw [if_neg q, e4 j hj]
          by_cases q2 : j < s
          · rw [if_pos q2, if_pos (by omega)]
          · rw [if_neg q2, if_neg (by omega)]
      · intro o a; rw [hs_o _ _ _ _ _ a]; exact fo o a
  exact key 216 0 h1 rfl rfl (fun j hj => by rw [if_neg (by omega)]) (fun _ _ => rfl)
theorem apd_rel {f g : Nat → Int} {n y : Int} (hn : 0 ≤ n) (h : ∀ k : Nat, (k : Int) < n → f k = g k ∧ 0 < f k ∧ f k < 65536) : ∀ (i : Nat) (k : Nat), (k : Int) < n + lcn y i → apd f n y i k = apd g n y i k ∧ 0 < apd f n y i k ∧ apd f n y i k < 65536
  | 0, k, hk => h k (by unfold lcn at hk; omega)
  | i + 1, k, hk => by
    have es : lcn y (i + 1) = lcn y i + if ln y i = 0 then 0 else 1 := rfl
    have ea : ∀ f : Nat → Int, apd f n y (i + 1) = if ln y i = 0 then apd f n y i else wr (apd f n y i) (n + lcn y i) (ln y i) := fun _ => rfl
    rw [ea, ea]
    rw [es] at hk
    have lr := ln_rng y i
    have c0 := lcn_rng y i
    by_cases q : ln y i = 0
    · rw [if_pos q] at hk ⊢
      rw [if_pos q]
      exact apd_rel hn h i k (by omega)
    · rw [if_neg q] at hk ⊢
      rw [if_neg q]
      unfold wr
      by_cases q2 : k = (n + lcn y i).toNat
      · rw [if_pos q2, if_pos q2]
        exact ⟨rfl, by omega, by omega⟩
      · rw [if_neg q2, if_neg q2]
        exact apd_rel hn h i k (by omega)
theorem T_letters {Mn : AH → Prop} (hM : MnC Mn) (hI : Inv Mn h) {y : Int} : okI G (Inv Mn) 147 230 [vL y] h := by
  obtain ⟨⟨c1, c2', c3, c4⟩, m⟩ := id hI
  apply q_V_letters
  refine N_append c3.2.1 (fun c => ?_) (fun c h1 e1 e2 e3 => ?_)
  · refine ⟨fun _ => ?_, fun c => absurd (by decide) c⟩
    refine M_letters (by rw [← c3.1]; exact c3.2.1) (fun _ => ⟨rfl, hI⟩) (fun c5 => ?_)
    rw [← c3.1] at c5
    omega
  · refine ⟨fun c => absurd c (by decide), fun _ => ?_⟩
    have k34 := e3 34 (by decide) (by decide)
    have k52 := e3 52 (by decide) (by decide)
    refine M_letters (by rw [k34, ← c3.1]; exact c3.2.1) (fun c5 => ?_) (fun c5 h2 f1 f2 f3 f4 => ⟨?_, ?_⟩)
    · rw [k34, ← c3.1] at c5
      omega
    · rw [f2, e2, k34, c3.1]
    · have g : ∀ o, o ≠ 32 → o ≠ 33 → o ≠ 34 → o ≠ 52 → h2 o = h o := fun o a b c d => by rw [f4 o c d, e3 o a b]
      have g34 : ∀ k, k ≠ 41 → h2 34 k = h 34 k := fun k a => by rw [f3 k a, k34]
      refine ⟨⟨C1_congr (g 2 (by decide) (by decide) (by decide) (by decide)) (g 3 (by decide) (by decide) (by decide) (by decide)) (g 4 (by decide) (by decide) (by decide) (by decide)) (g 35 (by decide) (by decide) (by decide) (by decide)) (g 36 (by decide) (by decide) (by decide) (by decide)) c1, C2_congr (by rw [g 1 (by decide) (by decide) (by decide) (by decide)]) (by rw [g 1 (by decide) (by decide) (by decide) (by decide)]) (by rw [g 0 (by decide) (by decide) (by decide) (by decide)]) (by rw [g 26 (by decide) (by decide) (by decide) (by decide)]) (g34 _ (by decide)) (g34 _ (by decide)) (g34 _ (by decide)) (g34 _ (by decide)) c2', ?_, C4_congr (by rw [g 17 (by decide) (by decide) (by decide) (by decide)]) (by rw [g 17 (by decide) (by decide) (by decide) (by decide)]) (by rw [g 17 (by decide) (by decide) (by decide) (by decide)]) (g34 _ (by decide)) (g34 _ (by decide)) (g34 _ (by decide)) c4⟩, fun hm => hM h _ ⟨g 2 (by decide) (by decide) (by decide) (by decide), g 3 (by decide) (by decide) (by decide) (by decide), by rw [g 7 (by decide) (by decide) (by decide) (by decide)], by rw [g 7 (by decide) (by decide) (by decide) (by decide)], by rw [g 7 (by decide) (by decide) (by decide) (by decide)], g 9 (by decide) (by decide) (by decide) (by decide), g 12 (by decide) (by decide) (by decide) (by decide), g 13 (by decide) (by decide) (by decide) (by decide), g 38 (by decide) (by decide) (by decide) (by decide), g34 _ (by decide), g34 _ (by decide), g34 _ (by decide)⟩ (m (by rw [g 0 (by decide) (by decide) (by decide) (by decide)] at hm; exact hm))⟩
      have h32 : h2 32 = h1 32 := f4 32 (by decide) (by decide)
      have h33 : h2 33 = h1 33 := f4 33 (by decide) (by decide)
      have lr := lcn_rng y 4
      have n0 := c3.2.1
      unfold C3
      rw [h32, h33, f1, f2, e1, e2, k34, k52, ← c3.1]
      refine ⟨rfl, ⟨by omega, c⟩, fun k hk => ?_⟩
      exact apd_rel c3.2.1.1 c3.2.2 4 k hk
end MORE
