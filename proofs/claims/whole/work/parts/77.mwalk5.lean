/-! the walk: the reference, DIRECTORIES, the tree -/
section MZ2
variable {G : GG} {h : AH} {f g : Nat → Int} {n root : Int} {K0 : Nat} {md : Int} {s : AH} {k : Nat} {e : Int}
theorem DW_SI {F x y ov : Int} {z : AH} (D : DW f g n root K0 md k F x y z e ov s) : SI f g n root K0 md s k e := D (fun e _ s => SI f g n root K0 md s k e) (fun _ _ _ _ _ S _ => S) (fun _ _ _ d _ _ _ _ => d.2.1) (fun _ _ _ _ _ _ d _ => d.2.1)
theorem M_isDirectoryRight {Q : Int → AH → Prop} {F x y : Int} {z : AH} (hf : By f) (D : DW f g n root K0 md k F x y z (if k = 0 then 2 else 0) 0 s) (X : MXc g n root md h) (R : MR f md s h) (hk : (k : Int) < s 1 0) (hd : dirJ f s k) (hK : 1 ≤ K0)
    (H1 : F = 0 → ∀ h', MR f md z h' → FR h h' → Q 1 h')
    (H0 : F ≠ 0 → ∀ h', h' 34 9 = F → h' 34 10 = x → h' 34 11 = y → Sb (h' 36) → FR0 h h' → Q 0 h') : RunsI G 223 [vR 34, vI (k : Int)] h Q := by
  have x5 := X.2.2.2.2.1
  have S0 := DW_SI D
  have NN := SI_N S0 (by omega)
  apply q_M_isDirectoryRight
  refine M_row hf S0 X R hk hK (fun b rm k4 ob => ?_)
  have Fb : FR h b := FR_17 k4 ob
  have Rb : MR f md s b := MR_congr R (k4 36 (by decide)) (k4 34 (by decide)) (fun o p => ob o (by omega) (by omega))
  have go := D (fun e ov s' => 0 ≤ e ∧ e ≤ 420 → (ov = 0 ∨ ov = 1) → (k : Int) < s' 1 0 → dirJ f s' k → ∀ b, MR f md s' b → Rm b (rkJ f K0 s' k) (rwJ f root s' k) → FR h b → Go G (pI Q) 223 17 [some (vR 34), some (vI (k : Int)), some (vI ov), some (vI e), none, none, none, none] [] b)
    (fun e ov s' F0 le S ez e0 o01 hk hd b R rm fr => by
      have rl := rm.2.1
      have kn := SI_K S (by omega) hk
      apply q_M_isDirectoryRight_c17
      apply q_M_entries
      rw [rm.1]
      rw [wI_id (z := 4 * (rkJ f K0 s' k : Int)) (by omega) (by omega), wI_id (z := e) (by omega) (by omega)]
      exact ⟨fun _ => ⟨Or.inr rfl, H1 F0 b (by rw [← ez]; exact R) fr⟩, fun q => by omega⟩)
    (fun e ov s' dn F0 ex ey ez e0 o01 hk hd b R rm fr => M_step hf dn.2.1 (MXc_congr fr X) R rm hk e0.1 dn.1 o01 (fun h' F' d2 _ a1 a2 a3 a4 a5 => by
      have eF := DN_det d2 dn
      subst eF
      exact H0 F0 h' a1 (by rw [a2, ex]) (by rw [a3, ey]) a4 (fr.w.tr a5)) (fun h' e' ov' s'' d2 _ _ _ => (DN_DG dn d2).elim))
    (fun e ov s' e' ov' s'' dg ih e0 o01 hk hd b R rm fr => M_step hf dg.2.1 (MXc_congr fr X) R rm hk e0.1 dg.1 o01 (fun h' F' d2 _ _ _ _ _ _ => (DN_DG d2 dg).elim) (fun h' e2 o2 s2 d2 R2 rm2 f2 => by
      have A := DG_SI (by omega) hf hk hd e0.1 dg
      obtain ⟨e1, e3, e4⟩ := DG_det d2 dg
      subst e1 e3 e4
      have kn := SI_K dg.2.1 (by omega) hk
      have e4 := dg.1
      refine ih (by omega) (by omega) (by omega) A.2.2.1 h' R2 ?_ (fr.tr f2)
      have q1 : rkJ f K0 s2 k = rkJ f K0 s' k := by unfold rkJ; rw [A.2.2.2.1 k hk]
      have q2 : rwJ f root s2 k = rwJ f root s' k := by unfold rwJ; rw [A.2.2.2.1 k hk]
      rw [q1, q2]
      exact rm2))
  rw [wI_id (z := (k : Int)) (by omega) (by omega)]
  refine ⟨fun c => ?_, fun c => ?_⟩
  · rw [if_pos (by omega)] at go
    exact go (by omega) (Or.inl rfl) hk hd b Rb rm Fb
  · rw [if_neg (by omega)] at go
    exact go (by omega) (Or.inl rfl) hk hd b Rb rm Fb
theorem M_areSetsRight {Q : Int → AH → Prop} {F x y : Int} {z : AH} (hf : By f) (T : TW f g n root K0 md F x y z 0 s) (X : MXc g n root md h) (hK : 1 ≤ K0) (s1 : s 1 0 = 1) (s2 : s 2 0 = 0) (r1 : Sb (h 35)) (r2 : E (ub (h 35)) f) (r3 : Sb (h 36)) (r4 : md = 1 → E (ub (h 36)) (s 5)) (r5 : Mt (h 37) (fun x => s 0 x.toNat ≠ -1)) (r6 : md = 1 → h 34 36 = s 6 0)
    (H1 : F = 0 → ∀ h', MR f md z h' → FR h h' → Q 1 h')
    (H0 : F ≠ 0 → ∀ h', h' 34 9 = F → h' 34 10 = x → h' 34 11 = y → Sb (h' 36) → FR0 h h' → Q 0 h') : RunsI G 224 [vR 34] h Q := by
  have x5 := X.2.2.2.2.1
  apply q_M_areSetsRight
  refine M_beginSets (fun b b34 k4 b41 b42 b45 b46 b48 b49 ob => ?_)
  have Fb : FR h b := ⟨fun o p => ob o (by omega), fun k p => k4 k (by omega)⟩
  have Rb : MR f md s b := by
    refine ⟨by rw [ob 35 (by decide)]; exact r1, by rw [ob 35 (by decide)]; exact r2, by rw [ob 36 (by decide)]; exact r3, by rw [ob 36 (by decide)]; exact r4, by rw [ob 37 (by decide)]; exact r5, by rw [k4 36 (by decide)]; exact r6, by rw [b34, s1], fun j hj => ?_, fun j j1 hj => by omega⟩
    rw [show j = 0 by omega, b41, s2]
    exact ⟨rfl, fun _ => b45, fun q => absurd (Or.inl rfl) q⟩
  have go := T (fun k s' => k ≤ 200 → ∀ b, MR f md s' b → FR h b → Go G (pI Q) 224 6 [some (vR 34), some (vI (k : Int))] [] b)
    (fun k s' F0 le S ez k2 b R fr => by
      have NN := SI_N S (by omega)
      have N1 := S.1.1
      apply q_M_areSetsRight_c6
      rw [R.2.2.2.2.2.2.1, wI_id (z := s' 1 0) (by omega) (by omega), wI_id (z := (k : Int)) (by omega) (by omega)]
      exact ⟨fun _ => ⟨Or.inr rfl, H1 F0 b (by rw [← ez]; exact R) fr⟩, fun q => by omega⟩)
    (fun k s' kl nd S ih k2 b R fr => by
      have NN := SI_N S (by omega)
      apply q_M_areSetsRight_c6
      rw [R.2.2.2.2.2.2.1, wI_id (z := s' 1 0) (by omega) (by omega), wI_id (z := (k : Int)) (by omega) (by omega), show (k : Int).toNat = k by omega, (R.2.2.2.2.2.2.2.1 k kl).2.2 nd]
      refine ⟨fun q => by omega, fun _ => ⟨by omega, fun _ => ?_, fun q => absurd wI_0 q⟩⟩
      exact ih (by omega) b R fr)
    (fun k s' kl hd D F0 k2 b R fr => by
      have NN := SI_N (DW_SI D) (by omega)
      apply q_M_areSetsRight_c6
      rw [R.2.2.2.2.2.2.1, wI_id (z := s' 1 0) (by omega) (by omega), wI_id (z := (k : Int)) (by omega) (by omega), show (k : Int).toNat = k by omega, (R.2.2.2.2.2.2.2.1 k kl).2.1 hd]
      refine ⟨fun q => by omega, fun _ => ⟨by omega, fun q => absurd q (by decide), fun _ => ?_⟩⟩
      refine M_isDirectoryRight hf D (MXc_congr fr X) R kl hd hK (fun q => absurd q F0) (fun _ h' a1 a2 a3 a4 a5 => ⟨fun _ => ⟨Or.inl rfl, H0 F0 h' a1 a2 a3 a4 (fr.w.tr a5)⟩, fun q => absurd wI_0 q⟩))
    (fun k s' s'' kl hd D ih k2 b R fr => by
      have NN := SI_N (DW_SI D) (by omega)
      apply q_M_areSetsRight_c6
      rw [R.2.2.2.2.2.2.1, wI_id (z := s' 1 0) (by omega) (by omega), wI_id (z := (k : Int)) (by omega) (by omega), show (k : Int).toNat = k by omega, (R.2.2.2.2.2.2.2.1 k kl).2.1 hd]
      refine ⟨fun q => by omega, fun _ => ⟨by omega, fun q => absurd q (by decide), fun _ => ?_⟩⟩
      refine M_isDirectoryRight hf D (MXc_congr fr X) R kl hd hK (fun _ h' R2 f2 => ⟨fun q => absurd q (by decide), fun _ => ih (by omega) h' R2 (fr.tr f2)⟩) (fun q => absurd rfl q))
  exact go (by omega) b Rb Fb
end MZ2
