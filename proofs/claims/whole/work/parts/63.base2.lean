/-! questions 1 to 4: the class whole, the reference -/
def Sel (f : Nat → Int) (a : Int) : Prop := (BtOK f 0 ∧ a = 0) ∨ (¬ BtOK f 0 ∧ BtOK f 256 ∧ a = 256)
def RM2 (f : Nat → Int) (root : Int) (K : Nat) (x : Int) : Prop := RM f root K x ∨ x = u4 f (ca root + 20)
def BM (f : Nat → Int) (root : Int) (K : Nat) (x : Int) : Prop := RM2 f root K x ∨ x = u4 f (ca root + 32 + 20)
def BaseOK (f : Nat → Int) (a : Int) (K : Nat) (g : Nat → Int) : Prop := Sel f a ∧ ft f 0 = 4294967288 ∧ ft f 1 = 4294967295 ∧ RWok f (u4 f (a + 32)) (u4 f (a + 36)) K ∧ MapOK f (u4 f (a + 32)) (RM f (u4 f (a + 36)) K) (ca (u4 f (a + 36))) ∧ TabOK f (u4 f (a + 32)) (RM2 f (u4 f (a + 36)) K) (ca (u4 f (a + 36)) + 32) g
def BaseNo (f : Nat → Int) (x y z : Int) : Prop := (¬ BtOK f 0 ∧ ¬ BtOK f 256 ∧ x = 1 ∧ y = 0 ∧ z = 0) ∨ ∃ a, Sel f a ∧ ((ft f 0 ≠ 4294967288 ∧ x = 2 ∧ y = 0 ∧ z = 0) ∨ (ft f 0 = 4294967288 ∧ ft f 1 ≠ 4294967295 ∧ x = 2 ∧ y = 1 ∧ z = 0) ∨ (ft f 0 = 4294967288 ∧ ft f 1 = 4294967295 ∧ ∃ K, (RWno f (u4 f (a + 32)) (u4 f (a + 36)) K ∧ x = 3 ∧ y = tc f 0 (u4 f (a + 36)) (K - 1) ∧ z = 0) ∨ (RWok f (u4 f (a + 32)) (u4 f (a + 36)) K ∧ ((¬ MapOK f (u4 f (a + 32)) (RM f (u4 f (a + 36)) K) (ca (u4 f (a + 36))) ∧ x = 4 ∧ y = u4 f (a + 36) ∧ z = 0) ∨ (MapOK f (u4 f (a + 32)) (RM f (u4 f (a + 36)) K) (ca (u4 f (a + 36))) ∧ (∀ g, ¬ TabOK f (u4 f (a + 32)) (RM2 f (u4 f (a + 36)) K) (ca (u4 f (a + 36)) + 32) g) ∧ x = 4 ∧ y = u4 f (a + 36) ∧ z = 1)))))
theorem Sel_rng {f : Nat → Int} {a : Int} (s : Sel f a) : (a = 0 ∨ a = 256) ∧ (16 ≤ u4 f (a + 32) ∧ u4 f (a + 32) ≤ 100) ∧ clu (u4 f (a + 32)) (u4 f (a + 36)) := by
  rcases s with ⟨b, rfl⟩ | ⟨_, b, rfl⟩
  · exact ⟨Or.inl rfl, b.1, b.2.1⟩
  · exact ⟨Or.inr rfl, b.1, b.2.1⟩
theorem Sel_fun {f : Nat → Int} {a b : Int} (s : Sel f a) (t : Sel f b) : a = b := by
  rcases s with ⟨p, rfl⟩ | ⟨p, _, rfl⟩ <;> rcases t with ⟨q, rfl⟩ | ⟨q, _, rfl⟩
  · rfl
  · exact absurd p q
  · exact absurd q p
  · rfl
section BASE2
variable {G : GG} {h : AH}
theorem H_askBase {P : Int → AH → Prop} (hb : By (h 3))
    (H1 : ∀ h' a K g, BaseOK (h 3) a K g → Gr g → E2 (h' 9) g → Mt (h' 24) (BM (h 3) (u4 (h 3) (a + 36)) K) → h' 7 1 = u4 (h 3) (a + 32) → h' 7 2 = u4 (h 3) (a + 36) → h' 7 3 = u4 (h 3) (ca (u4 (h 3) (a + 36)) + 20) → h' 17 14 = (if a = 0 then 0 else 1) → (∀ k, k ≠ 14 → h' 17 k = h 17 k) → (∀ o, o ≠ 6 → o ≠ 7 → o ≠ 9 → o ≠ 17 → o ≠ 24 → h' o = h o) → P 0 h')
    (H0 : ∀ h' x y z, BaseNo (h 3) x y z → h' 17 15 = x → h' 17 16 = y → h' 17 17 = z → (∀ o, o ≠ 6 → o ≠ 7 → o ≠ 9 → o ≠ 17 → o ≠ 24 → h' o = h o) → P x h') : RunsI G 34 [vR 17] h P := by
  generalize ef : h 3 = f at hb H1 H0
  have fnd : ∀ (b : AH) (x y z : Int), BaseNo f x y z → (∀ o, o ≠ 6 → o ≠ 7 → o ≠ 9 → o ≠ 17 → o ≠ 24 → b o = h o) → RunsI G 33 [vR 17, vI x, vI y, vI z] b (fun r h1 => P r h1) := by
    intro b x y z bn ob
    apply q_H_found
    refine H0 _ x y z bn ?_ ?_ (hs_same _ _ _ _) (fun o p q r s t => by rw [hs_o _ _ _ _ _ s, hs_o _ _ _ _ _ s, hs_o _ _ _ _ _ s]; exact ob o p q r s t)
    · rw [hs_k _ _ _ _ _ (by decide), hs_k _ _ _ _ _ (by decide), hs_same]
    · rw [hs_k _ _ _ _ _ (by decide), hs_same]
  have k58 : ∀ (a : Int) (b : AH), Sel f a → b 17 14 = (if a = 0 then 0 else 1) → (∀ k, k ≠ 14 → b 17 k = h 17 k) → (∀ o, o ≠ 6 → o ≠ 17 → b o = h o) → Go G (pI P) 34 58 [some (vR 17), none, none, none] [vI a] b := by
    intro a b sl b14 b17 ob
    obtain ⟨sa, sn, sr⟩ := Sel_rng sl
    have sr' := sr
    unfold clu at sr'
    apply q_H_askBase_c58
    have b3 : b 3 = f := (ob 3 (by decide) (by decide)).trans ef
    refine D_get4 (by rw [b3]; exact hb) (by omega) (by omega) ?_
    rw [b3, wI_id (z := u4 f (a + 32)) (by omega) (by omega)]
    refine D_get4 (by rw [hs_o _ _ _ _ _ (by decide), b3]; exact hb) (by omega) (by omega) ?_
    rw [hs_o _ _ _ _ _ (show (3 : Nat) ≠ 7 by decide), b3, wI_id (z := u4 f (a + 36)) (by omega) (by omega)]
    generalize eg : hs (hs b 7 1 (u4 f (a + 32))) 7 2 (u4 f (a + 36)) = g
    have g71 : g 7 1 = u4 f (a + 32) := by rw [← eg, hs_k _ _ _ _ _ (by decide), hs_same]
    have g72 : g 7 2 = u4 f (a + 36) := by rw [← eg, hs_same]
    have go : ∀ o, o ≠ 7 → g o = b o := fun o ho => by rw [← eg, hs_o _ _ _ _ _ ho, hs_o _ _ _ _ _ ho]
    clear eg
    have g3 : g 3 = f := (go 3 (by decide)).trans b3
    have og : ∀ o, o ≠ 6 → o ≠ 7 → o ≠ 9 → o ≠ 17 → o ≠ 24 → g o = h o := fun o p q r s t => (go o q).trans (ob o p s)
    have f0 := ft_rng hb (show (0 : Int) ≤ 0 by decide) (show (0 : Int) ≤ 101 by decide)
    have f1 := ft_rng hb (show (0 : Int) ≤ 1 by decide) (show (1 : Int) ≤ 101 by decide)
    refine S_fat (by rw [g3]; exact hb) (by decide) (by decide) ?_
    rw [g3, wI_wI]
    have e0 : wI (ft f 0) = -8 ↔ ft f 0 = 4294967288 := by unfold wI; omega
    rw [e0]
    refine ⟨fun c1 => ?_, fun c1 => fnd g 2 0 0 (Or.inr ⟨a, sl, Or.inl ⟨c1, rfl, rfl, rfl⟩⟩) og⟩
    refine S_fat (by rw [g3]; exact hb) (by decide) (by decide) ?_
    rw [g3, wI_end f1.1 f1.2]
    refine ⟨fun c2 => ?_, fun c2 => fnd g 2 1 0 (Or.inr ⟨a, sl, Or.inr (Or.inl ⟨c1, c2, rfl, rfl, rfl⟩)⟩) og⟩
    refine H_meetRoot (by rw [g3]; exact hb) (by rw [g71]; exact sn) (by rw [g71, g72]; exact sr) (fun K r h2 cr mt o2 => ?_)
    rw [g3, g71, g72] at cr
    rw [g3, g72] at mt
    have o2h : ∀ o, o ≠ 6 → o ≠ 7 → o ≠ 9 → o ≠ 17 → o ≠ 24 → h2 o = h o := fun o p q r s t => (o2 o t).trans (og o p q r s t)
    have h23 : h2 3 = f := (o2 3 (by decide)).trans g3
    have h27 : h2 7 = g 7 := o2 7 (by decide)
    rcases cr with ⟨rok, rfl⟩ | ⟨rno, rfl⟩
    · refine ⟨fun _ => ?_, fun z => absurd wI_0 z⟩
      rw [h27, g72]
      apply q_S_address
      refine H_meetBitmap (M := RM f (u4 f (a + 36)) K) (by rw [h23]; exact hb) (by rw [h27, g71]; exact sn) mt (by omega) (by omega) (fun h3 m1 m2 m3 m4 m5 => ?_) (fun h3 m1 m4 m5 => ?_)
      · rw [h23, h27, g71] at m1
        rw [h23] at m2 m3
        have h33 : h3 3 = f := (m5 3 (by decide) (by decide)).trans h23
        have h371 : h3 7 1 = u4 f (a + 32) := by rw [m4 1 (by decide), h27, g71]
        have h372 : h3 7 2 = u4 f (a + 36) := by rw [m4 2 (by decide), h27, g72]
        refine ⟨fun z => absurd z (by decide), fun _ => ?_⟩
        rw [h372]
        apply q_S_address
        refine H_meetCases (M := RM2 f (u4 f (a + 36)) K) (by rw [h33]; exact hb) (by rw [h371]; exact sn) m3 (by omega) (by omega) (fun h4 g9 t1 t2 t3 t4 t5 => ?_) (fun h4 t1 t5 => ?_)
        · rw [h33, h371] at t1
          rw [h33] at t4
          refine ⟨fun z => absurd z (by decide), fun _ => H1 h4 a K g9 ⟨sl, c1, c2, rok, m1, t1⟩ t2 t3 t4 ?_ ?_ ?_ ?_ (fun k hk => ?_) (fun o p q r s t => ?_)⟩
          · rw [t5 7 (by decide) (by decide)]; exact h371
          · rw [t5 7 (by decide) (by decide)]; exact h372
          · rw [t5 7 (by decide) (by decide)]; exact m2
          · rw [t5 17 (by decide) (by decide), m5 17 (by decide) (by decide), o2 17 (by decide), go 17 (by decide)]; exact b14
          · rw [t5 17 (by decide) (by decide), m5 17 (by decide) (by decide), o2 17 (by decide), go 17 (by decide)]; exact b17 k hk
          · rw [t5 o t r, m5 o t q]; exact o2h o p q r s t
        · rw [h33, h371] at t1
          refine ⟨fun _ => ?_, fun z => absurd wI_0 z⟩
          rw [t5 7 (by decide) (by decide), h372]
          exact fnd h4 4 _ 1 (Or.inr ⟨a, sl, Or.inr (Or.inr ⟨c1, c2, K, Or.inr ⟨rok, Or.inr ⟨m1, t1, rfl, rfl, rfl⟩⟩⟩)⟩) (fun o p q r s t => by rw [t5 o t r, m5 o t q]; exact o2h o p q r s t)
      · rw [h23, h27, g71] at m1
        refine ⟨fun _ => ?_, fun z => absurd wI_0 z⟩
        rw [m4 2 (by decide), h27, g72]
        exact fnd h3 4 _ 0 (Or.inr ⟨a, sl, Or.inr (Or.inr ⟨c1, c2, K, Or.inr ⟨rok, Or.inl ⟨m1, rfl, rfl, rfl⟩⟩⟩)⟩) (fun o p q r s t => by rw [m5 o q]; exact o2h o p q r s t)
    · have ck := rno.1.2.1 (K - 1) (by have := rno.1.1; omega)
      unfold clu at ck
      rw [wI_id (z := tc f 0 (u4 f (a + 36)) (K - 1)) (by omega) (by omega)]
      refine ⟨fun z => by omega, fun _ => fnd h2 3 _ 0 (Or.inr ⟨a, sl, Or.inr (Or.inr ⟨c1, c2, K, Or.inl ⟨rno, rfl, rfl, rfl⟩⟩)⟩) o2h⟩
  have k34 : ∀ (r a : Int) (b : AH), Sel f a → (r = 1 ∧ a = 0 ∨ r = 0 ∧ a = 256) → (∀ o, o ≠ 6 → b o = h o) → Go G (pI P) 34 34 [some (vR 17), some (vI r), none, none] [] b := by
    intro r a b sl hr ob
    apply q_H_askBase_c34
    have st : ∀ v : Int, v = (if a = 0 then 0 else 1) → Go G (pI P) 34 58 [some (vR 17), none, none, none] [vI a] (hs b 17 14 v) := fun v hv => k58 a _ sl (by rw [hs_same]; exact hv) (fun k hk => by rw [hs_k _ _ _ _ _ hk, ob 17 (by decide)]) (fun o p q => by rw [hs_o _ _ _ _ _ q]; exact ob o p)
    rcases hr with ⟨rfl, rfl⟩ | ⟨rfl, rfl⟩
    · exact ⟨fun z => absurd z (by decide), fun _ => ⟨Or.inl rfl, fun z => absurd z (by decide), fun _ => st 0 rfl⟩⟩
    · exact ⟨fun _ => ⟨Or.inr rfl, fun _ => st 1 rfl, fun z => absurd wI_0 z⟩, fun z => absurd wI_0 z⟩
  apply q_H_askBase
  refine B_isRight (by rw [ef]; exact hb) (by decide) (by decide) (fun h1 b1 o1 => ?_) (fun h1 b1 o1 => ?_)
  · rw [ef] at b1
    exact ⟨fun z => absurd z (by decide), fun _ => k34 1 0 h1 (Or.inl ⟨b1, rfl⟩) (Or.inl ⟨rfl, rfl⟩) o1⟩
  · rw [ef] at b1
    refine ⟨fun _ => ?_, fun z => absurd wI_0 z⟩
    have e13 : h1 3 = f := (o1 3 (by decide)).trans ef
    refine B_isRight (by rw [e13]; exact hb) (by decide) (by decide) (fun h2 b2 o2 => ?_) (fun h2 b2 o2 => ?_)
    · rw [e13] at b2
      exact ⟨fun z => absurd z (by decide), fun _ => k34 0 256 h2 (Or.inr ⟨b1, b2, rfl⟩) (Or.inr ⟨rfl, rfl⟩) (fun o ho => (o2 o ho).trans (o1 o ho))⟩
    · rw [e13] at b2
      exact ⟨fun _ => fnd h2 1 0 0 (Or.inl ⟨b1, b2, rfl, rfl, rfl⟩) (fun o p q r s t => (o2 o p).trans (o1 o p)), fun z => absurd wI_0 z⟩
variable {f : Nat → Int}
theorem M_hasCluster {P : Int → AH → Prop} {a : Int} {M : Int → Prop} (hE : E (ub (h 35)) f) (hn : 16 ≤ h 34 0 ∧ h 34 0 ≤ 100) (hm : Mt (h 37) M) (a0 : 0 ≤ a) (a1 : a + 32 ≤ 13824) (H1 : clu (h 34 0) (u4 f (a + 20)) → ¬ M (u4 f (a + 20)) → ft f (u4 f (a + 20)) = 4294967295 → P 1 h) (H0 : ¬ (clu (h 34 0) (u4 f (a + 20)) ∧ ¬ M (u4 f (a + 20)) ∧ ft f (u4 f (a + 20)) = 4294967295) → P 0 h) : RunsI G 193 [vR 34, vI a] h P := by
  have hf : By f := hE.by (ub_By _)
  have u20 := u4_rng hf (show 0 ≤ a + 20 by omega) (show a + 20 + 3 < 13824 by omega)
  apply q_M_hasCluster
  refine M_get4 hE (by omega) (by omega) ?_
  refine M_isCluster hn (by omega) (fun k => ⟨fun z => absurd z (by decide), fun _ => ?_⟩) (fun k => ⟨fun _ => ⟨Or.inl rfl, H0 (fun q => k q.1)⟩, fun z => absurd wI_0 z⟩)
  rw [wI_id (z := u4 f (a + 20)) (by omega) (by omega)]
  refine ⟨⟨by omega, by omega⟩, ?_⟩
  have q := hm (u4 f (a + 20)).toNat (by omega)
  rw [show (((u4 f (a + 20)).toNat : Nat) : Int) = u4 f (a + 20) by omega] at q
  by_cases mm : M (u4 f (a + 20))
  · rw [q.1 mm]
    exact ⟨fun z => absurd z (by decide), fun _ => ⟨Or.inl rfl, H0 (fun q => q.2.1 mm)⟩⟩
  · rw [q.2 mm]
    refine ⟨fun _ => ?_, fun z => absurd wI_0 z⟩
    have fr := ft_rng hf (show 0 ≤ u4 f (a + 20) by omega) (show u4 f (a + 20) ≤ 101 by omega)
    refine M_fat hE (by omega) (by omega) ?_
    rw [wL_id (z := ft f (u4 f (a + 20))) (by omega) (by omega)]
    exact ⟨fun e => ⟨Or.inr rfl, H1 k mm e⟩, fun e => ⟨Or.inl rfl, H0 (fun q => e q.2.2)⟩⟩
theorem M_isMapThere {P : Int → AH → Prop} {M : Int → Prop} (h5 : Sb (h 35)) (hE : E (ub (h 35)) f) (hn : 16 ≤ h 34 0 ∧ h 34 0 ≤ 100) (hr : clu (h 34 0) (h 34 1)) (hm : Mt (h 37) M)
    (H1 : ∀ h', MapOK f (h 34 0) M (ca (h 34 1)) → h' 34 2 = u4 f (ca (h 34 1) + 20) → Mt (h' 37) (fun x => M x ∨ x = u4 f (ca (h 34 1) + 20)) → (∀ k, k ≠ 2 → h' 34 k = h 34 k) → (∀ o, o ≠ 34 → o ≠ 37 → h' o = h o) → P 1 h')
    (H0 : ∀ h', ¬ MapOK f (h 34 0) M (ca (h 34 1)) → h' 34 9 = 4 → h' 34 10 = h 34 1 → h' 34 11 = 0 → (∀ k, k ≠ 9 → k ≠ 10 → k ≠ 11 → h' 34 k = h 34 k) → (∀ o, o ≠ 34 → h' o = h o) → P 0 h') : RunsI G 194 [vR 34] h P := by
  have hf : By f := hE.by (ub_By _)
  unfold clu at hr
  have ar : 1024 ≤ ca (h 34 1) ∧ ca (h 34 1) + 128 ≤ 13824 := by unfold ca; omega
  apply q_M_isMapThere
  apply q_M_clusterAt
  rw [show 1024 + 128 * (h 34 1 - 2) = ca (h 34 1) from rfl]
  generalize ca (h 34 1) = a at ar H1 H0
  unfold MapOK at H1 H0
  have bad : ¬ (rd f a = 129 ∧ zer f (a + 1) (a + 20) ∧ u4 f (a + 24) = (h 34 0 + 7) / 8 ∧ u4 f (a + 28) = 0 ∧ clu (h 34 0) (u4 f (a + 20)) ∧ ¬ M (u4 f (a + 20)) ∧ ft f (u4 f (a + 20)) = 4294967295) → Go G (pI P) 194 74 [some (vR 34), some (vI a), none] [vI 0] h := by
    intro q
    apply q_M_isMapThere_c74
    refine ⟨fun _ => ?_, fun z => absurd wI_0 z⟩
    apply q_M_meets
    refine ⟨Or.inl rfl, Or.inl rfl, H0 _ q ?_ ?_ (hs_same _ _ _ _) (fun k a b c => ?_) (fun o ho => ?_)⟩
    · rw [hs_k _ _ _ _ _ (by decide), hs_k _ _ _ _ _ (by decide), hs_same]
    · rw [hs_k _ _ _ _ _ (by decide), hs_same]
    · rw [hs_k _ _ _ _ _ c, hs_k _ _ _ _ _ b, hs_k _ _ _ _ _ a]
    · rw [hs_o _ _ _ _ _ ho, hs_o _ _ _ _ _ ho, hs_o _ _ _ _ _ ho]
  have s0 := h5 a.toNat (by omega)
  have e0 : h 35 a.toNat % 256 = rd f a := hE _ (by omega)
  have u24 := u4_rng hf (show 0 ≤ a + 24 by omega) (show a + 24 + 3 < 13824 by omega)
  have u28 := u4_rng hf (show 0 ≤ a + 28 by omega) (show a + 28 + 3 < 13824 by omega)
  have u20 := u4_rng hf (show 0 ≤ a + 20 by omega) (show a + 20 + 3 < 13824 by omega)
  rw [wI_id (z := a) (by omega) (by omega), wI_id (z := h 35 a.toNat) (by omega) (by omega)]
  refine ⟨⟨by omega, by omega⟩, fun c1 => ?_, fun c1 => bad (fun q => c1 (by have := q.1; omega))⟩
  refine M_isZero h5 hE (by omega) (by omega) (by omega) (fun c2 => ⟨fun z => absurd z (by decide), fun _ => ?_⟩) (fun c2 => ⟨fun _ => bad (fun q => c2 q.2.1), fun z => absurd wI_0 z⟩)
  refine M_hasCluster hE hn hm (by omega) (by omega) (fun k1 k2 k3 => ⟨fun z => absurd z (by decide), fun _ => ?_⟩) (fun k => ⟨fun _ => bad (fun q => k q.2.2.2.2), fun z => absurd wI_0 z⟩)
  refine M_get8 hE (by omega) (by omega) ⟨by decide, ?_⟩
  rw [show a + 24 + 4 = a + 28 by omega, wI_id (z := h 34 0 + 7) (by omega) (by omega), tdiv_pos (by omega), wI_id (z := (h 34 0 + 7) / 8) (by omega) (by omega), wL_id (z := (h 34 0 + 7) / 8) (by omega) (by omega)]
  have ww : wL (wL (u4 f (a + 24) + 4294967296 * u4 f (a + 28))) = (h 34 0 + 7) / 8 ↔ u4 f (a + 24) = (h 34 0 + 7) / 8 ∧ u4 f (a + 28) = 0 := by unfold wL; omega
  rw [ww]
  refine ⟨fun c3 => ?_, fun c3 => bad (fun q => c3 ⟨q.2.2.1, q.2.2.2.1⟩)⟩
  apply q_M_isMapThere_c74
  refine ⟨fun z => absurd z (by decide), fun _ => ?_⟩
  have k1' := k1
  unfold clu at k1'
  refine M_get4 hE (by omega) (by omega) ?_
  rw [hs_same, wI_id (z := u4 f (a + 20)) (by omega) (by omega)]
  refine ⟨⟨by omega, by omega⟩, Or.inr rfl, Or.inr rfl, H1 _ ⟨by omega, c2, c3.1, c3.2, k1, k2, k3⟩ ?_ ?_ (fun k hk => ?_) (fun o p q => ?_)⟩
  · rw [hs_o _ _ _ _ _ (by decide), hs_same]
  · rw [hs_eq, hs_o _ _ _ _ _ (by decide)]
    exact Mt_set hm (by omega)
  · rw [hs_o _ _ _ _ _ (by decide), hs_k _ _ _ _ _ hk]
  · rw [hs_o _ _ _ _ _ q, hs_o _ _ _ _ _ p]
theorem M_isTableThere {P : Int → AH → Prop} {M : Int → Prop} (h5 : Sb (h 35)) (hE : E (ub (h 35)) f) (hn : 16 ≤ h 34 0 ∧ h 34 0 ≤ 100) (hr : clu (h 34 0) (h 34 1)) (hm : Mt (h 37) M)
    (H1 : ∀ h' g, TabOK f (h 34 0) M (ca (h 34 1) + 32) g → Gr g → E2 (h' 38) g → Mt (h' 37) (fun x => M x ∨ x = u4 f (ca (h 34 1) + 32 + 20)) → (∀ k, k ≠ 15 → h' 34 k = h 34 k) → (∀ o, o ≠ 34 → o ≠ 37 → o ≠ 38 → h' o = h o) → P 1 h')
    (H0 : ∀ h', (∀ g, ¬ TabOK f (h 34 0) M (ca (h 34 1) + 32) g) → h' 34 9 = 4 → h' 34 10 = h 34 1 → h' 34 11 = 1 → (∀ k, k ≠ 9 → k ≠ 10 → k ≠ 11 → k ≠ 15 → h' 34 k = h 34 k) → (∀ o, o ≠ 34 → o ≠ 37 → o ≠ 38 → h' o = h o) → P 0 h') : RunsI G 195 [vR 34] h P := by
  have hf : By f := hE.by (ub_By _)
  unfold clu at hr
  have ar : 1024 ≤ ca (h 34 1) + 32 ∧ ca (h 34 1) + 32 + 32 ≤ 13824 := by unfold ca; omega
  apply q_M_isTableThere
  apply q_M_clusterAt
  rw [show 1024 + 128 * (h 34 1 - 2) = ca (h 34 1) from rfl]
  generalize ca (h 34 1) + 32 = a at ar H1 H0
  have mts : ∀ (b : AH) (k : Prop), (∀ g, ¬ TabOK f (h 34 0) M a g) → (∀ k, k ≠ 15 → b 34 k = h 34 k) → (∀ o, o ≠ 34 → o ≠ 37 → o ≠ 38 → b o = h o) → RunsI G 188 [vR 34, vI 4, vI (h 34 1), vI 1] b (fun r9 h9 => ((r9 = 0 ∨ r9 = 1) ∧ P r9 h9)) := by
    intro b _ q b34 ob
    apply q_M_meets
    refine ⟨Or.inl rfl, Or.inl rfl, H0 _ q ?_ ?_ (hs_same _ _ _ _) (fun k a b c d => ?_) (fun o p q r => ?_)⟩
    · rw [hs_k _ _ _ _ _ (by decide), hs_k _ _ _ _ _ (by decide), hs_same]
    · rw [hs_k _ _ _ _ _ (by decide), hs_same]
    · rw [hs_k _ _ _ _ _ c, hs_k _ _ _ _ _ b, hs_k _ _ _ _ _ a]; exact b34 k d
    · rw [hs_o _ _ _ _ _ p, hs_o _ _ _ _ _ p, hs_o _ _ _ _ _ p]; exact ob o p q r
  have bad : ∀ y : Int, (∀ g, ¬ TabOK f (h 34 0) M a g) → Go G (pI P) 195 100 [some (vR 34), some (vI a), some (vL y), none, none] [vI 0] h := by
    intro y q
    apply q_M_isTableThere_c100
    exact ⟨fun _ => mts h True q (fun _ _ => rfl) (fun _ _ _ _ => rfl), fun z => absurd wI_0 z⟩
  have s0 := h5 a.toNat (by omega)
  have e0 : h 35 a.toNat % 256 = rd f a := hE _ (by omega)
  have u24 := u4_rng hf (show 0 ≤ a + 24 by omega) (show a + 24 + 3 < 13824 by omega)
  have u28 := u4_rng hf (show 0 ≤ a + 28 by omega) (show a + 28 + 3 < 13824 by omega)
  have u20 := u4_rng hf (show 0 ≤ a + 20 by omega) (show a + 20 + 3 < 13824 by omega)
  have u04 := u4_rng hf (show 0 ≤ a + 4 by omega) (show a + 4 + 3 < 13824 by omega)
  refine M_get8 hE (by omega) (by omega) ?_
  rw [show a + 24 + 4 = a + 28 by omega]
  rw [wI_id (z := a) (by omega) (by omega), wI_id (z := h 35 a.toNat) (by omega) (by omega)]
  refine ⟨⟨by omega, by omega⟩, fun c1 => ?_, fun c1 => bad _ (fun g q => c1 (by have := q.1; omega))⟩
  refine M_isZero h5 hE (by omega) (by omega) (by omega) (fun c2 => ⟨fun z => absurd z (by decide), fun _ => ?_⟩) (fun c2 => ⟨fun _ => bad _ (fun g q => c2 q.2.1), fun z => absurd wI_0 z⟩)
  refine M_isZero h5 hE (by omega) (by omega) (by omega) (fun c3 => ⟨fun z => absurd z (by decide), fun _ => ?_⟩) (fun c3 => ⟨fun _ => bad _ (fun g q => c3 q.2.2.1), fun z => absurd wI_0 z⟩)
  refine M_hasCluster hE hn hm (by omega) (by omega) (fun k1 k2 k3 => ⟨fun z => absurd z (by decide), fun _ => ?_⟩) (fun k => ⟨fun _ => bad _ (fun g q => k q.2.2.2.2.2.1), fun z => absurd wI_0 z⟩)
  refine M_in (by unfold wL; omega) (by omega) (by omega) (fun c4 c5 => ⟨fun z => absurd z (by decide), fun _ => ⟨by decide, ?_⟩⟩) (fun c4 => ⟨fun _ => bad _ (fun g q => c4 ?_), fun z => absurd wI_0 z⟩)
  · have c6 : u4 f (a + 28) = 0 ∧ 2 ≤ u4 f (a + 24) ∧ u4 f (a + 24) ≤ 128 := by unfold wL at c4 c5; omega
    have ew : wL (u4 f (a + 24) + 4294967296 * u4 f (a + 28)) = u4 f (a + 24) := by rw [c6.1]; unfold wL; omega
    rw [ew, wL_id (z := u4 f (a + 24)) (by omega) (by omega), tmod_pos (by omega), wL_id (z := u4 f (a + 24) % 2) (by omega) (by omega)]
    refine ⟨fun c7 => ?_, fun c7 => bad _ (fun g q => c7 q.2.2.2.1.2.2)⟩
    apply q_M_isTableThere_c100
    refine ⟨fun z => absurd z (by decide), fun _ => ?_⟩
    have k1' := k1
    unfold clu at k1'
    refine M_get4 hE (by omega) (by omega) ?_
    generalize eg : hs h 34 15 (u4 f (a + 20)) = b
    have b15 : b 34 15 = u4 f (a + 20) := by rw [← eg, hs_same]
    have b34 : ∀ k, k ≠ 15 → b 34 k = h 34 k := fun k hk => by rw [← eg, hs_k _ _ _ _ _ hk]
    have bo : ∀ o, o ≠ 34 → b o = h o := fun o ho => by rw [← eg, hs_o _ _ _ _ _ ho]
    clear eg
    have hEb : E (ub (b 35)) f := by rw [bo 35 (by decide)]; exact hE
    refine M_get4 hEb (by omega) (by omega) ?_
    rw [b15]
    apply q_M_clusterAt
    have ca20 : 1024 + 128 * (u4 f (a + 20) - 2) = ca (u4 f (a + 20)) := rfl
    rw [ca20]
    have car : 1024 ≤ ca (u4 f (a + 20)) ∧ ca (u4 f (a + 20)) + 128 ≤ 13824 := by unfold ca; omega
    have ks : RunsL G 176 [vR 35, vI (ca (u4 f (a + 20))), vI (((u4 f (a + 24)).toNat : Nat) : Int), vI 0] b (fun r4 h4 => (wL (u4 f (a + 4)) = wL r4 → RunsI G 169 [vI (h4 34 15)] h4 (fun r6 h6 => RunsI G 196 [vR 34, vI r6, vI (2 * (((u4 f (a + 24) / 2).toNat : Nat) : Int))] h6 (fun r7 h7 => ((wI r7 = 0 → RunsI G 188 [vR 34, vI 4, vI (h7 34 1), vI 1] h7 (fun r8 h8 => ((r8 = 0 ∨ r8 = 1) ∧ P r8 h8))) ∧ (¬ wI r7 = 0 → ((0 ≤ wI (h7 34 15) ∧ wI (h7 34 15) < 102) ∧ (((1 : Int) = 0 ∨ (1 : Int) = 1) ∧ (((1 : Int) = 0 ∨ (1 : Int) = 1) ∧ P 1 (hs h7 37 (wI (h7 34 15)).toNat 1)))))))) ) ∧ (¬ wL (u4 f (a + 4)) = wL r4 → RunsI G 188 [vR 34, vI 4, vI (h4 34 1), vI 1] h4 (fun r5 h5 => ((r5 = 0 ∨ r5 = 1) ∧ P r5 h5)))) := by
      refine M_sum4 hEb (by omega) (by omega) (Or.inl rfl) ?_
      have sr := sm4_rng 0 f (ca (u4 f (a + 20))) (u4 f (a + 24)).toNat
      rw [wL_id (z := u4 f (a + 4)) (by omega) (by omega), wL_id (z := sm4 0 f (ca (u4 f (a + 20))) (u4 f (a + 24)).toNat) (by omega) (by omega)]
      refine ⟨fun c8 => ?_, fun c8 => ?_⟩
      · rw [b15]
        apply q_M_clusterAt
        rw [ca20]
        refine M_isTable hEb (by omega) (by omega) (by omega) (fun b2 g l1 l2 l3 l4 => ⟨fun z => absurd z (by decide), fun _ => ?_⟩) (fun b2 l1 l4 => ⟨fun _ => ?_, fun z => absurd wI_0 z⟩)
        · rw [l4 34 (by decide), b15, wI_id (z := u4 f (a + 20)) (by omega) (by omega)]
          refine ⟨⟨by omega, by omega⟩, Or.inr rfl, Or.inr rfl, H1 _ g ⟨by omega, c2, c3, ⟨c6.2.1, c6.2.2, c7⟩, c6.1, ⟨k1, k2, k3⟩, c8.symm, l1⟩ l2 ?_ ?_ (fun k hk => ?_) (fun o p q r => ?_)⟩
          · rw [hs_o _ _ _ _ _ (by decide)]; exact l3
          · rw [hs_eq, l4 37 (by decide), bo 37 (by decide)]
            exact Mt_set hm (by omega)
          · rw [hs_o _ _ _ _ _ (by decide), l4 34 (by decide)]; exact b34 k hk
          · rw [hs_o _ _ _ _ _ q, l4 o r]; exact bo o p
        · rw [l4 34 (by decide), b34 1 (by decide)]
          exact mts b2 True (fun g q => l1 g q.2.2.2.2.2.2.2) (fun k hk => by rw [l4 34 (by decide)]; exact b34 k hk) (fun o p q r => (l4 o r).trans (bo o p))
      · rw [b34 1 (by decide)]
        exact mts b True (fun g q => c8 q.2.2.2.2.2.2.1.symm) b34 (fun o p _ _ => bo o p)
    rw [show (((u4 f (a + 24)).toNat : Nat) : Int) = u4 f (a + 24) by omega, show 2 * (((u4 f (a + 24) / 2).toNat : Nat) : Int) = u4 f (a + 24) by omega] at ks
    exact ks
  · have q1 := q.2.2.2.1
    have q2 := q.2.2.2.2.1
    rw [q2]
    unfold wL
    omega
end BASE2
