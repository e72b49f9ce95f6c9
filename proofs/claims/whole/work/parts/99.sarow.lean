/-! rows and SETS while a call goes on -/
section ROWG
variable {f w u g : Nat → Int} {n root mp : Int} {t R : AH} {G : GG} {h : AH}
/-- the row of a place, read off a disk that is under way -/
def RwG (f u : Nat → Int) (root : Int) (t R : AH) (jp K' : Nat) (r' : Nat → Int) : Prop := Kt t jp ≤ K' ∧ (∀ i, i < Kt t jp → r' i = R jp i) ∧ ((jp = 0 ∧ (1 ≤ K' ∧ K' ≤ 101) ∧ (∀ i, i < K' → tc u 0 root i = r' i ∧ 2 ≤ r' i ∧ r' i ≤ 101) ∧ tc u 0 root K' = 4294967295) ∨ (jp ≠ 0 ∧ K' = Kt t jp ∧ ∀ i, i + 1 < Kt t jp → bR f (t 1 jp) = 1 ∨ ft u (R jp i) = ft f (R jp i)))
theorem RwG_same (v : V f g n root mp t R) {jp : Nat} (a : al t jp) (e : ∀ i, i < Kt t jp → ft u (R jp i) = ft f (R jp i)) : RwG f u root t R jp (Kt t jp) (R jp) := by
  have nn := V_n v
  refine ⟨Nat.le_refl _, fun _ _ => rfl, ?_⟩
  by_cases z : jp = 0
  · subst z
    obtain ⟨r1, r2, r3⟩ := v.2.2.1 0 a
    have kn := V_K v a
    have K1 := v.1.1.2.2
    rw [v.1.1.2.1, rwP_0] at r2 r3
    have ts : ∀ i, i ≤ Kt t 0 → tc u 0 root i = tc f 0 root i := tc_sm (fun i hi => Or.inr (by rw [r2 i hi]; exact e i hi))
    refine Or.inl ⟨rfl, by omega, fun i hi => ⟨by rw [ts i (by omega)]; exact r2 i hi, V_rr v a i hi⟩, ?_⟩
    rw [ts _ (Nat.le_refl _)]
    exact r3 (Or.inl rfl) K1
  · exact Or.inr ⟨z, rfl, fun i hi => Or.inr (e i (by omega))⟩
theorem M_rowG {Q : AH → Prop} {k jp K' : Nat} {r' : Nat → Int} (v : V f g n root mp t R) (hE : E (ub (h 35)) u) (h1 : h 34 1 = root) (a : al t jp) (k0 : k = 0 ↔ jp = 0) (k2 : k < 200) (arr : 1 ≤ k → h 46 k = bR f (t 1 jp) ∧ h 47 k = u4 f (ha (t 1 jp) + 56) ∧ h 48 k = u4 f (ha (t 1 jp) + 52)) (rw' : RwG f u root t R jp K' r') (H : ∀ h', Rm h' K' r' → (∀ k, k ≠ 17 → h' 34 k = h 34 k) → (∀ o, o ≠ 34 → o ≠ 39 → h' o = h o) → Q h') : RunsV G 210 [vR 34, vI (k : Int)] h Q := by
  have nn := V_n v
  have kn := V_K v a
  have hf := V_by v
  obtain ⟨rk, rs, ⟨z, K1, row, en⟩ | ⟨z, eK, fs⟩⟩ := rw'
  · have kz := k0.mpr z
    subst kz z
    have c0 := row 0 (by omega)
    have c1 := c0.1
    simp only [tc] at c1
    apply q_M_rowOfSet
    refine ⟨fun _ => ?_, fun c => absurd wI_0 c⟩
    refine M_rowOfRoot (K := K') (f := u) hE (by omega) (fun i hi => by rw [h1, (row i hi).1]; exact (row i hi).2) (by rw [h1]; exact en) (by rw [h1]; omega) (fun h' rm p q => H h' ⟨rm.1, rm.2.1, fun i hi => ?_⟩ p q)
    rw [rm.2.2 i hi, h1]
    exact (row i hi).1
  · subst eK
    have j1 : 1 ≤ jp := (by omega)
    have kn1 : 1 ≤ k := (by omega)
    have wa := V_at v j1 a
    have p0 : t 1 jp ≠ 0 := by have := V_cl v j1 a; omega
    obtain ⟨r1, r2, r3⟩ := v.2.2.1 jp a
    obtain ⟨q1, q2, q3⟩ := arr kn1
    have ln := (V_ln v j1 a).2.2.1
    have u5 := u4_rng hf (show 0 ≤ ha (t 1 jp) + 56 by omega) (show ha (t 1 jp) + 56 + 3 < 13824 by omega)
    have c52 : 0 ≤ u4 f (ha (t 1 jp) + 52) ∧ u4 f (ha (t 1 jp) + 52) ≤ 101 := by
      by_cases y : u4 f (ha (t 1 jp) + 56) = 0
      · rw [(ln.2.2.2.2.2.1 y).1]; omega
      · have := ln.2.2.2.2.2.2 y
        omega
    rw [rwP_n f root p0] at r2
    rw [rkP_n f _ p0] at r1
    have ts : ∀ i, i < Kt t jp → tc u (bR f (t 1 jp)) (u4 f (ha (t 1 jp) + 52)) i = R jp i := fun i hi => by
      rw [← r2 i hi]
      exact tc_sm (K := i) (fun i' hi' => by rw [r2 i' (by omega)]; exact fs i' (by omega)) i (Nat.le_refl _)
    refine M_rowOfSet (f := u) (K := Kt t jp) hE (by omega) ⟨u5.1, by have := ln.1; omega⟩ r1.symm q2 q3 q1 (bR_01 _ _) c52 (fun i hi => by rw [ts i hi]; exact V_rr v a i hi) (fun h' rm p q => H h' ⟨rm.1, rm.2.1, fun i hi => ?_⟩ p q)
    rw [rm.2.2 i hi, ts i hi]
    exact (rs i hi).symm
theorem M_changeG {P : AH → Prop} {k kp jj K' : Nat} {r' : Nat → Int} {rn fs ln : Int} (v : V f g n root mp t R) (h6 : Sb (h 36)) (hE : E (ub (h 35)) u) (hW : E (ub (h 36)) w) (h1 : h 34 1 = root) (j1 : 1 ≤ jj) (a : al t jj) (k2 : k < 200) (e42 : h 42 k = (kp : Int)) (e43 : h 43 k = t 3 jj) (e44 : h 44 k = 1 + rd f (ha (t 1 jj) + 1)) (kp0 : kp = 0 ↔ pt t jj = 0) (kp2 : kp < 200) (arr : 1 ≤ kp → h 46 kp = bR f (t 1 (pt t jj)) ∧ h 47 kp = u4 f (ha (t 1 (pt t jj)) + 56) ∧ h 48 kp = u4 f (ha (t 1 (pt t jj)) + 52)) (rw' : RwG f u root t R (pt t jj) K' r') (sm : ∀ x, ha (t 1 jj) ≤ x → x < ha (t 1 jj) + 64 → rd w x = rd f x) (r01 : rn = 0 ∨ rn = 1) (l0 : 0 ≤ ln ∧ ln < 4294967296) (f0 : 0 ≤ fs ∧ fs ≤ 1000)
    (H : ∀ h', Sb (h' 36) → E (ub (h' 36)) (rly w (ha (t 1 jj)) (ea (R (pt t jj)) (t 3 jj + 2)) rn fs ln (h 34 4)) → (∀ k, k ≠ 17 → h' 34 k = h 34 k) → (∀ o, o ≠ 34 → o ≠ 36 → o ≠ 39 → h' o = h o) → P h') : RunsV G 256 [vR 34, vI (k : Int), vL ln, vI fs, vI rn] h P := by
  have nn := V_n v
  have wp := v.1.2.2.2.1 jj j1 a
  have ee := V_e v j1 a
  have kn := V_K v wp.1
  have wa := V_at v j1 a
  have cl := V_cl v j1 a
  have rg := (V_rng v j1 a).1
  have ok := V_ln v j1 a
  have s3 := SetOK_3 ok
  have hw := V_by v
  have rk := rw'.1
  have rs := rw'.2.1
  apply q_M_changeSet
  rw [wI_id (z := (k : Int)) (by omega) (by omega), show (k : Int).toNat = k by omega, e42]
  refine ⟨by omega, M_rowG v hE h1 wp.1 kp0 kp2 arr rw' (fun b rm k4 ob => ⟨by omega, ?_⟩)⟩
  have K102 := rm.2.1
  have rmr : ∀ i, i < Kt t (pt t jj) → b 39 i = R (pt t jj) i := fun i hi => (rm.2.2 i (by omega)).trans (rs i hi)
  rw [ob 43 (by decide) (by decide), e43]
  refine M_entryAt wp.2.1.1 (by omega) ?_
  have ea0 : ea (b 39) (t 3 jj) = ha (t 1 jj) := by rw [cl.2.2.1]; exact ea_cg rmr wp.2.1.1 (by omega)
  rw [ea0, k4 4 (by decide)]
  refine M_put_36 (n := 4) (by rw [ob 36 (by decide) (by decide)]; exact h6) (by omega) (by omega) (by omega) (by unfold wI; omega) (fun c c6 cu oc => ?_)
  rw [ob 36 (by decide) (by decide)] at cu
  have cW : E (ub (c 36)) (wb w (ha (t 1 jj) + 12) 4 (h 34 4)) := by
    rw [cu, wb4_mod (w := h 34 4) (by unfold wI; omega)]
    exact E_wb hW _ _ _
  refine M_entryAt (e := t 3 jj + 1) (by omega) (by omega) ?_
  have ea1 : ea (c 39) (t 3 jj + 1) = ha (t 1 jj) + 32 := by
    rw [ea_s wp.2.1.1 wp.2.1.2, oc 39 (by decide), ea0]
  rw [ea1]
  have z4 := u4_z hw (show 0 ≤ ha (t 1 jj) + 44 by omega) (show ha (t 1 jj) + 44 + 3 < 13824 by omega) ok.2.2.1.2.2.2.1
  have z6 := u4_z hw (show 0 ≤ ha (t 1 jj) + 60 by omega) (show ha (t 1 jj) + 60 + 3 < 13824 by omega) ok.2.2.1.2.2.1
  refine M_wantStream c6 cW wa.1 wa.2.1 (fun x p q => by rw [rd_wb_ne (by omega) (by omega) (by omega), sm x (by omega) (by omega)]; exact z4 x p (by omega)) (fun x p q => by rw [rd_wb_ne (by omega) (by omega) (by omega), sm x (by omega) (by omega)]; exact z6 x p (by omega)) r01 l0 f0 (fun d d6 dW od => ?_)
  rw [sst_comm wa.1] at dW
  rw [od 44 (by decide), oc 44 (by decide), ob 44 (by decide) (by decide), e44]
  refine ⟨by omega, ?_⟩
  have e1 : rd (wb (sst w (ha (t 1 jj)) rn fs ln) (ha (t 1 jj) + 12) 4 (h 34 4)) (ha (t 1 jj) + 1) = rd f (ha (t 1 jj) + 1) := by
    rw [rd_wb_ne (by omega) (by omega) (by omega)]
    unfold sst
    rw [rd_wb_ne (by omega) (by omega) (by omega), rd_wb_ne (by omega) (by omega) (by omega), rd_wb_ne (by omega) (by omega) (by omega), rd_wb_ne (by omega) (by omega) (by omega)]
    exact sm _ (by omega) (by omega)
  have ms := M_seal (G := G) (P := P) (h := d) (w := wb (sst w (ha (t 1 jj)) rn fs ln) (ha (t 1 jj) + 12) 4 (h 34 4)) (r := R (pt t jj)) (e := t 3 jj) (m := (1 + rd f (ha (t 1 jj) + 1)).toNat) (K := Kt t (pt t jj)) d6 dW (fun i hi => by rw [od 39 (by decide), oc 39 (by decide)]; exact rmr i hi) (V_rr v wp.1) wp.2.1.1 wp.2.1.2 (by omega) (by omega) (by omega) (by rw [← cl.2.2.1, e1]; omega) (fun e' e6 eW oe => ?_)
  · rw [show (((1 + rd f (ha (t 1 jj) + 1)).toNat : Nat) : Int) = 1 + rd f (ha (t 1 jj) + 1) by omega] at ms
    exact ms
  · rw [← cl.2.2.1] at eW
    exact H e' e6 eW (fun k' p => by rw [oe 34 (by decide), od 34 (by decide), oc 34 (by decide)]; exact k4 k' p) (fun o p q r => by rw [oe o q, od o q, oc o q]; exact ob o p r)
theorem M_unG {P : AH → Prop} {k kp jj K' : Nat} {r' : Nat → Int} (v : V f g n root mp t R) (h6 : Sb (h 36)) (hE : E (ub (h 35)) u) (hW : E (ub (h 36)) w) (h1 : h 34 1 = root) (j1 : 1 ≤ jj) (a : al t jj) (k2 : k < 200) (e42 : h 42 k = (kp : Int)) (e43 : h 43 k = t 3 jj) (e44 : h 44 k = 1 + rd f (ha (t 1 jj) + 1)) (kp0 : kp = 0 ↔ pt t jj = 0) (kp2 : kp < 200) (arr : 1 ≤ kp → h 46 kp = bR f (t 1 (pt t jj)) ∧ h 47 kp = u4 f (ha (t 1 (pt t jj)) + 56) ∧ h 48 kp = u4 f (ha (t 1 (pt t jj)) + 52)) (rw' : RwG f u root t R (pt t jj) K' r') (same : ∀ x, (x = ha (t 1 jj) ∨ x = ha (t 1 jj) + 32 ∨ x = ea (R (pt t jj)) (t 3 jj + 2) ∨ (rd f (ha (t 1 jj) + 1) = 3 ∧ x = ea (R (pt t jj)) (t 3 jj + 2) + 32)) → rd w x = rd f x)
    (H : ∀ h', Sb (h' 36) → E (ub (h' 36)) (uu w (ha (t 1 jj)) (ea (R (pt t jj)) (t 3 jj + 2)) (rd f (ha (t 1 jj) + 1))) → (∀ k, k ≠ 17 → h' 34 k = h 34 k) → (∀ o, o ≠ 34 → o ≠ 36 → o ≠ 39 → h' o = h o) → P h') : RunsV G 257 [vR 34, vI (k : Int)] h P := by
  have nn := V_n v
  have wp := v.1.2.2.2.1 jj j1 a
  have ee := V_e v j1 a
  have kn := V_K v wp.1
  have wa := V_at v j1 a
  have cl := V_cl v j1 a
  have rg := V_rng v j1 a
  have s3 := SetOK_3 (V_ln v j1 a)
  have ds := V_ht v j1 a j1 a
  have rr := V_rr v wp.1
  have rk := rw'.1
  have rs := rw'.2.1
  generalize ek : rd f (ha (t 1 jj) + 1) = m at s3 e44 H same
  generalize et : ea (R (pt t jj)) (t 3 jj + 2) = tl at s3 ds same H rg
  have ea0 : ea (R (pt t jj)) (t 3 jj) = ha (t 1 jj) := cl.2.2.1.symm
  have ea1 : ea (R (pt t jj)) (t 3 jj + 1) = ha (t 1 jj) + 32 := by rw [ea_s wp.2.1.1 wp.2.1.2, ea0]
  have ea3 : ea (R (pt t jj)) (t 3 jj + 3) = tl + 32 := by rw [show t 3 jj + 3 = t 3 jj + 2 + 1 by omega, ea_s (by omega) (by omega), et]
  have w0 := same (ha (t 1 jj)) (Or.inl rfl)
  have w1' := same (ha (t 1 jj) + 32) (Or.inr (Or.inl rfl))
  have w2' := same tl (Or.inr (Or.inr (Or.inl rfl)))
  have w3' : m = 3 → rd w (tl + 32) = rd f (tl + 32) := fun y => same (tl + 32) (Or.inr (Or.inr (Or.inr ⟨y, rfl⟩)))
  clear same
  apply q_M_unuse
  rw [wI_id (z := (k : Int)) (by omega) (by omega), show (k : Int).toNat = k by omega, e42]
  refine ⟨by omega, M_rowG v hE h1 wp.1 kp0 kp2 arr rw' (fun b rm k4 ob => ?_)⟩
  have kk := rm.2.1
  have rmr : ∀ i, i < Kt t (pt t jj) → b 39 i = R (pt t jj) i := fun i hi => (rm.2.2 i (by omega)).trans (rs i hi)
  have stp : ∀ (i : Int) (c : AH) (x : Nat → Int) (ty : Int), 0 ≤ i → i ≤ m → (∀ o, o ≠ 36 → c o = b o) → Sb (c 36) → E (ub (c 36)) x → rd x (ea (R (pt t jj)) (t 3 jj + i)) = ty → 129 ≤ ty → ty < 256 → (∀ c2, (∀ o, o ≠ 36 → c2 o = b o) → Sb (c2 36) → E (ub (c2 36)) (wb x (ea (R (pt t jj)) (t 3 jj + i)) 1 (ty - 128)) → Go G (pV P) 257 12 [some (vR 34), some (vI (k : Int)), some (vI (i + 1))] [] c2) → Go G (pV P) 257 12 [some (vR 34), some (vI (k : Int)), some (vI i)] [] c := by
    intro i c x ty i0 i1 oc c6 cW ety t0 t1 cont
    apply q_M_unuse_c12
    rw [wI_id (z := (k : Int)) (by omega) (by omega), show (k : Int).toNat = k by omega, oc 44 (by decide), ob 44 (by decide) (by decide), e44, oc 43 (by decide), ob 43 (by decide) (by decide), e43, wI_id (z := 1 + m) (by omega) (by omega), wI_id (z := i) (by omega) (by omega)]
    refine ⟨by omega, fun z => by omega, fun _ => ⟨by omega, by omega, ?_⟩⟩
    refine M_wantedType (K := Kt t (pt t jj)) (r := R (pt t jj)) cW (fun i hi => by rw [oc 39 (by decide)]; exact rmr i hi) rr (by omega) (by omega) (by omega) ?_
    rw [ety, bA_127, show ty % 128 = ty - 128 by omega]
    refine M_wtV (K := Kt t (pt t jj)) (r := R (pt t jj)) c6 cW (fun i hi => by rw [oc 39 (by decide)]; exact rmr i hi) rr (by omega) (by omega) (by omega) (fun c2 c26 c2W oc2 => cont c2 (fun o p => (oc2 o p).trans (oc o p)) c26 c2W)
  have fin : ∀ (c : AH) (x : Nat → Int), (∀ o, o ≠ 36 → c o = b o) → Sb (c 36) → E (ub (c 36)) x → x = uu w (ha (t 1 jj)) tl m → Go G (pV P) 257 12 [some (vR 34), some (vI (k : Int)), some (vI (m + 1))] [] c := by
    intro c x oc c6 cW ex
    apply q_M_unuse_c12
    rw [wI_id (z := (k : Int)) (by omega) (by omega), show (k : Int).toNat = k by omega, oc 44 (by decide), ob 44 (by decide) (by decide), e44, wI_id (z := 1 + m) (by omega) (by omega), wI_id (z := m + 1) (by omega) (by omega)]
    refine ⟨by omega, fun _ => H c c6 (by rw [← ex]; exact cW) (fun k' p => by rw [oc 34 (by decide)]; exact k4 k' p) (fun o p q r => by rw [oc o q]; exact ob o p r), fun z => by omega⟩
  refine stp 0 b w 133 (by omega) (by omega) (fun _ _ => rfl) (by rw [ob 36 (by decide) (by decide)]; exact h6) (by rw [ob 36 (by decide) (by decide)]; exact hW) (by rw [show t 3 jj + 0 = t 3 jj by omega, ea0, w0]; exact s3.2.2.1) (by omega) (by omega) (fun c1 o1 s1 w1 => ?_)
  rw [show t 3 jj + 0 = t 3 jj by omega, ea0] at w1
  refine stp 1 c1 _ 192 (by omega) (by omega) o1 s1 w1 (by rw [ea1, rd_wb_ne (by omega) (by omega) (by omega), w1']; exact s3.2.2.2.1) (by omega) (by omega) (fun c2 o2 s2 w2 => ?_)
  rw [ea1] at w2
  refine stp 2 c2 _ 193 (by omega) (by omega) o2 s2 w2 (by rw [et, rd_wb_ne (by omega) (by omega) (by omega), rd_wb_ne (by omega) (by omega) (by omega), w2']; exact s3.2.2.2.2.1) (by omega) (by omega) (fun c3 o3 s3' w3 => ?_)
  rw [et] at w3
  rcases s3.1 with z | z
  · rw [show (2 : Int) + 1 = m + 1 by omega]
    exact fin c3 _ o3 s3' w3 (by unfold uu; rw [if_neg (by omega)]; rfl)
  · refine stp (2 + 1) c3 _ 193 (by omega) (by omega) o3 s3' w3 (by rw [show t 3 jj + (2 + 1) = t 3 jj + 3 by omega, ea3, rd_wb_ne (by omega) (by omega) (by omega), rd_wb_ne (by omega) (by omega) (by omega), rd_wb_ne (by omega) (by omega) (by omega), w3' z]; exact s3.2.2.2.2.2 z) (by omega) (by omega) (fun c4 o4 s4 w4 => ?_)
    rw [show t 3 jj + (2 + 1) = t 3 jj + 3 by omega, ea3] at w4
    rw [show (2 : Int) + 1 + 1 = m + 1 by omega]
    exact fin c4 _ o4 s4 w4 (by unfold uu; rw [if_pos z]; rfl)
end ROWG
