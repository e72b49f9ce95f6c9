/-! acts: plans, a SET is told anew -/
section PLAN
variable {G : GG} {h : AH} {f g : Nat → Int} {n root mp : Int} {t R : AH}
theorem M_planFor {P : AH → Prop} {k jj p : Nat} (v : V f g n root mp t R) (hE : E (ub (h 35)) f) (h1 : h 34 1 = root) (a : al t jj) (k0 : k = 0 ↔ jj = 0) (k2 : k < 200) (arr : 1 ≤ k → h 46 k = bR f (t 1 jj) ∧ h 47 k = u4 f (ha (t 1 jj) + 56) ∧ h 48 k = u4 f (ha (t 1 jj) + 52)) (b01 : h 46 k = 0 ∨ h 46 k = 1) (p01 : p < 2)
    (H : ∀ h', h' 54 p = (Kt t jj : Int) → (∀ i, i < Kt t jj → h' 53 (102 * p + i) = R jj i) → h' 57 p = h 46 k → h' 58 p = h 46 k → (∀ x, x ≠ p → h' 54 x = h 54 x ∧ h' 57 x = h 57 x ∧ h' 58 x = h 58 x) → (∀ x, (x < 102 * p ∨ 102 * p + 102 ≤ x) → h' 53 x = h 53 x) → (∀ k, k ≠ 17 → h' 34 k = h 34 k) → (∀ o, ¬ (o = 34 ∨ o = 39 ∨ o = 53 ∨ o = 54 ∨ o = 57 ∨ o = 58) → h' o = h o) → P h') : RunsV G 240 [vR 34, vI (p : Int), vI (k : Int)] h P := by
  have kn := V_K v a
  have nn := V_n v
  apply q_M_planFor
  refine M_rowW v hE h1 a k0 k2 arr (fun b rm k4 ob => ?_)
  rw [wI_id (z := (p : Int)) (by omega) (by omega), show (p : Int).toNat = p by omega]
  refine ⟨by omega, ?_⟩
  have key : ∀ (m i : Nat) (c : AH), i + m = Kt t jj → (∀ j, j < i → c 53 (102 * p + j) = R jj j) → (∀ x, (x < 102 * p ∨ 102 * p + 102 ≤ x) → c 53 x = h 53 x) → c 54 p = (Kt t jj : Int) → (∀ x, x ≠ p → c 54 x = h 54 x) → (∀ o, o ≠ 53 → o ≠ 54 → c o = b o) → Go G (pV P) 240 17 [some (vR 34), some (vI (p : Int)), some (vI (k : Int)), some (vI (i : Int))] [] c := by
    intro m
    induction m with
    | zero =>
      intro i c hm c53 c53' c54 c54' oc
      apply q_M_planFor_c17
      have c46 : c 46 k = h 46 k := by rw [oc 46 (by decide) (by decide), ob 46 (by decide) (by decide)]
      rw [oc 34 (by decide) (by decide), rm.1, wI_id (z := (Kt t jj : Int)) (by omega) (by omega), wI_id (z := (i : Int)) (by omega) (by omega), wI_id (z := (k : Int)) (by omega) (by omega), wI_id (z := (p : Int)) (by omega) (by omega), show (k : Int).toNat = k by omega, show (p : Int).toNat = p by omega, hs_o _ _ _ _ _ (by decide), c46]
      refine ⟨fun _ => ⟨by omega, by omega, b01, by omega, by omega, b01, ?_⟩, fun z => by omega⟩
      have oo : ∀ o, ¬ (o = 34 ∨ o = 39 ∨ o = 53 ∨ o = 54 ∨ o = 57 ∨ o = 58) → (hs (hs c 57 p (h 46 k)) 58 p (h 46 k)) o = h o := fun o q => by rw [hs_o _ _ _ _ _ (by omega), hs_o _ _ _ _ _ (by omega), oc o (by omega) (by omega)]; exact ob o (by omega) (by omega)
      refine H _ ?_ (fun j hj => ?_) ?_ ?_ (fun x xp => ⟨?_, ?_, ?_⟩) (fun x hx => ?_) (fun k' hk' => ?_) oo
      · rw [hs_o _ _ _ _ _ (by decide), hs_o _ _ _ _ _ (by decide)]; exact c54
      · rw [hs_o _ _ _ _ _ (by decide), hs_o _ _ _ _ _ (by decide)]; exact c53 j (by omega)
      · rw [hs_o _ _ _ _ _ (by decide), hs_same]
      · rw [hs_same]
      · rw [hs_o _ _ _ _ _ (by decide), hs_o _ _ _ _ _ (by decide)]; exact c54' x xp
      · rw [hs_o _ _ _ _ _ (by decide), hs_k _ _ _ _ _ xp, oc 57 (by decide) (by decide), ob 57 (by decide) (by decide)]
      · rw [hs_k _ _ _ _ _ xp, hs_o _ _ _ _ _ (by decide), oc 58 (by decide) (by decide), ob 58 (by decide) (by decide)]
      · rw [hs_o _ _ _ _ _ (by decide), hs_o _ _ _ _ _ (by decide)]; exact c53' x hx
      · rw [hs_o _ _ _ _ _ (by decide), hs_o _ _ _ _ _ (by decide), oc 34 (by decide) (by decide)]; exact k4 k' hk'
    | succ m ih =>
      intro i c hm c53 c53' c54 c54' oc
      apply q_M_planFor_c17
      rw [oc 34 (by decide) (by decide), rm.1, wI_id (z := (Kt t jj : Int)) (by omega) (by omega), wI_id (z := (i : Int)) (by omega) (by omega), wI_id (z := 102 * (p : Int) + (i : Int)) (by omega) (by omega), show (i : Int).toNat = i by omega, show (102 * (p : Int) + (i : Int)).toNat = 102 * p + i by omega, oc 39 (by decide) (by decide), rm.2.2 i (by omega), show (i : Int) + 1 = ((i + 1 : Nat) : Int) by omega]
      refine ⟨fun z => by omega, fun _ => ⟨by omega, by omega, ih (i + 1) _ (by omega) (fun j hj => ?_) (fun x hx => ?_) (by rw [hs_o _ _ _ _ _ (by decide)]; exact c54) (fun x hx => by rw [hs_o _ _ _ _ _ (by decide)]; exact c54' x hx) (fun o q r => by rw [hs_o _ _ _ _ _ q]; exact oc o q r)⟩⟩
      · by_cases z : j = i
        · rw [z, hs_same]
        · rw [hs_k _ _ _ _ _ (by omega)]; exact c53 j (by omega)
      · rw [hs_k _ _ _ _ _ (by omega)]; exact c53' x hx
  refine key (Kt t jj) 0 _ (by omega) (fun j hj => by omega) (fun x hx => by rw [hs_o _ _ _ _ _ (by decide), ob 53 (by decide) (by decide)]) (by rw [hs_same, rm.1]) (fun x hx => by rw [hs_k _ _ _ _ _ hx, ob 54 (by decide) (by decide)]) (fun o q r => hs_o _ _ _ _ _ r)
theorem A_openFile {P : AH → Prop} {jj : Nat} (v : V f g n root mp t R) (h3 : h 3 = f) (h71 : h 7 1 = n) (h72 : h 7 2 = root) (j1 : 1 ≤ jj) (a : al t jj) (H : ∀ h', Ro h' 28 29 (Kt t jj) (R jj) → h' 27 4 = bR f (t 1 jj) → h' 27 5 = bR f (t 1 jj) → h' 30 1 = 0 → (∀ k, k ≠ 4 → k ≠ 5 → h' 27 k = h 27 k) → (∀ o, ¬ (27 ≤ o ∧ o ≤ 30) → h' o = h o) → P h') : RunsV G 10 [vR 26, vI (t 1 jj)] h P := by
  have wa := V_at v j1 a
  apply q_A_openFile
  refine T_openV_28 v h3 h71 h72 a (fun b ro fr => ?_)
  apply q_T_headOf
  show RunsI G 85 [vR 10, vI (ha (t 1 jj))] b _
  have b3 : b 3 = f := (fr 3 (by decide) (by decide)).trans h3
  refine E_runB (by rw [b3]; exact V_by v) wa.1 wa.2.1 ?_
  rw [b3]
  have e : (if rd f (ha (t 1 jj) + 33) = 3 then (1 : Int) else 0) = bR f (t 1 jj) := rfl
  rw [e]
  have b01 : bR f (t 1 jj) = 0 ∨ bR f (t 1 jj) = 1 := by
    unfold bR
    split
    · exact Or.inr rfl
    · exact Or.inl rfl
  apply q_G_begin
  refine ⟨b01, b01, H _ ?_ ?_ ?_ (hs_same _ _ _ _) (fun k p q => ?_) (fun o p => ?_)⟩
  · unfold Ro
    rw [hs_o _ _ _ _ _ (by decide), hs_o _ _ _ _ _ (by decide), hs_o _ _ _ _ _ (by decide), hs_o _ _ _ _ _ (by decide), hs_o _ _ _ _ _ (by decide), hs_o _ _ _ _ _ (by decide)]
    exact ro
  · rw [hs_o _ _ _ _ _ (by decide), hs_k _ _ _ _ _ (by decide), hs_same]
  · rw [hs_o _ _ _ _ _ (by decide), hs_same]
  · rw [hs_o _ _ _ _ _ (by decide), hs_k _ _ _ _ _ q, hs_k _ _ _ _ _ p, fr 27 (by decide) (by decide)]
  · rw [hs_o _ _ _ _ _ (by omega), hs_o _ _ _ _ _ (by omega), hs_o _ _ _ _ _ (by omega)]; exact fr o (by omega) (by omega)
theorem u4_z {w : Nat → Int} (hw : By w) {a : Int} (a0 : 0 ≤ a) (a1 : a + 3 < 13824) (z : u4 w a = 0) : ∀ x, a ≤ x → x < a + 4 → rd w x = 0 := (zer4 hw a0 a1).mpr z
theorem M_wantStream {P : AH → Prop} {w : Nat → Int} {hd rn fs ln : Int} (h6 : Sb (h 36)) (hW : E (ub (h 36)) w) (x0 : 0 ≤ hd) (x1 : hd + 64 ≤ 13824) (z44 : ∀ x, hd + 44 ≤ x → x < hd + 48 → rd w x = 0) (z60 : ∀ x, hd + 60 ≤ x → x < hd + 64 → rd w x = 0) (r01 : rn = 0 ∨ rn = 1) (l0 : 0 ≤ ln ∧ ln < 4294967296) (f0 : 0 ≤ fs ∧ fs ≤ 1000) (H : ∀ h', Sb (h' 36) → E (ub (h' 36)) (sst w hd rn fs ln) → (∀ o, o ≠ 36 → h' o = h o) → P h') : RunsV G 255 [vR 34, vI (hd + 32), vL ln, vI fs, vI rn] h P := by
  have hw : By w := hW.by (ub_By _)
  have go : ∀ v, v = (if rn = 0 then 1 else 3) → Go G (pV P) 255 17 [some (vR 34), some (vI (hd + 32)), some (vL ln), none, some (vI fs), none] [vI v, vI (hd + 32 + 1), vR 36] h := by
    intro v ev
    apply q_M_wantStream_c17
    rw [show hd + 32 + 1 = hd + 33 by omega, show hd + 32 + 8 = hd + 40 by omega, show hd + 32 + 20 = hd + 52 by omega, show hd + 32 + 24 = hd + 56 by omega, wI_id (z := hd + 33) (by omega) (by omega), wI_id (z := fs) (by omega) (by omega)]
    refine ⟨by omega, ?_⟩
    have W1 : E (ub ((hs h 36 (hd + 33).toNat (w8 (w8 v))) 36)) (wb w (hd + 33) 1 v) := by
      rw [ub_w8, show (((hd + 33).toNat : Nat) : Int) = hd + 33 by omega]
      exact E_wb hW _ _ _
    refine M_put_36 (n := 8) (Sb_set h6 _ (w8_rng _).1 (w8_rng _).2) (by omega) (by omega) (by omega) (by omega) (fun b1 s1 u1 o1 => ?_)
    have W2 : E (ub (b1 36)) (wb (wb w (hd + 33) 1 v) (hd + 40) 4 ln) := by
      rw [← wb_8 (f := wb w (hd + 33) 1 v) (by omega) l0 (fun k p q => ?_), u1]
      · exact E_wb W1 _ _ _
      · have e : rd (wb w (hd + 33) 1 v) (k : Int) = 0 := by rw [rd_wb_ne (by omega) (by omega) (by omega)]; exact z44 _ (by omega) (by omega)
        unfold rd at e
        rw [show ((k : Int)).toNat = k by omega] at e
        exact e
    refine M_put_36 (n := 4) s1 (by omega) (by omega) (by omega) (by omega) (fun b2 s2 u2 o2 => ?_)
    have W3 : E (ub (b2 36)) (wb (wb (wb w (hd + 33) 1 v) (hd + 40) 4 ln) (hd + 52) 4 fs) := by rw [u2]; exact E_wb W2 _ _ _
    refine M_put_36 (n := 8) s2 (by omega) (by omega) (by omega) (by omega) (fun b3 s3 u3 o3 => H b3 s3 ?_ (fun o p => by rw [o3 o p, o2 o p, o1 o p]; exact hs_o _ _ _ _ _ p))
    unfold sst
    rw [← ev, ← wb_8 (f := wb (wb (wb w (hd + 33) 1 v) (hd + 40) 4 ln) (hd + 52) 4 fs) (by omega) l0 (fun k p q => ?_), u3]
    · exact E_wb W3 _ _ _
    · have e : rd (wb (wb (wb w (hd + 33) 1 v) (hd + 40) 4 ln) (hd + 52) 4 fs) (k : Int) = 0 := by rw [rd_wb_ne (by omega) (by omega) (by omega), rd_wb_ne (by omega) (by omega) (by omega), rd_wb_ne (by omega) (by omega) (by omega)]; exact z60 _ (by omega) (by omega)
      unfold rd at e
      rw [show ((k : Int)).toNat = k by omega] at e
      exact e
  apply q_M_wantStream
  rcases r01 with z | z
  · rw [z] at go ⊢
    exact ⟨fun _ => go 1 rfl, fun y => absurd wI_0 y⟩
  · rw [z] at go ⊢
    exact ⟨fun y => absurd y (by decide), fun _ => go 3 rfl⟩
theorem sst_comm {w : Nat → Int} {hd rn fs ln tm : Int} (x0 : 0 ≤ hd) : sst (wb w (hd + 12) 4 tm) hd rn fs ln = wb (sst w hd rn fs ln) (hd + 12) 4 tm := by
  unfold sst
  rw [wb_comm (a := hd + 12) (b := hd + 33) (by omega) (by omega) (by omega), wb_comm (a := hd + 12) (b := hd + 40) (by omega) (by omega) (by omega), wb_comm (a := hd + 12) (b := hd + 52) (by omega) (by omega) (by omega), wb_comm (a := hd + 12) (b := hd + 56) (by omega) (by omega) (by omega)]
theorem M_changeSet {P : AH → Prop} {w : Nat → Int} {k kp jj : Nat} {rn fs ln : Int} (vw : V w g n root mp t R) (h6 : Sb (h 36)) (hE : E (ub (h 35)) w) (hW : E (ub (h 36)) w) (h1 : h 34 1 = root) (j1 : 1 ≤ jj) (a : al t jj) (k2 : k < 200) (e42 : h 42 k = (kp : Int)) (e43 : h 43 k = t 3 jj) (e44 : h 44 k = 1 + rd w (ha (t 1 jj) + 1)) (kp0 : kp = 0 ↔ pt t jj = 0) (kp2 : kp < 200) (arr : 1 ≤ kp → h 46 kp = bR w (t 1 (pt t jj)) ∧ h 47 kp = u4 w (ha (t 1 (pt t jj)) + 56) ∧ h 48 kp = u4 w (ha (t 1 (pt t jj)) + 52)) (r01 : rn = 0 ∨ rn = 1) (l0 : 0 ≤ ln ∧ ln < 4294967296) (f0 : 0 ≤ fs ∧ fs ≤ 1000)
    (H : ∀ h', Sb (h' 36) → E (ub (h' 36)) (rly w (ha (t 1 jj)) (ea (R (pt t jj)) (t 3 jj + 2)) rn fs ln (h 34 4)) → (∀ k, k ≠ 17 → h' 34 k = h 34 k) → (∀ o, o ≠ 34 → o ≠ 36 → o ≠ 39 → h' o = h o) → P h') : RunsV G 256 [vR 34, vI (k : Int), vL ln, vI fs, vI rn] h P := by
  have nn := V_n vw
  have wp := vw.1.2.2.2.1 jj j1 a
  have ee := V_e vw j1 a
  have kn := V_K vw wp.1
  have wa := V_at vw j1 a
  have cl := V_cl vw j1 a
  have ra := ha_rng cl.1 nn.2
  have ok := V_ln vw j1 a
  have s3 := SetOK_3 ok
  have hw := V_by vw
  apply q_M_changeSet
  rw [wI_id (z := (k : Int)) (by omega) (by omega), show (k : Int).toNat = k by omega, e42]
  refine ⟨by omega, M_rowW vw hE h1 wp.1 kp0 kp2 arr (fun b rm k4 ob => ⟨by omega, ?_⟩)⟩
  rw [ob 43 (by decide) (by decide), e43]
  refine M_entryAt wp.2.1.1 (by omega) ?_
  have ea0 : ea (b 39) (t 3 jj) = ha (t 1 jj) := by rw [cl.2.2.1]; exact ea_cg rm.2.2 wp.2.1.1 (by omega)
  rw [ea0, k4 4 (by decide)]
  refine M_put_36 (n := 4) (by rw [ob 36 (by decide) (by decide)]; exact h6) (by omega) (by omega) (by omega) (by unfold wI; omega) (fun c c6 cu oc => ?_)
  rw [ob 36 (by decide) (by decide)] at cu
  have cW : E (ub (c 36)) (wb w (ha (t 1 jj) + 12) 4 (h 34 4)) := by
    rw [cu, wb4_mod (w := h 34 4) (by unfold wI; omega)]
    exact E_wb hW _ _ _
  refine M_entryAt (e := t 3 jj + 1) (by omega) (by omega) ?_
  have ea1 : ea (c 39) (t 3 jj + 1) = ha (t 1 jj) + 32 := by
    rw [ea_s wp.2.1.1 wp.2.1.2, oc 39 (by decide), ea0]
  rw [ea1]
  have z4 := u4_z hw (show 0 ≤ ha (t 1 jj) + 44 by omega) (show ha (t 1 jj) + 44 + 3 < 13824 by omega) ok.2.2.1.2.2.2.1
  have z6 := u4_z hw (show 0 ≤ ha (t 1 jj) + 60 by omega) (show ha (t 1 jj) + 60 + 3 < 13824 by omega) ok.2.2.1.2.2.1
  refine M_wantStream c6 cW wa.1 wa.2.1 (fun x p q => by rw [rd_wb_ne (by omega) (by omega) (by omega)]; exact z4 x p (by omega)) (fun x p q => by rw [rd_wb_ne (by omega) (by omega) (by omega)]; exact z6 x p (by omega)) r01 l0 f0 (fun d d6 dW od => ?_)
  rw [sst_comm wa.1] at dW
  rw [od 44 (by decide), oc 44 (by decide), ob 44 (by decide) (by decide), e44]
  refine ⟨by omega, ?_⟩
  have e1 : rd (wb (sst w (ha (t 1 jj)) rn fs ln) (ha (t 1 jj) + 12) 4 (h 34 4)) (ha (t 1 jj) + 1) = rd w (ha (t 1 jj) + 1) := by
    rw [rd_wb_ne (by omega) (by omega) (by omega)]
    unfold sst
    rw [rd_wb_ne (by omega) (by omega) (by omega), rd_wb_ne (by omega) (by omega) (by omega), rd_wb_ne (by omega) (by omega) (by omega), rd_wb_ne (by omega) (by omega) (by omega)]
  have ms := M_seal (G := G) (P := P) (h := d) (w := wb (sst w (ha (t 1 jj)) rn fs ln) (ha (t 1 jj) + 12) 4 (h 34 4)) (r := R (pt t jj)) (e := t 3 jj) (m := (1 + rd w (ha (t 1 jj) + 1)).toNat) (K := Kt t (pt t jj)) d6 dW (fun i hi => by rw [od 39 (by decide), oc 39 (by decide)]; exact rm.2.2 i hi) (fun i hi => by have := (vw.1.2.1 _ wp.1 i hi).1; unfold clu at this; omega) wp.2.1.1 wp.2.1.2 (by omega) (by omega) (by omega) (by rw [← cl.2.2.1, e1]; omega) (fun e' e6 eW oe => ?_)
  · rw [show (((1 + rd w (ha (t 1 jj) + 1)).toNat : Nat) : Int) = 1 + rd w (ha (t 1 jj) + 1) by omega] at ms
    exact ms
  · rw [← cl.2.2.1] at eW
    exact H e' e6 eW (fun k' p => by rw [oe 34 (by decide), od 34 (by decide), oc 34 (by decide)]; exact k4 k' p) (fun o p q r => by rw [oe o q, od o q, oc o q]; exact ob o p r)
end PLAN
