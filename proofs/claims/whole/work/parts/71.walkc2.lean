/-! the walk: the class, a SET and a DIRECTORY -/
section CR2
variable {f : Nat → Int} {md : Int} {s h h' : AH}
theorem CR_edt (C : CR f md s h) {w : Nat → Int} {m : Int} (d : Dk h') (a : h' 3 = w) (b : h' 24 = h 24) (c : h' 25 = h 25) (e : h' 17 11 = h 17 11) (e2 : h' 17 12 = h 17 12) (e3 : h' 17 13 = m) : CR f md (edt s w m) h' := by
  obtain ⟨c1, c2, c3, c4, c5, c6, c7⟩ := C
  have dd : ∀ j, dc f (edt s w m) j = dc f s j := fun j => dc_congr (fun i _ => rfl)
  refine ⟨d, a, by rw [b]; exact c3, ?_, by rw [e2]; exact c5, ?_, fun j hj hd => ?_⟩
  · rw [e3]
    show m = st (s 6) 0 m 0
    rw [st_s]
  · rw [dd, e]
    exact c6
  · rw [dd, c]
    exact c7 j hj hd
theorem CR_acc (C : CR f md s h) {w t : Nat → Int} {K : Nat} {P k e m : Int} (N1 : 1 ≤ s 1 0) (hP : 0 < P) (d : Dk h') (a : h' 3 = w) (mt : Mt (h' 24) (fun x => s 0 x.toNat ≠ -1 ∨ ∃ j, j < K ∧ t j = x)) (e2 : h' 17 12 = h 17 12) (e3 : h' 17 13 = m) (q : (¬ isD f (ha P) ∧ h' 17 11 = h 17 11 ∧ h' 25 = h 25) ∨ (isD f (ha P) ∧ h' 17 11 = h 17 11 + 1 ∧ h' 25 = st (h 25) (h 17 11).toNat P)) : CR f md (acc s K t P k e w m) h' := by
  obtain ⟨c1, c2, c3, c4, c5, c6, c7⟩ := C
  have o2 : ∀ i : Nat, (i : Int) < s 1 0 → acc s K t P k e w m 2 i = s 2 i := fun i hi => acc_w2 hi
  have dd : ∀ j : Nat, (j : Int) ≤ s 1 0 → dc f (acc s K t P k e w m) j = dc f s j := fun j hj => dc_congr (fun i hi => o2 i (by omega))
  have eN : (acc s K t P k e w m 1 0).toNat = (s 1 0).toNat + 1 := by rw [acc_1]; omega
  have dN : dirJ f (acc s K t P k e w m) (s 1 0).toNat ↔ isD f (ha P) := by
    unfold dirJ
    rw [acc_2, st_s]
    refine ⟨fun z => ?_, fun z => Or.inr z⟩
    rcases z with z | z
    · omega
    · exact z
  have dj : ∀ j : Nat, (j : Int) < s 1 0 → (dirJ f (acc s K t P k e w m) j ↔ dirJ f s j) := fun j hj => by unfold dirJ; rw [o2 j hj]
  refine ⟨d, by rw [acc_5]; exact a, ?_, by rw [acc_6]; exact e3, by rw [e2]; exact c5, ?_, fun j hj hd => ?_⟩
  · rw [acc_0]
    refine Mt_congr mt (fun x x0 x1 => ?_)
    by_cases z : ∃ i, i < K ∧ t i = ((x.toNat : Nat) : Int)
    · rw [owr_y z]
      rw [show ((x.toNat : Nat) : Int) = x by omega] at z
      exact ⟨fun _ => by omega, fun _ => Or.inr z⟩
    · rw [owr_n z]
      rw [show ((x.toNat : Nat) : Int) = x by omega] at z
      exact ⟨fun y => y.elim id (fun y => absurd y z), fun y => Or.inl y⟩
  · rw [eN]
    rcases q with ⟨q1, q2, _⟩ | ⟨q1, q2, _⟩
    · rw [dc_n (fun z => q1 (dN.mp z)), dd _ (by omega), q2]
      exact c6
    · rw [dc_y (dN.mpr q1), dd _ (by omega), q2, c6]
      omega
  · rw [acc_1] at hj
    by_cases z : (j : Int) < s 1 0
    · rw [dd j (by omega), o2 j z, ← c7 j z ((dj j z).mp hd)]
      rcases q with ⟨q1, _, q2⟩ | ⟨q1, _, q2⟩
      · rw [q2]
      · rw [q2]
        have := dc_lt (j := (s 1 0).toNat) ((dj j z).mp hd) (by omega)
        exact st_n _ _ (by omega)
    · have ej : j = (s 1 0).toNat := (by omega)
      subst ej
      rw [dd _ (by omega), acc_2, st_s]
      rcases q with ⟨q1, _, q2⟩ | ⟨q1, _, q2⟩
      · exact absurd (dN.mp hd) q1
      · rw [q2, c6, show (((dc f s (s 1 0).toNat : Nat) : Int)).toNat = dc f s (s 1 0).toNat by omega, st_s]
end CR2
section WE
variable {G : GG} {h : AH} {f g : Nat → Int} {n root : Int} {K0 : Nat} {md : Int} {s : AH} {k : Nat} {e : Int}
/-- the FAULT told by what is wanted and by what is there -/
theorem FC_same (S : SI f g n root K0 md s k e) {P : Int} (p0 : P ≠ 0) (sm : ∀ i, i ≤ rkP f K0 P → tc (s 5) (bR f P) (u4 f (ha P + 52)) i = tc f (bR f P) (u4 f (ha P + 52)) i) {F : Int} : FCA (∃ i, i < rkP f K0 P ∧ ¬ clu n (tc (s 5) (bR f P) (u4 f (ha P + 52)) i)) (bR f P = 0 ∧ 0 < rkP f K0 P ∧ tc (s 5) (bR f P) (u4 f (ha P + 52)) (rkP f K0 P) ≠ 4294967295) (∃ i, i < rkP f K0 P ∧ s 0 (tc (s 5) (bR f P) (u4 f (ha P + 52)) i).toNat ≠ -1) (∃ i i', i < i' ∧ i' < rkP f K0 P ∧ tc (s 5) (bR f P) (u4 f (ha P + 52)) i = tc (s 5) (bR f P) (u4 f (ha P + 52)) i') (lik f g root s k e) md F ↔ FC f g n root K0 md s k e P F := by
  have er : rwP f root P = tc f (bR f P) (u4 f (ha P + 52)) := by unfold rwP; rw [if_neg p0]
  have eB : (∃ i, i < rkP f K0 P ∧ ¬ clu n (tc (s 5) (bR f P) (u4 f (ha P + 52)) i)) = brk f n root K0 P := by
    unfold brk
    rw [er]
    exact propext ⟨fun ⟨i, a, b⟩ => ⟨i, a, by rw [← sm i (by omega)]; exact b⟩, fun ⟨i, a, b⟩ => ⟨i, a, by rw [sm i (by omega)]; exact b⟩⟩
  have eO : (bR f P = 0 ∧ 0 < rkP f K0 P ∧ tc (s 5) (bR f P) (u4 f (ha P + 52)) (rkP f K0 P) ≠ 4294967295) = opn f root K0 P := by
    unfold opn
    rw [er, sm _ (Nat.le_refl _)]
  have eM : (∃ i, i < rkP f K0 P ∧ s 0 (tc (s 5) (bR f P) (u4 f (ha P + 52)) i).toNat ≠ -1) = mtd f root K0 s P := by
    unfold mtd
    rw [er]
    exact propext ⟨fun ⟨i, a, b⟩ => ⟨i, a, by rw [← sm i (by omega)]; exact b⟩, fun ⟨i, a, b⟩ => ⟨i, a, by rw [sm i (by omega)]; exact b⟩⟩
  have eD : (∃ i i', i < i' ∧ i' < rkP f K0 P ∧ tc (s 5) (bR f P) (u4 f (ha P + 52)) i = tc (s 5) (bR f P) (u4 f (ha P + 52)) i') = dup f root K0 P := by
    unfold dup
    rw [er]
    exact propext ⟨fun ⟨i, i', a, b, c⟩ => ⟨i, i', a, b, by rw [← sm i (by omega), ← sm i' (by omega)]; exact c⟩, fun ⟨i, i', a, b, c⟩ => ⟨i, i', a, b, by rw [sm i (by omega), sm i' (by omega)]; exact c⟩⟩
  rw [eB, eO, eM, eD]
  exact Iff.rfl
theorem FC_free {P : Int} (p0 : P ≠ 0) (x : FC f g n root K0 md s k e P 0) : ∀ i, i < rkP f K0 P → clu n (tc f (bR f P) (u4 f (ha P + 52)) i) ∧ s 0 (tc f (bR f P) (u4 f (ha P + 52)) i).toNat = -1 := by
  have er : rwP f root P = tc f (bR f P) (u4 f (ha P + 52)) := by unfold rwP; rw [if_neg p0]
  have z := FCA_0 x
  intro i hi
  refine ⟨Classical.not_not.mp (fun q => z.1 ⟨i, hi, by rw [er]; exact q⟩), Classical.not_not.mp (fun q => z.2.2.1 ⟨i, hi, by rw [er]; exact q⟩)⟩
theorem MS_tail {Q : Int → AH → Prop} {P c m kk x9 : Int} {t tf w : Nat → Int} {K : Nat} {b3 : AH} (hx : x9 = ha P) (C : CR f md s h) (N1 : 1 ≤ s 1 0) (hP : 0 < P) (a0 : 0 ≤ ha P) (a1 : ha P + 64 ≤ 13824) (dk : Dk b3) (e3' : b3 3 = w) (u4' : u2 w (ha P + 4) = u2 f (ha P + 4)) (att : At (u2 f (ha P + 4))) (r20 : Ro b3 20 21 K t) (vr : ∀ i, i < K → 0 ≤ t i ∧ t i ≤ 101) (sm : ∀ i, i < K → t i = tf i) (q1 : 0 ≤ h 17 11 ∧ h 17 11 < 102) (o24 : b3 24 = h 24) (o25 : b3 25 = h 25) (k17 : ∀ j, j ≠ 13 → b3 17 j = h 17 j) (m3 : b3 17 13 = m) (FM3 : FM md h b3) (H1 : ∀ b4, CR f md (acc s K tf P kk e w m) b4 → FM md h b4 → Q c b4) : Go G (pI Q) 47 198 [some (vR 17), none, some (vI x9), none, some (vI c), none, none, some (vI 0)] [] b3 := by
  rw [hx]
  have mtf : ∀ (a : Nat → Int), Mt a (fun x => s 0 x.toNat ≠ -1 ∨ ∃ j, j < K ∧ t j = x) → Mt a (fun x => s 0 x.toNat ≠ -1 ∨ ∃ j, j < K ∧ tf j = x) := fun a ma => Mt_congr ma (fun x _ _ => ⟨fun y => y.elim Or.inl (fun ⟨j, j1, j2⟩ => Or.inr ⟨j, j1, by rw [← sm j j1]; exact j2⟩), fun y => y.elim Or.inl (fun ⟨j, j1, j2⟩ => Or.inr ⟨j, j1, by rw [sm j j1]; exact j2⟩)⟩)
  refine H_meets (M := fun x => s 0 x.toNat ≠ -1) dk.2.1 r20 vr (by rw [o24]; exact C.2.2.1) a0 a1 (by omega) (by rw [e3', u4']; exact att) (by rw [k17 11 (by decide)]; exact q1) (fun b4 nd m4 o4 => ?_) (fun b4 nd m4 j1 j2 j3 o4 => ?_)
  · have nd' : ¬ isD f (ha P) := by unfold isD at nd ⊢; rw [← u4', ← e3']; exact nd
    refine H1 b4 (CR_acc C N1 hP (Dk_congr (o4 2 (by decide)) (o4 3 (by decide)) (o4 4 (by decide)) dk) ((o4 3 (by decide)).trans e3') (mtf _ m4) ?_ ?_ (Or.inl ⟨nd', ?_, ?_⟩)) (FM3.tr ⟨fun o p => o4 o (by omega), fun _ _ => by rw [o4 17 (by decide)], fun _ => o4 4 (by decide)⟩)
    · rw [o4 17 (by decide)]; exact k17 12 (by decide)
    · rw [o4 17 (by decide)]; exact m3
    · rw [o4 17 (by decide)]; exact k17 11 (by decide)
    · rw [o4 25 (by decide)]; exact o25
  · have nd' : isD f (ha P) := by unfold isD at nd ⊢; rw [← u4', ← e3']; exact nd
    refine H1 b4 (CR_acc C N1 hP (Dk_congr (o4 2 (by decide) (by decide) (by decide)) (o4 3 (by decide) (by decide) (by decide)) (o4 4 (by decide) (by decide) (by decide)) dk) ((o4 3 (by decide) (by decide) (by decide)).trans e3') (mtf _ m4) ?_ ?_ (Or.inr ⟨nd', ?_, ?_⟩)) (FM3.tr ⟨fun o p => o4 o (by omega) (by omega) (by omega), fun j p => j2 j (by omega), fun _ => o4 4 (by decide) (by decide) (by decide)⟩)
    · rw [j2 12 (by decide)]; exact k17 12 (by decide)
    · rw [j2 13 (by decide)]; exact m3
    · rw [j1, k17 11 (by decide)]
    · rw [j3, o25, k17 11 (by decide)]
theorem FM_17 {h h' : AH} (a4 : ∀ k, k ≠ 15 → k ≠ 16 → k ≠ 17 → h' 17 k = h 17 k) (a5 : ∀ o, o ≠ 17 → h' o = h o) : FM0 md h h' := ⟨fun o p => a5 o (by omega), fun j p => a4 j (by omega) (by omega) (by omega), fun _ => a5 4 (by decide)⟩
theorem FM_of {h h' : AH} (a : ∀ o, ¬ (20 ≤ o ∧ o ≤ 23) → h' o = h o) : FM md h h' := ⟨fun o p => a o (by omega), fun _ _ => by rw [a 17 (by decide)], fun _ => a 4 (by decide)⟩
set_option maxHeartbeats 1000000 in
theorem H_meetSet {Q : Int → AH → Prop} (hf : By f) (S : SI f g n root K0 md s k e) (X : CX g n root md h) (C : CR f md s h) (ro : Ro h 18 19 (rkJ f K0 s k) (rwJ f root s k)) (hk : (k : Int) < s 1 0) (hd : dirJ f s k) (h0 : 0 ≤ e) (h1 : e < 4 * (rkJ f K0 s k : Int)) (ht : 128 ≤ rd f (ea (rwJ f root s k) e))
    (H0 : ∀ h' F, DN f g n root K0 md k e 0 s F → F ≠ 0 → h' 17 15 = F → h' 17 16 = rwJ f root s k (e / 4).toNat → h' 17 17 = e % 4 → h' 3 = h 3 → h' 4 = h 4 → FM0 md h h' → Q 0 h')
    (H1 : ∀ h' c s', 1 ≤ c → c ≤ 4 → DG f g n root K0 md k e 0 s (e + c) 0 s' → CR f md s' h' → FM md h h' → Q c h') : RunsI G 47 [vR 17, vI e] h Q := by
  obtain ⟨x1, x2, x3, x4, x5, x6⟩ := id X
  obtain ⟨c1, c2, c3, c4, c5, c6, c7⟩ := id C
  have bw : By (s 5) := S.2.2.2.2.2.2.2.2.1.2.1
  have rl := ro.2.1
  have re := SI_ear S x5.2 hk h0 h1
  have al := ea_al (rwJ f root s k) e
  have hty : rd (s 5) (ea (rwJ f root s k) e) = rd f (ea (rwJ f root s k) e) := SI_ty S hk hd h0 (Int.le_refl e) h1
  have bf := hf.rd (show 0 ≤ ea (rwJ f root s k) e by omega) (show ea (rwJ f root s k) e < 13824 by omega)
  have roN : ∀ {b : AH}, b 18 = h 18 → b 19 = h 19 → Ro b 18 19 (rkJ f K0 s k) (rwJ f root s k) := fun p q => by unfold Ro; rw [p, q]; exact ro
  have ent2 : ∀ {Q2 : Int → AH → Prop}, (∀ tl, (e + 2 < 4 * (rkJ f K0 s k : Int) → tl = ea (rwJ f root s k) (e + 2)) → Q2 tl h) → RunsI G 32 [vR 18, vI (e + 2)] h Q2 := by
    intro Q2 HQ
    by_cases c : e + 2 < 4 * (rkJ f K0 s k : Int)
    · exact C_entry_18 ro (by omega) c (HQ _ (fun _ => rfl))
    · exact C_entry0_18 ro (by omega) (by omega) (by omega) (HQ _ (fun z => absurd z c))
  have strike5 : ∀ b : AH, (∀ o, o ≠ 22 → o ≠ 23 → b o = h o) → ¬ (e % 2 = 0 ∧ SetOK f g n (ea (rwJ f root s k) e) (ea (rwJ f root s k) (e + 2)) (4 * (rkJ f K0 s k : Int) - e)) → RunsI G 46 [vR 17, vI e, vI 5] b (fun r3 h3 => ((wI r3 = 0 → Q 0 h3) ∧ (¬ wI r3 = 0 → RunsV G 108 [vR 10, vI (ea (rwJ f root s k) e)] h3 (fun h4 => Q 1 h4)))) := by
    intro b ob no
    have fb : FM md h b := FM.o (x := 22) (y := 23) ob (by omega) (by omega)
    have e17 : b 17 = h 17 := ob 17 (by decide) (by decide)
    refine H_strike (roN (ob 18 (by decide) (by decide)) (ob 19 (by decide) (by decide))) h0 h1 (fun m h' a1 a2 a3 a4 a5 => ?_) (fun m => ?_) (by rw [e17, c5]; exact x6)
    · rw [e17, c5] at m
      refine ⟨fun _ => H0 h' 5 ⟨h1, S, m, Or.inr ⟨rfl, ht, Or.inl ⟨no, rfl⟩⟩⟩ (by decide) a1 a2 a3 ?_ ?_ (fb.w.tr (FM_17 a4 a5)), fun z => absurd wI_0 z⟩
      · rw [a5 3 (by decide)]; exact ob 3 (by decide) (by decide)
      · rw [a5 4 (by decide)]; exact ob 4 (by decide) (by decide)
    · rw [e17, c5] at m
      refine ⟨fun z => absurd z (by decide), fun _ => ?_⟩
      have d2 : Dk (hs b 17 13 (b 17 13 + 1)) := Dk_congr (hs_o _ _ _ _ _ (by decide)) (hs_o _ _ _ _ _ (by decide)) (hs_o _ _ _ _ _ (by decide)) (Dk_congr (ob 2 (by decide) (by decide)) (ob 3 (by decide) (by decide)) (ob 4 (by decide) (by decide)) c1)
      have e3 : (hs b 17 13 (b 17 13 + 1)) 3 = s 5 := by rw [hs_o _ _ _ _ _ (by decide), ob 3 (by decide) (by decide)]; exact c2
      refine E_unuseEntry d2 (by omega) (by omega) (by rw [e3, hty]; exact ht) (fun h' u => ?_)
      rw [e3, hty] at u
      have o17 : ∀ j, j ≠ 13 → h' 17 j = h 17 j := fun j hj => by rw [u.2.2 17 (by decide) (by decide), hs_k _ _ _ _ _ hj, e17]
      refine H1 h' 1 (edt s (wb (s 5) (ea (rwJ f root s k) e) 1 (un (rd f (ea (rwJ f root s k) e)))) (s 6 0 + 1)) (by omega) (by omega) ⟨h1, S, Or.inr (Or.inr ⟨rfl, ht, rfl, Or.inl ⟨no, m, rfl, rfl⟩⟩)⟩ (CR_edt C u.1 u.2.1 ?_ ?_ (o17 11 (by decide)) (o17 12 (by decide)) ?_) ((fb.tr (FM.k (by omega))).tr (FM.u u m))
      · rw [u.2.2 24 (by decide) (by decide), hs_o _ _ _ _ _ (by decide)]; exact ob 24 (by decide) (by decide)
      · rw [u.2.2 25 (by decide) (by decide), hs_o _ _ _ _ _ (by decide)]; exact ob 25 (by decide) (by decide)
      · rw [u.2.2 17 (by decide) (by decide), hs_same, e17, c4]
  apply q_H_meetSet
  refine C_entry_18 ro h0 h1 (ent2 (fun tl htl => ⟨by decide, ?_⟩))
  rw [wI_id (z := e) (by omega) (by omega), tmod_pos h0, wI_id (z := e % 2) (by omega) (by omega)]
  refine ⟨fun ev => ?_, fun ev => strike5 h (fun _ _ _ => rfl) (fun z => ev z.1)⟩
  have re1 := SI_ear S x5.2 hk (q := e + 1) (by omega) (by omega)
  rw [ea_s h0 ev] at re1
  have two := SI_two S x5.2 hk hd h0 (Int.le_refl e) h1 ev
  have sets := SI_set S x5.2 hk hd h0 h1 ev htl
  apply q_C_places_18
  rw [ro.1, x1]
  refine E_isRight (by rw [c2]; exact bw) (by omega) (by omega) (by omega) (fun r3 => ?_) x5 (by rw [x3]; exact x4) (fun b ok nm1 nm2 ob => ?_) (fun b ok ob => ⟨fun _ => strike5 b ob (fun z => ok (by rw [c2, x3]; exact sets.mpr z.2)), fun z => absurd wI_0 z⟩)
  · have t2 : e + 2 < 4 * (rkJ f K0 s k : Int) := (by omega)
    rw [htl t2]
    have r2 := SI_ear S x5.2 hk (q := e + 2) (by omega) (by omega)
    have r3 := SI_ear S x5.2 hk (q := e + 2 + 1) (by omega) (by omega)
    rw [ea_s (q := e + 2) (by omega) (by omega)] at r3
    omega
  rw [c2, x3] at ok
  have okf := sets.mp ok
  have s3 := SetOK_3 okf
  have t2 : e + 2 + 1 < 4 * (rkJ f K0 s k : Int) := (by omega)
  have etl := htl (by omega)
  subst etl
  have r2 := SI_ear S x5.2 hk (q := e + 2) (by omega) (by omega)
  have r3 := SI_ear S x5.2 hk (q := e + 2 + 1) (by omega) (by omega)
  have e23 : ea (rwJ f root s k) (e + 2 + 1) = ea (rwJ f root s k) (e + 2) + 32 := ea_s (by omega) (by omega)
  rw [e23] at r3
  have two2 := SI_two S x5.2 hk hd (q := e + 2) (by omega) (by omega) (by omega) (by omega)
  have e3 : b 3 = s 5 := (ob 3 (by decide) (by decide)).trans c2
  have hbb : By (b 3) := by rw [e3]; exact bw
  have hPa : ea (rwJ f root s k) e = ha (4 * rwJ f root s k (e / 4).toNat + e % 4) := ha_ea
  have clP : clu n ((4 * rwJ f root s k (e / 4).toNat + e % 4) / 4) := by
    rw [show (4 * rwJ f root s k (e / 4).toNat + e % 4) / 4 = rwJ f root s k (e / 4).toNat by omega]
    exact SI_row S hk h0 h1
  have rP := ha_rng clP x5.2
  have p0 : (4 * rwJ f root s k (e / 4).toNat + e % 4) ≠ 0 := by omega
  have q52 : u4 (s 5) (ea (rwJ f root s k) e + 52) = u4 f (ha (4 * rwJ f root s k (e / 4).toNat + e % 4) + 52) := by rw [← hPa]; exact u4_cg (fun j _ _ => two _ (by omega) (by omega))
  have q56 : u4 (s 5) (ea (rwJ f root s k) e + 56) = u4 f (ha (4 * rwJ f root s k (e / 4).toNat + e % 4) + 56) := by rw [← hPa]; exact u4_cg (fun j _ _ => two _ (by omega) (by omega))
  have qR : (if rd (s 5) (ea (rwJ f root s k) e + 33) = 3 then (1 : Int) else 0) = bR f (4 * rwJ f root s k (e / 4).toNat + e % 4) := by unfold bR; rw [← hPa, two _ (by omega) (by omega)]
  have qK : ((u4 f (ha (4 * rwJ f root s k (e / 4).toNat + e % 4) + 56) + 127) / 128).toNat = rkP f K0 (4 * rwJ f root s k (e / 4).toNat + e % 4) := by unfold rkP; rw [if_neg p0]
  have l56 : u4 f (ha (4 * rwJ f root s k (e / 4).toNat + e % 4) + 56) ≤ 128 * n := by rw [← hPa]; exact okf.2.2.1.1
  have u52 := u4_rng hf (show 0 ≤ ha (4 * rwJ f root s k (e / 4).toNat + e % 4) + 52 by omega) (show ha (4 * rwJ f root s k (e / 4).toNat + e % 4) + 52 + 3 < 13824 by omega)
  have u56 := u4_rng hf (show 0 ≤ ha (4 * rwJ f root s k (e / 4).toNat + e % 4) + 56 by omega) (show ha (4 * rwJ f root s k (e / 4).toNat + e % 4) + 56 + 3 < 13824 by omega)
  have kP : rkP f K0 (4 * rwJ f root s k (e / 4).toNat + e % 4) ≤ 101 := by rw [← qK]; omega
  have bR01 : bR f (4 * rwJ f root s k (e / 4).toNat + e % 4) = 0 ∨ bR f (4 * rwJ f root s k (e / 4).toNat + e % 4) = 1 := by
    unfold bR
    split
    · exact Or.inr rfl
    · exact Or.inl rfl
  have eF1 : rd (s 5) (ea (rwJ f root s k) e + 1) = rd f (ea (rwJ f root s k) e + 1) := two _ (by omega) (by omega)
  have f35 : rd (s 5) (ea (rwJ f root s k) e + 35) = rd f (ea (rwJ f root s k) e + 35) := two _ (by omega) (by omega)
  have le30 : rd f (ea (rwJ f root s k) e + 35) ≤ 30 := okf.2.2.2.1.1
  refine ⟨fun z => absurd z (by decide), fun _ => ?_⟩
  refine E_entries (by omega) (by omega) (E_first hbb (by omega) (by omega) (E_runB hbb (by omega) (by omega) (E_clusters hbb (by omega) (by omega) (by rw [e3, q56]; omega) ?_)))
  rw [e3, q52, qR, q56, qK, eF1]
  generalize eR : rwP f root (4 * rwJ f root s k (e / 4).toNat + e % 4) = tf
  have eT : tf = tc f (bR f (4 * rwJ f root s k (e / 4).toNat + e % 4)) (u4 f (ha (4 * rwJ f root s k (e / 4).toNat + e % 4) + 52)) := by rw [← eR]; unfold rwP; rw [if_neg p0]
  have nmL : ∀ i : Nat, (i : Int) < rd f (ea (rwJ f root s k) e + 35) → lt (s 5) (ea (rwJ f root s k) (e + 2)) i = lt f (ea (rwJ f root s k) (e + 2)) i := fun i hi => by
    have := la_rng (tl := ea (rwJ f root s k) (e + 2)) (i := (i : Int)) (by omega) (by omega)
    exact u2_cg (two2 _ (by omega) (by omega)) (two2 _ (by omega) (by omega))
  have cl101 : ∀ x, clu n x → 0 ≤ x ∧ x ≤ 101 := fun x hx => by unfold clu at hx; omega
  have N1 := S.1.1
  have q1 : 0 ≤ h 17 11 ∧ h 17 11 < 102 := by
    have := SI_N S (by omega)
    have := dc_le (f := f) (s := s) (s 1 0).toNat
    omega
  have Ppos : 0 < (4 * rwJ f root s k (e / 4).toNat + e % 4) := (by omega)
  have hP0 : 0 ≤ ha (4 * rwJ f root s k (e / 4).toNat + e % 4) := (by omega)
  have hP64 : ha (4 * rwJ f root s k (e / 4).toNat + e % 4) + 64 ≤ 13824 := (by omega)
  have cc : 1 ≤ 1 + rd f (ea (rwJ f root s k) e + 1) ∧ 1 + rd f (ea (rwJ f root s k) e + 1) ≤ 4 := (by omega)
  have att : At (u2 f (ha (4 * rwJ f root s k (e / 4).toNat + e % 4) + 4)) := by rw [← hPa]; exact okf.1.2.2.1
  have eU2 : u2 (s 5) (ha (4 * rwJ f root s k (e / 4).toNat + e % 4) + 4) = u2 f (ha (4 * rwJ f root s k (e / 4).toNat + e % 4) + 4) := by rw [← hPa]; exact u2_cg (two _ (by omega) (by omega)) (two _ (by omega) (by omega))
  have v0 := two (ea (rwJ f root s k) e) (by omega) (by omega)
  have v32 := two (ea (rwJ f root s k) e + 32) (by omega) (by omega)
  have w0 := two2 (ea (rwJ f root s k) (e + 2)) (by omega) (by omega)
  have w32 := two2 (ea (rwJ f root s k) (e + 2) + 32) (by omega) (by omega)
  have nee := SI_ea S hk hk (q := e) (q' := e + 2) h0 h1 (by omega) (by omega) (by omega)
  have al2 := ea_al (rwJ f root s k) (e + 2)
  have nee1 := SI_ea S hk hk (q := e + 1) (q' := e + 2) (by omega) (by omega) (by omega) (by omega) (by omega)
  have nee2 := SI_ea S hk hk (q := e) (q' := e + 2 + 1) h0 h1 (by omega) (by omega) (by omega)
  rw [ea_s h0 ev] at nee1
  rw [e23] at nee2
  have un1 : 0 ≤ ea (rwJ f root s k) e := (by omega)
  have un2 : ea (rwJ f root s k) e + 64 ≤ 13824 := (by omega)
  have un3 : 0 ≤ ea (rwJ f root s k) (e + 2) := (by omega)
  have un4 : ea (rwJ f root s k) (e + 2) + 64 ≤ 13824 := (by omega)
  have un5 : 128 ≤ rd f (ea (rwJ f root s k) e) := ht
  have un6 : 128 ≤ rd f (ea (rwJ f root s k) e + 32) := by rw [s3.2.2.2.1]; decide
  have un7 : 128 ≤ rd f (ea (rwJ f root s k) (e + 2)) := by rw [s3.2.2.2.2.1]; decide
  have un9 : ea (rwJ f root s k) e + 64 ≤ ea (rwJ f root s k) (e + 2) ∨ ea (rwJ f root s k) (e + 2) + 64 ≤ ea (rwJ f root s k) e := (by omega)
  have eu : (if rd f (ea (rwJ f root s k) e + 1) = 3 then wb (wb (wb (wb (s 5) (ea (rwJ f root s k) e) 1 (un (rd f (ea (rwJ f root s k) e)))) (ea (rwJ f root s k) e + 32) 1 (un (rd f (ea (rwJ f root s k) e + 32)))) (ea (rwJ f root s k) (e + 2)) 1 (un (rd f (ea (rwJ f root s k) (e + 2))))) (ea (rwJ f root s k) (e + 2) + 32) 1 (un (rd f (ea (rwJ f root s k) (e + 2) + 32))) else wb (wb (wb (s 5) (ea (rwJ f root s k) e) 1 (un (rd f (ea (rwJ f root s k) e)))) (ea (rwJ f root s k) e + 32) 1 (un (rd f (ea (rwJ f root s k) e + 32)))) (ea (rwJ f root s k) (e + 2)) 1 (un (rd f (ea (rwJ f root s k) (e + 2))))) = uns (s 5) f (rwJ f root s k) e (1 + rd f (ea (rwJ f root s k) e + 1)).toNat := by
    have i0 : ea (rwJ f root s k) (e + ((0 : Nat) : Int)) = ea (rwJ f root s k) e := by rw [show e + ((0 : Nat) : Int) = e by omega]
    have i1 : ea (rwJ f root s k) (e + ((1 : Nat) : Int)) = ea (rwJ f root s k) e + 32 := ea_s h0 ev
    have i2 : ea (rwJ f root s k) (e + ((2 : Nat) : Int)) = ea (rwJ f root s k) (e + 2) := rfl
    have i3 : ea (rwJ f root s k) (e + ((3 : Nat) : Int)) = ea (rwJ f root s k) (e + 2) + 32 := by rw [← e23, show e + ((3 : Nat) : Int) = e + 2 + 1 by omega]
    rcases s3.1 with q | q
    · rw [if_neg (by omega), q, show ((1 : Int) + 2).toNat = 3 from rfl]
      simp only [uns, i0, i1, i2]
    · rw [if_pos q, q, show ((1 : Int) + 3).toNat = 4 from rfl]
      simp only [uns, i0, i1, i2, i3]
  have fin : ∀ (b2 : AH) (st' : Int), (∀ o, o ≠ 20 → o ≠ 21 → b2 o = b o) → ((st' = 1 ∧ ∃ i, i < rkP f K0 (4 * rwJ f root s k (e / 4).toNat + e % 4) ∧ ¬ clu n (tc (s 5) (bR f (4 * rwJ f root s k (e / 4).toNat + e % 4)) (u4 f (ha (4 * rwJ f root s k (e / 4).toNat + e % 4) + 52)) i)) ∨ (¬ (∃ i, i < rkP f K0 (4 * rwJ f root s k (e / 4).toNat + e % 4) ∧ ¬ clu n (tc (s 5) (bR f (4 * rwJ f root s k (e / 4).toNat + e % 4)) (u4 f (ha (4 * rwJ f root s k (e / 4).toNat + e % 4) + 52)) i)) ∧ Ro b2 20 21 (rkP f K0 (4 * rwJ f root s k (e / 4).toNat + e % 4)) (tc (s 5) (bR f (4 * rwJ f root s k (e / 4).toNat + e % 4)) (u4 f (ha (4 * rwJ f root s k (e / 4).toNat + e % 4) + 52))) ∧ (∀ i, i < rkP f K0 (4 * rwJ f root s k (e / 4).toNat + e % 4) → clu n (tc (s 5) (bR f (4 * rwJ f root s k (e / 4).toNat + e % 4)) (u4 f (ha (4 * rwJ f root s k (e / 4).toNat + e % 4) + 52)) i)) ∧ ((st' = 0 ∧ ¬ (bR f (4 * rwJ f root s k (e / 4).toNat + e % 4) = 0 ∧ 0 < rkP f K0 (4 * rwJ f root s k (e / 4).toNat + e % 4) ∧ tc (s 5) (bR f (4 * rwJ f root s k (e / 4).toNat + e % 4)) (u4 f (ha (4 * rwJ f root s k (e / 4).toNat + e % 4) + 52)) (rkP f K0 (4 * rwJ f root s k (e / 4).toNat + e % 4)) ≠ 4294967295)) ∨ (st' = 2 ∧ (bR f (4 * rwJ f root s k (e / 4).toNat + e % 4) = 0 ∧ 0 < rkP f K0 (4 * rwJ f root s k (e / 4).toNat + e % 4) ∧ tc (s 5) (bR f (4 * rwJ f root s k (e / 4).toNat + e % 4)) (u4 f (ha (4 * rwJ f root s k (e / 4).toNat + e % 4) + 52)) (rkP f K0 (4 * rwJ f root s k (e / 4).toNat + e % 4)) ≠ 4294967295))))) → RunsI G 48 [vR 17, vI e, vI st'] b2 (fun r12 h12 =>
      ((wI r12 = 0 →
        ((wI st' = (2 : Int) →
          RunsI G 27 [vR 20] (hs h12 17 13 ((h12 17 13) + 1)) (fun r13 h13 =>
          RunsV G 112 [vR 7, vI r13, vI (-1)] h13 (fun h14 =>
          Go G (pI Q) 47 198 [some (vR 17), none, some (vI (ea (rwJ f root s k) e)), none, some (vI (1 + rd f (ea (rwJ f root s k) e + 1))), none, none, some (vI 0)] [] h14))) ∧
          (¬ wI st' = (2 : Int) →
          Go G (pI Q) 47 198 [some (vR 17), none, some (vI (ea (rwJ f root s k) e)), none, some (vI (1 + rd f (ea (rwJ f root s k) e + 1))), none, none, some (vI 0)] [] h12))) ∧
        (¬ wI r12 = 0 →
        RunsI G 46 [vR 17, vI e, vI r12] h12 (fun r15 h15 =>
        ((wI r15 = 0 →
          Q 0 h15) ∧
          (¬ wI r15 = 0 →
          RunsV G 107 [vR 10, vI (ea (rwJ f root s k) e), vI (ea (rwJ f root s k) (e + 2))] h15 (fun h16 =>
          Q (1 + rd f (ea (rwJ f root s k) e + 1)) h16))))))) := by
    intro b2 st' ob2
    have fr : ∀ o, ¬ (20 ≤ o ∧ o ≤ 23) → b2 o = h o := fun o p => (ob2 o (by omega) (by omega)).trans (ob o (by omega) (by omega))
    have FM2 : FM md h b2 := FM_of fr
    have g17 : b2 17 = h 17 := fr 17 (by decide)
    have g3 : b2 3 = s 5 := (fr 3 (by decide)).trans c2
    have dk2 : Dk b2 := Dk_congr (fr 2 (by decide)) (fr 3 (by decide)) (fr 4 (by decide)) c1
    have d2 : Dk (hs b2 17 13 (b2 17 13 + 1)) := Dk_congr (hs_o _ _ _ _ _ (by decide)) (hs_o _ _ _ _ _ (by decide)) (hs_o _ _ _ _ _ (by decide)) dk2
    intro hst
    refine H_faultOf (K := rkP f K0 (4 * rwJ f root s k (e / 4).toNat + e % 4)) (t := tc (s 5) (bR f (4 * rwJ f root s k (e / 4).toNat + e % 4)) (u4 f (ha (4 * rwJ f root s k (e / 4).toNat + e % 4) + 52))) S (CX_congr (fr 7 (by decide)) (fr 9 (by decide)) X) g3 (by rw [fr 24 (by decide)]; exact c3) (by rw [g17]; exact c5) (roN (fr 18 (by decide)) (fr 19 (by decide))) hk h0 h1 ev okf ?_ (fun i hi => ?_) hst Iff.rfl Iff.rfl (fun F hF => ?_)
    · rw [ob2 22 (by decide) (by decide), nm1, c2, f35]
    · rw [ob2 23 (by decide) (by decide), nm2 i (by rw [c2, f35]; exact hi), c2]
      exact nmL i hi
    have rF := FCA_rng hF
    rw [wI_id (z := F) (Int.le_trans (by decide) rF.1) (Int.lt_of_le_of_lt rF.2 (by decide))]
    refine ⟨fun z => ?_, fun z => ?_⟩
    · subst z
      have zz := FCA_0 hF
      rcases hst with ⟨_, q⟩ | ⟨nb, ro2, cl, stt⟩
      · exact absurd q zz.1
      have free : ∀ i, i < rkP f K0 (4 * rwJ f root s k (e / 4).toNat + e % 4) → clu n (tc (s 5) (bR f (4 * rwJ f root s k (e / 4).toNat + e % 4)) (u4 f (ha (4 * rwJ f root s k (e / 4).toNat + e % 4) + 52)) i) ∧ s 0 (tc (s 5) (bR f (4 * rwJ f root s k (e / 4).toNat + e % 4)) (u4 f (ha (4 * rwJ f root s k (e / 4).toNat + e % 4) + 52)) i).toNat = -1 := fun i hi => ⟨cl i hi, Classical.not_not.mp (fun y => zz.2.2.1 ⟨i, hi, y⟩)⟩
      have sm := SI_free S x5.2 (b := bR f (4 * rwJ f root s k (e / 4).toNat + e % 4)) (x := u4 f (ha (4 * rwJ f root s k (e / 4).toNat + e % 4) + 52)) (K := rkP f K0 (4 * rwJ f root s k (e / 4).toNat + e % 4)) (Or.inr free)
      have hFC := (FC_same S p0 sm).mp hF
      have okO : (bR f (4 * rwJ f root s k (e / 4).toNat + e % 4) = 0 ∧ 0 < rkP f K0 (4 * rwJ f root s k (e / 4).toNat + e % 4) ∧ tc (s 5) (bR f (4 * rwJ f root s k (e / 4).toNat + e % 4)) (u4 f (ha (4 * rwJ f root s k (e / 4).toNat + e % 4) + 52)) (rkP f K0 (4 * rwJ f root s k (e / 4).toNat + e % 4)) ≠ 4294967295) ↔ opn f root K0 (4 * rwJ f root s k (e / 4).toNat + e % 4) := by
        unfold opn rwP
        rw [if_neg p0, sm _ (Nat.le_refl _)]
      have vr : ∀ i, i < rkP f K0 (4 * rwJ f root s k (e / 4).toNat + e % 4) → 0 ≤ tc (s 5) (bR f (4 * rwJ f root s k (e / 4).toNat + e % 4)) (u4 f (ha (4 * rwJ f root s k (e / 4).toNat + e % 4) + 52)) i ∧ tc (s 5) (bR f (4 * rwJ f root s k (e / 4).toNat + e % 4)) (u4 f (ha (4 * rwJ f root s k (e / 4).toNat + e % 4) + 52)) i ≤ 101 := fun i hi => cl101 _ (cl i hi)
      have sm' : ∀ i, i < rkP f K0 (4 * rwJ f root s k (e / 4).toNat + e % 4) → tc (s 5) (bR f (4 * rwJ f root s k (e / 4).toNat + e % 4)) (u4 f (ha (4 * rwJ f root s k (e / 4).toNat + e % 4) + 52)) i = tf i := fun i hi => by rw [eT]; exact sm i (Nat.le_of_lt hi)
      have DGz : ∀ (w : Nat → Int) (m : Int), (w = s 5 ∧ m = s 6 0 ∧ ¬ opn f root K0 (4 * rwJ f root s k (e / 4).toNat + e % 4) ∨ (w = wb (s 5) (512 + 4 * tf (rkP f K0 (4 * rwJ f root s k (e / 4).toNat + e % 4) - 1)) 4 4294967295 ∧ m = s 6 0 + 1 ∧ opn f root K0 (4 * rwJ f root s k (e / 4).toNat + e % 4))) → DG f g n root K0 md k e 0 s (e + (1 + rd f (ea (rwJ f root s k) e + 1))) 0 (acc s (rkP f K0 (4 * rwJ f root s k (e / 4).toNat + e % 4)) tf (4 * rwJ f root s k (e / 4).toNat + e % 4) k e w m) := fun w m wm => by
        subst eR
        refine ⟨h1, S, Or.inr (Or.inr ⟨rfl, ht, rfl, Or.inr ⟨ev, okf, rfl, 0, hFC, ?_⟩⟩)⟩
        rcases wm with ⟨w1, w2, w3⟩ | ⟨w1, w2, w3⟩
        · exact Or.inr (Or.inl ⟨rfl, w3, by rw [w1, w2]⟩)
        · exact Or.inr (Or.inr ⟨rfl, w3, by rw [w1, w2]⟩)
      refine ⟨fun y => ?_, fun y => ?_⟩
      · have hO : (bR f (4 * rwJ f root s k (e / 4).toNat + e % 4) = 0 ∧ 0 < rkP f K0 (4 * rwJ f root s k (e / 4).toNat + e % 4) ∧ tc (s 5) (bR f (4 * rwJ f root s k (e / 4).toNat + e % 4)) (u4 f (ha (4 * rwJ f root s k (e / 4).toNat + e % 4) + 52)) (rkP f K0 (4 * rwJ f root s k (e / 4).toNat + e % 4)) ≠ 4294967295) := by
          rcases stt with ⟨a, _⟩ | ⟨_, a⟩
          · rw [a] at y; exact absurd y (by decide)
          · exact a
        have hm : md = 1 := by
          rcases x6 with m | m
          · exact absurd ⟨hO, m⟩ zz.2.1
          · exact m
        have cl1 := cl (rkP f K0 (4 * rwJ f root s k (e / 4).toNat + e % 4) - 1) (Nat.sub_lt hO.2.1 (by decide))
        have sm1 := sm' (rkP f K0 (4 * rwJ f root s k (e / 4).toNat + e % 4) - 1) (Nat.sub_lt hO.2.1 (by decide))
        have K1 := hO.2.1
        have hO' := okO.mp hO
        clear stt zz hF nb free sm hFC cl hO y okO
        apply q_C_last_20
        have ro3 : Ro (hs b2 17 13 (b2 17 13 + 1)) 20 21 (rkP f K0 (4 * rwJ f root s k (e / 4).toNat + e % 4)) (tc (s 5) (bR f (4 * rwJ f root s k (e / 4).toNat + e % 4)) (u4 f (ha (4 * rwJ f root s k (e / 4).toNat + e % 4) + 52))) := by unfold Ro; rw [hs_o _ _ _ _ _ (by decide), hs_o _ _ _ _ _ (by decide)]; exact ro2
        rw [ro3.1]
        refine C_at_20 ro3 (by omega) (by omega) ?_
        rw [show ((rkP f K0 (4 * rwJ f root s k (e / 4).toNat + e % 4) : Int) - 1).toNat = rkP f K0 (4 * rwJ f root s k (e / 4).toNat + e % 4) - 1 by omega]
        have e7 : (hs b2 17 13 (b2 17 13 + 1)) 7 1 = n := by rw [hs_o _ _ _ _ _ (by decide), fr 7 (by decide)]; exact x1
        have cl1' := cl1
        unfold clu at cl1'
        refine S_setFat d2 (by rw [e7]; exact x5) (by rw [e7]; exact cl1) (fun b3 u => ?_)
        rw [hs_o _ _ _ _ _ (by decide), g3] at u
        have u20 : ∀ o, o ≠ 3 → o ≠ 4 → o ≠ 17 → b3 o = b2 o := fun o p q r => by rw [u.2.2 o p q]; exact hs_o _ _ _ _ _ r
        refine MS_tail (t := tc (s 5) (bR f (4 * rwJ f root s k (e / 4).toNat + e % 4)) (u4 f (ha (4 * rwJ f root s k (e / 4).toNat + e % 4) + 52))) (tf := tf) (w := wb (s 5) (512 + 4 * tc (s 5) (bR f (4 * rwJ f root s k (e / 4).toNat + e % 4)) (u4 f (ha (4 * rwJ f root s k (e / 4).toNat + e % 4) + 52)) (rkP f K0 (4 * rwJ f root s k (e / 4).toNat + e % 4) - 1)) 4 (-1)) (m := s 6 0 + 1) (kk := k) (e := e) hPa C N1 Ppos hP0 hP64 u.1 u.2.1 ?_ att ?_ vr sm' q1 ?_ ?_ (fun j hj => ?_) ?_ ((FM2.tr (FM.k (by decide))).tr (FM.u u hm)) (fun b4 C4 F4 => H1 b4 _ _ cc.1 cc.2 (DGz _ _ (Or.inr ⟨?_, rfl, hO'⟩)) C4 F4)
        · rw [← eU2]
          exact u2_wb_ne (by omega) (by omega) (by omega)
        · unfold Ro; rw [u20 20 (by decide) (by decide) (by decide), u20 21 (by decide) (by decide) (by decide)]; exact ro2
        · rw [u20 24 (by decide) (by decide) (by decide)]; exact fr 24 (by decide)
        · rw [u20 25 (by decide) (by decide) (by decide)]; exact fr 25 (by decide)
        · rw [u.2.2 17 (by decide) (by decide), hs_k _ _ _ _ _ hj, g17]
        · rw [u.2.2 17 (by decide) (by decide), hs_same, g17, c4]
        · rw [← sm1]
          exact wb4_mod (by decide)
      · have nO : ¬ opn f root K0 (4 * rwJ f root s k (e / 4).toNat + e % 4) := fun q => by
          rcases stt with ⟨_, a⟩ | ⟨a, _⟩
          · exact a (okO.mpr q)
          · rw [a] at y; exact y rfl
        exact MS_tail (t := tc (s 5) (bR f (4 * rwJ f root s k (e / 4).toNat + e % 4)) (u4 f (ha (4 * rwJ f root s k (e / 4).toNat + e % 4) + 52))) (tf := tf) (w := s 5) (m := s 6 0) (kk := k) (e := e) hPa C N1 Ppos hP0 hP64 dk2 g3 eU2 att ro2 vr sm' q1 (fr 24 (by decide)) (fr 25 (by decide)) (fun j _ => by rw [g17]) (by rw [g17]; exact c4) FM2 (fun b4 C4 F4 => H1 b4 _ _ cc.1 cc.2 (DGz _ _ (Or.inl ⟨rfl, rfl, nO⟩)) C4 F4)
    · clear hst
      refine H_strike (roN (fr 18 (by decide)) (fr 19 (by decide))) h0 h1 (fun m h' a1 a2 a3 a4 a5 => ?_) (fun m => ?_) (by rw [g17, c5]; exact x6)
      · rw [g17, c5] at m
        have sf : s 5 = f := S.2.2.2.2.2.2.2.2.1.1 m
        refine ⟨fun _ => H0 h' F ⟨h1, S, m, Or.inr ⟨rfl, ht, Or.inr ⟨ev, okf, (FC_same S p0 (fun i _ => by rw [sf])).mp hF, z⟩⟩⟩ z a1 a2 a3 ?_ ?_ (FM2.w.tr ?_), fun z => absurd wI_0 z⟩
        · rw [a5 3 (by decide)]; exact fr 3 (by decide)
        · rw [a5 4 (by decide)]; exact fr 4 (by decide)
        · exact FM_17 a4 a5
      · rw [g17, c5] at m
        refine ⟨fun z => absurd z (by decide), fun _ => ?_⟩
        obtain ⟨F2, hF2⟩ := FCA_ex (brk f n root K0 (4 * rwJ f root s k (e / 4).toNat + e % 4)) (opn f root K0 (4 * rwJ f root s k (e / 4).toNat + e % 4)) (mtd f root K0 s (4 * rwJ f root s k (e / 4).toNat + e % 4)) (dup f root K0 (4 * rwJ f root s k (e / 4).toNat + e % 4)) (lik f g root s k e) md
        have hF2' : FC f g n root K0 md s k e (4 * rwJ f root s k (e / 4).toNat + e % 4) F2 := hF2
        have F20 : F2 ≠ 0 := fun y => by
          subst y
          have sm := SI_free S x5.2 (b := bR f (4 * rwJ f root s k (e / 4).toNat + e % 4)) (x := u4 f (ha (4 * rwJ f root s k (e / 4).toNat + e % 4) + 52)) (K := rkP f K0 (4 * rwJ f root s k (e / 4).toNat + e % 4)) (Or.inl (FC_free p0 hF2'))
          exact z (FCA_fun hF ((FC_same S p0 sm).mpr hF2'))
        clear hF hF2
        have e3' : (hs b2 17 13 (b2 17 13 + 1)) 3 = s 5 := by rw [hs_o _ _ _ _ _ (by decide)]; exact g3
        refine E_unuse d2 un1 un2 un3 un4 (by rw [e3', eF1]; exact s3.1) (by rw [e3', v0]; exact un5) (by rw [e3', v32]; exact un6) (by rw [e3', w0]; exact un7) (fun y => by rw [e3', w32]; rw [e3', eF1] at y; rw [s3.2.2.2.2.2 y]; decide) un9 (fun h' u => ?_)
        rw [e3', eF1, v0, v32, w0, w32, eu] at u
        have o17 : ∀ j, j ≠ 13 → h' 17 j = h 17 j := fun j hj => by rw [u.2.2 17 (by decide) (by decide), hs_k _ _ _ _ _ hj, g17]
        refine H1 h' _ (edt s (uns (s 5) f (rwJ f root s k) e (1 + rd f (ea (rwJ f root s k) e + 1)).toNat) (s 6 0 + 1)) cc.1 cc.2 ⟨h1, S, Or.inr (Or.inr ⟨rfl, ht, rfl, Or.inr ⟨ev, okf, rfl, F2, hF2', Or.inl ⟨F20, m, rfl⟩⟩⟩)⟩ (CR_edt C u.1 u.2.1 ?_ ?_ (o17 11 (by decide)) (o17 12 (by decide)) ?_) ((FM2.tr (FM.k (by decide))).tr (FM.u u m))
        · rw [u.2.2 24 (by decide) (by decide), hs_o _ _ _ _ _ (by decide)]; exact fr 24 (by decide)
        · rw [u.2.2 25 (by decide) (by decide), hs_o _ _ _ _ _ (by decide)]; exact fr 25 (by decide)
        · rw [u.2.2 17 (by decide) (by decide), hs_same, g17, c4]
  have e71 : b 7 1 = n := by rw [ob 7 (by decide) (by decide)]; exact x1
  refine C_trace_20 hbb (by rw [e71]; exact x5) u52 bR01 kP (fun b2 q o2 => ?_) (fun b2 r q1 q2 q3 o2 => ?_)
  · rw [e71, e3] at q
    exact fin b2 1 o2 (Or.inl ⟨rfl, q⟩)
  · rw [e71, e3] at q1
    rw [e3] at q2 q3
    exact fin b2 r o2 (Or.inr ⟨fun ⟨i, i1, i2⟩ => i2 (q1 i i1), q2, q1, q3⟩)
end WE
