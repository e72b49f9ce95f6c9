/-! the walk: the reference, one ENTRY, DIRECTORIES, the tree -/
section MZ
variable {G : GG} {h : AH} {f g : Nat → Int} {n root : Int} {K0 : Nat} {md : Int} {s : AH} {k : Nat} {e : Int}
theorem FR_34 {h h' : AH} (a : ∀ k, ¬ ((9 ≤ k ∧ k ≤ 11) ∨ (17 ≤ k ∧ k ≤ 24) ∨ k = 34 ∨ k = 36 ∨ k = 38) → h' 34 k = h 34 k) (b : ∀ o, o ≠ 34 → h' o = h o) : FR0 h h' := ⟨fun o p => b o (by omega), a⟩
theorem FR_36 {h h' : AH} (a : ∀ k, k ≠ 36 → h' 34 k = h 34 k) (b : ∀ o, o ≠ 34 → o ≠ 36 → h' o = h o) : FR h h' := ⟨fun o p => b o (by omega) (by omega), fun k p => a k (by omega)⟩
theorem FR_z {h h' : AH} (z : FZ h h') : FR h h' := ⟨fun o p => z.2 o (by omega) (by omega), fun k p => z.1 k (by omega) (by omega) (by omega) (by omega) (by omega) (by omega)⟩
theorem FR_17 {h h' : AH} (a : ∀ k, k ≠ 17 → h' 34 k = h 34 k) (b : ∀ o, o ≠ 34 → o ≠ 39 → h' o = h o) : FR h h' := ⟨fun o p => b o (by omega) (by omega), fun k p => a k (by omega)⟩
theorem FR_o {h h' : AH} {x : Nat} (a : ∀ o, o ≠ x → h' o = h o) (hx : 36 ≤ x ∧ x ≤ 51 ∧ x ≠ 38) : FR h h' := ⟨fun o p => a o (by omega), fun k _ => by rw [a 34 (by omega)]⟩
theorem Rm_congr {h h' : AH} {K : Nat} {r : Nat → Int} (a : h' 34 17 = h 34 17) (b : h' 39 = h 39) (R : Rm h K r) : Rm h' K r := by unfold Rm at *; rw [a, b]; exact R
theorem rw_101 (S : SI f g n root K0 md s k e) (hn : n ≤ 100) (rm : Rm h (rkJ f K0 s k) (rwJ f root s k)) (hk : (k : Int) < s 1 0) {q : Int} (q0 : 0 ≤ q) (q1 : q < 4 * (rkJ f K0 s k : Int)) : 2 ≤ h 39 (q / 4).toNat ∧ h 39 (q / 4).toNat ≤ 101 := by
  rw [rm.2.2 _ (by omega)]
  have := SI_row S hk q0 q1
  unfold clu at this
  omega
/-- it is wrong -/
theorem M_w176 {Q : Int → AH → Prop} {F x7 : Int} (hf : By f) (S : SI f g n root K0 md s k e) (X : MXc g n root md h) (R : MR f md s h) (rm : Rm h (rkJ f K0 s k) (rwJ f root s k)) (hk : (k : Int) < s 1 0) (h0 : 0 ≤ e) (h1 : e < 4 * (rkJ f K0 s k : Int)) (ht : 128 ≤ rd f (ea (rwJ f root s k) e)) (ev : e % 2 = 0) (ok : SetOK f g n (ea (rwJ f root s k) e) (ea (rwJ f root s k) (e + 2)) (4 * (rkJ f K0 s k : Int) - e)) (hF : FC f g n root K0 md s k e (4 * rwJ f root s k (e / 4).toNat + e % 4) F) (F0 : 0 < F ∧ F ≤ 8)
    (H0 : ∀ h' F, DN f g n root K0 md k e 0 s F → F ≠ 0 → h' 34 9 = F → h' 34 10 = rwJ f root s k (e / 4).toNat → h' 34 11 = e % 4 → Sb (h' 36) → FR0 h h' → Q 0 h')
    (H1 : ∀ h' e' ov' s', DG f g n root K0 md k e 0 s e' ov' s' → MR f md s' h' → Rm h' (rkJ f K0 s k) (rwJ f root s k) → FR h h' → Go G (pI Q) 223 17 [some (vR 34), some (vI (k : Int)), some (vI ov'), some (vI e'), none, none, none, none] [] h') : Go G (pI Q) 223 176 [some (vR 34), some (vI (k : Int)), some (vI 0), some (vI e), some (vI (rd f (ea (rwJ f root s k) e))), some (vI (1 + rd f (ea (rwJ f root s k) e + 1))), none, some (vI x7)] [vI F] h := by
  obtain ⟨x1, x2, x3, x4, x5, x6, x7⟩ := id X
  have s3 := SetOK_3 ok
  have rl := rm.2.1
  have re := SI_ear S x5.2 hk h0 h1
  have bf := hf.rd (show 0 ≤ ea (rwJ f root s k) e by omega) (show ea (rwJ f root s k) e < 13824 by omega)
  apply q_M_isDirectoryRight_c176
  rw [wI_id (z := F) (by omega) (by omega), wI_id (z := rd f (ea (rwJ f root s k) e)) (by omega) (by omega)]
  refine ⟨fun z => by omega, fun _ => ?_⟩
  rcases x6 with m | m
  · refine M_wrong0 (by rw [x7]; exact m) h0 (by omega) (fun h' a1 a2 a3 a4 a5 => ⟨fun _ => ⟨Or.inl rfl, H0 h' F ⟨h1, S, m, Or.inr ⟨rfl, ht, Or.inr ⟨ev, ok, hF, by omega⟩⟩⟩ (by omega) a1 ?_ a3 (by rw [a5 36 (by decide)]; exact R.2.2.1) (FR_34 (fun k p => a4 k (by omega)) a5)⟩, fun z => absurd wI_0 z⟩)
    rw [a2, rm.2.2 _ (by omega)]
  · have mm : (((1 + rd f (ea (rwJ f root s k) e + 1)).toNat : Nat) : Int) = 1 + rd f (ea (rwJ f root s k) e + 1) := (by omega)
    have ku := M_wrong1 (G := G) (P := fun r2 h2 => ((wI r2 = 0 → (((0 : Int) = 0 ∨ (0 : Int) = 1) ∧ Q 0 h2)) ∧ (¬ wI r2 = 0 → ((rd f (ea (rwJ f root s k) e) = 0 → Go G (pI Q) 223 17 [some (vR 34), some (vI (k : Int)), some (vI (bO 0 1)), some (vI (e + (1 + rd f (ea (rwJ f root s k) e + 1)))), none, none, none, none] [] h2) ∧ (¬ rd f (ea (rwJ f root s k) e) = 0 → Go G (pI Q) 223 17 [some (vR 34), some (vI (k : Int)), some (vI (bO 0 0)), some (vI (e + (1 + rd f (ea (rwJ f root s k) e + 1)))), none, none, none, none] [] h2))))) (F := F) (e := e) (m := (1 + rd f (ea (rwJ f root s k) e + 1)).toNat) R.2.1 R.2.2.1 (by rw [x7]; exact m) h0 (by omega) (by omega) (fun i hi => rw_101 S x5.2 rm hk (by omega) (by omega)) (fun h' a1 a2 a3 a4 a5 => ?_)
    · rw [mm] at ku
      exact ku
    · refine ⟨fun z => absurd z (by decide), fun _ => ⟨fun z => by omega, fun _ => ?_⟩⟩
      rw [bO01.1]
      refine H1 h' _ _ (edt s (uns (s 5) f (rwJ f root s k) e (1 + rd f (ea (rwJ f root s k) e + 1)).toNat) (s 6 0 + 1)) ⟨h1, S, Or.inr (Or.inr ⟨rfl, ht, rfl, Or.inr ⟨ev, ok, rfl, F, hF, Or.inl ⟨by omega, m, rfl⟩⟩⟩)⟩ (MR_edt R a1 ?_ ?_ (a4 34 (by decide)) (fun o p => a5 o (by omega) (by omega))) (Rm_congr (a4 17 (by decide)) (a5 39 (by decide) (by decide)) rm) (FR_36 a4 a5)
      · rw [a2, uns_cg _ (fun i hi => ea_cg rm.2.2 (by omega) (by omega))]
        exact E_uns (R.2.2.2.1 m) _
      · rw [a3, R.2.2.2.2.2.1 m]
/-- it is taken -/
theorem M_a176 {Q : Int → AH → Prop} {x7 : Int} (hf : By f) (S : SI f g n root K0 md s k e) (X : MXc g n root md h) (R : MR f md s h) (rm : Rm h (rkJ f K0 s k) (rwJ f root s k)) (hk : (k : Int) < s 1 0) (h0 : 0 ≤ e) (h1 : e < 4 * (rkJ f K0 s k : Int)) (ht : 128 ≤ rd f (ea (rwJ f root s k) e)) (ev : e % 2 = 0) (ok : SetOK f g n (ea (rwJ f root s k) e) (ea (rwJ f root s k) (e + 2)) (4 * (rkJ f K0 s k : Int) - e)) (rs : Rs h f (ea (rwJ f root s k) e) (ea (rwJ f root s k) (e + 2))) (hF : FC f g n root K0 md s k e (4 * rwJ f root s k (e / 4).toNat + e % 4) 0) (hx : (x7 = 1 ∧ opn f root K0 (4 * rwJ f root s k (e / 4).toNat + e % 4) ∧ ∀ i, i < rkP f K0 (4 * rwJ f root s k (e / 4).toNat + e % 4) → h 51 i = rwP f root (4 * rwJ f root s k (e / 4).toNat + e % 4) i) ∨ (x7 = 0 ∧ ¬ opn f root K0 (4 * rwJ f root s k (e / 4).toNat + e % 4)))
    (H1 : ∀ h' e' ov' s', DG f g n root K0 md k e 0 s e' ov' s' → MR f md s' h' → Rm h' (rkJ f K0 s k) (rwJ f root s k) → FR h h' → Go G (pI Q) 223 17 [some (vR 34), some (vI (k : Int)), some (vI ov'), some (vI e'), none, none, none, none] [] h') : Go G (pI Q) 223 176 [some (vR 34), some (vI (k : Int)), some (vI 0), some (vI e), some (vI (rd f (ea (rwJ f root s k) e))), some (vI (1 + rd f (ea (rwJ f root s k) e + 1))), none, some (vI x7)] [vI 0] h := by
  obtain ⟨x1, x2, x3, x4, x5, x6, x8⟩ := id X
  have s3 := SetOK_3 ok
  have rl := rm.2.1
  have re := SI_ear S x5.2 hk h0 h1
  have re1 := SI_ear S x5.2 hk (q := e + 1) (by omega) (by omega)
  rw [ea_s h0 ev] at re1
  have bf := hf.rd (show 0 ≤ ea (rwJ f root s k) e by omega) (show ea (rwJ f root s k) e < 13824 by omega)
  have hPa : ea (rwJ f root s k) e = ha (4 * rwJ f root s k (e / 4).toNat + e % 4) := ha_ea
  have clP : clu n ((4 * rwJ f root s k (e / 4).toNat + e % 4) / 4) := by
    rw [show (4 * rwJ f root s k (e / 4).toNat + e % 4) / 4 = rwJ f root s k (e / 4).toNat by omega]
    exact SI_row S hk h0 h1
  have rP := ha_rng clP x5.2
  have p0 : (4 * rwJ f root s k (e / 4).toNat + e % 4) ≠ 0 := (by omega)
  have zz := FCA_0 hF
  have NN := SI_N S (by omega)
  have N1 := S.1.1
  have u56 := u4_rng hf (show 0 ≤ ea (rwJ f root s k) e + 56 by omega) (show ea (rwJ f root s k) e + 56 + 3 < 13824 by omega)
  have l56 := ok.2.2.1.1
  have kP : rkP f K0 (4 * rwJ f root s k (e / 4).toNat + e % 4) = ((u4 f (ea (rwJ f root s k) e + 56) + 127) / 128).toNat := by unfold rkP; rw [if_neg p0, ← hPa]
  have rwp : rwP f root (4 * rwJ f root s k (e / 4).toNat + e % 4) = tc f (bR f (4 * rwJ f root s k (e / 4).toNat + e % 4)) (u4 f (ea (rwJ f root s k) e + 52)) := by unfold rwP; rw [if_neg p0, ← hPa]
  have eb : h 34 23 = bR f (4 * rwJ f root s k (e / 4).toNat + e % 4) := by
    unfold bR
    rw [← hPa]
    have q := rs.2.2.2.2.1
    unfold isR at q
    rcases q with ⟨a, b⟩ | ⟨a, b⟩
    · rw [if_pos b, a]
    · rw [if_neg b, a]
  have b01 : bR f (4 * rwJ f root s k (e / 4).toNat + e % 4) = 0 ∨ bR f (4 * rwJ f root s k (e / 4).toNat + e % 4) = 1 := by
    unfold bR
    split
    · exact Or.inr rfl
    · exact Or.inl rfl
  have cl : ∀ i, i < rkP f K0 (4 * rwJ f root s k (e / 4).toNat + e % 4) → clu n (rwP f root (4 * rwJ f root s k (e / 4).toNat + e % 4) i) := fun i hi => Classical.not_not.mp (fun q => zz.1 ⟨i, hi, q⟩)
  have row : h 39 (e / 4).toNat = rwJ f root s k (e / 4).toNat := rm.2.2 _ (by omega)
  have c239 : ∀ (b : AH) (w : Nat → Int) (m : Int), Sb (b 36) → (md = 1 → E (ub (b 36)) w) → (md = 1 → b 34 36 = m) → (∀ k, k ≠ 36 → b 34 k = h 34 k) → (∀ o, o ≠ 34 → o ≠ 36 → b o = h o) → DG f g n root K0 md k e 0 s (e + (1 + rd f (ea (rwJ f root s k) e + 1))) 0 (acc s (rkP f K0 (4 * rwJ f root s k (e / 4).toNat + e % 4)) (rwP f root (4 * rwJ f root s k (e / 4).toNat + e % 4)) (4 * rwJ f root s k (e / 4).toNat + e % 4) k e w m) → Go G (pI Q) 223 239 [some (vR 34), some (vI (k : Int)), some (vI 0), some (vI e), some (vI (rd f (ea (rwJ f root s k) e))), some (vI (1 + rd f (ea (rwJ f root s k) e + 1))), none, none] [] b := by
    intro b w m b6 be bm k4 ob D
    apply q_M_isDirectoryRight_c239
    rw [wI_id (z := rd f (ea (rwJ f root s k) e)) (by omega) (by omega)]
    refine M_meetClusters (f := f) (K := rkP f K0 (4 * rwJ f root s k (e / 4).toNat + e % 4)) (L := u4 f (ea (rwJ f root s k) e + 56)) (c := u4 f (ea (rwJ f root s k) e + 52)) (b := bR f (4 * rwJ f root s k (e / 4).toNat + e % 4)) (M := fun x => s 0 x.toNat ≠ -1) (by rw [ob 35 (by decide) (by decide)]; exact R.2.1) (by omega) kP (by rw [k4 21 (by decide)]; exact rs.2.2.1) (by rw [k4 22 (by decide)]; exact rs.2.2.2.1) (by rw [k4 23 (by decide)]; exact eb) b01 (fun i hi => by
      have := cl i hi
      rw [rwp] at this
      unfold clu at this
      omega) (by rw [ob 37 (by decide) (by decide)]; exact R.2.2.2.2.1) (fun b2 mt o2 => ?_)
    rw [← rwp] at mt
    have k42 : ∀ k, k ≠ 36 → b2 34 k = h 34 k := fun k hk => by rw [o2 34 (by decide)]; exact k4 k hk
    have of : ∀ o, o ≠ 34 → o ≠ 36 → o ≠ 37 → b2 o = h o := fun o p q r => (o2 o r).trans (ob o p q)
    refine M_addSet (N := (s 1 0).toNat) (by rw [k42 34 (by decide), R.2.2.2.2.2.2.1]; omega) (by omega) h0 (by omega) (by rw [k42 24 (by decide), rs.2.2.2.2.2.1]; exact ok.1.2.2.1) (by rw [k42 23 (by decide), eb]; exact b01) (fun b3 c41 c42 c43 c44 c45 c46 c47 c48 c49 c34 k5 o5 => ?_)
    refine ⟨fun z => by omega, fun _ => ?_⟩
    rw [bO01.1]
    refine H1 b3 _ _ _ D (MR_acc R (N := (s 1 0).toNat) (by omega) (by omega) (by omega) ?_ (fun z => ?_) ?_ ?_ ?_ c34 ?_ ?_ ?_ ?_ ?_ ?_ ?_) ?_ ?_
    · rw [o5 36 (by decide), o2 36 (by decide)]; exact b6
    · rw [o5 36 (by decide), o2 36 (by decide)]; exact be z
    · rw [o5 37 (by decide)]; exact mt
    · rw [o5 35 (by decide)]; exact of 35 (by decide) (by decide) (by decide)
    · intro y; rw [k5 36 (by decide), o2 34 (by decide)]; exact bm y
    · rw [c41, of 41 (by decide) (by decide) (by decide), of 39 (by decide) (by decide) (by decide), row]
    · rw [c42, of 42 (by decide) (by decide) (by decide)]
    · rw [c43, of 43 (by decide) (by decide) (by decide)]
    · rw [c45, of 45 (by decide) (by decide) (by decide), k42 24 (by decide), rs.2.2.2.2.2.1, hPa]
    · rw [c46, of 46 (by decide) (by decide) (by decide), k42 23 (by decide), eb]
    · rw [c47, of 47 (by decide) (by decide) (by decide), k42 21 (by decide), rs.2.2.1, hPa]
    · rw [c48, of 48 (by decide) (by decide) (by decide), k42 22 (by decide), rs.2.2.2.1, hPa]
    · exact Rm_congr (by rw [k5 17 (by decide)]; exact k42 17 (by decide)) (by rw [o5 39 (by decide)]; exact of 39 (by decide) (by decide) (by decide)) rm
    · exact ⟨fun o p => (o5 o (by omega)).trans (of o (by omega) (by omega) (by omega)), fun k p => (k5 k (by omega)).trans (k42 k (by omega))⟩
  apply q_M_isDirectoryRight_c176
  refine ⟨fun _ => ?_, fun z => absurd (by decide) z⟩
  rcases hx with ⟨a, op, ch⟩ | ⟨a, op⟩
  · have hm : md = 1 := by
      rcases x6 with m | m
      · exact absurd ⟨op, m⟩ zz.2.1
      · exact m
    have K1 : 0 < rkP f K0 (4 * rwJ f root s k (e / 4).toNat + e % 4) := op.2.1
    rw [a]
    refine ⟨fun z => absurd z (by decide), fun _ => ⟨by decide, ?_⟩⟩
    rw [hs_k _ _ _ _ _ (by decide), hs_o _ _ _ _ _ (by decide), rs.2.2.1, wL_id (z := u4 f (ea (rwJ f root s k) e + 56) + 127) (by omega) (by omega), tdiv_pos (by omega), show (u4 f (ea (rwJ f root s k) e + 56) + 127) / 128 = ((rkP f K0 (4 * rwJ f root s k (e / 4).toNat + e % 4) : Nat) : Int) by omega, wI_id (z := ((rkP f K0 (4 * rwJ f root s k (e / 4).toNat + e % 4) : Nat) : Int) - 1) (by omega) (by omega), show (((rkP f K0 (4 * rwJ f root s k (e / 4).toNat + e % 4) : Nat) : Int) - 1).toNat = rkP f K0 (4 * rwJ f root s k (e / 4).toNat + e % 4) - 1 by omega, ch _ (by omega)]
    have c1 := cl (rkP f K0 (4 * rwJ f root s k (e / 4).toNat + e % 4) - 1) (by omega)
    unfold clu at c1
    refine ⟨by omega, ?_⟩
    refine M_wantFat (by rw [hs_o _ _ _ _ _ (by decide)]; exact R.2.2.1) (by omega) (by omega) (by omega) (fun b b6 bu ob => ?_)
    rw [hs_o _ _ _ _ _ (by decide)] at bu
    refine c239 b _ (s 6 0 + 1) b6 (fun z => by rw [bu]; exact E_wb (R.2.2.2.1 z) _ _ _) (fun y => by rw [ob 34 (by decide), hs_same, R.2.2.2.2.2.1 y]) (fun k hk => by rw [ob 34 (by decide)]; exact hs_k _ _ _ _ _ hk) (fun o p q => (ob o q).trans (hs_o _ _ _ _ _ p)) ?_
    exact ⟨h1, S, Or.inr (Or.inr ⟨rfl, ht, rfl, Or.inr ⟨ev, ok, rfl, 0, hF, Or.inr (Or.inr ⟨rfl, op, rfl⟩)⟩⟩)⟩
  · rw [a]
    refine ⟨fun _ => ?_, fun z => absurd wI_0 z⟩
    exact c239 h (s 5) (s 6 0) R.2.2.1 R.2.2.2.1 R.2.2.2.2.2.1 (fun _ _ => rfl) (fun _ _ _ => rfl) ⟨h1, S, Or.inr (Or.inr ⟨rfl, ht, rfl, Or.inr ⟨ev, ok, rfl, 0, hF, Or.inr (Or.inl ⟨rfl, op, rfl⟩)⟩⟩)⟩
theorem M_set87 {Q : Int → AH → Prop} (hf : By f) (S : SI f g n root K0 md s k e) (X : MXc g n root md h) (R : MR f md s h) (rm : Rm h (rkJ f K0 s k) (rwJ f root s k)) (hk : (k : Int) < s 1 0) (h0 : 0 ≤ e) (h1 : e < 4 * (rkJ f K0 s k : Int)) (ht : 128 ≤ rd f (ea (rwJ f root s k) e))
    (H0 : ∀ h' F, DN f g n root K0 md k e 0 s F → F ≠ 0 → h' 34 9 = F → h' 34 10 = rwJ f root s k (e / 4).toNat → h' 34 11 = e % 4 → Sb (h' 36) → FR0 h h' → Q 0 h')
    (H1 : ∀ h' e' ov' s', DG f g n root K0 md k e 0 s e' ov' s' → MR f md s' h' → Rm h' (rkJ f K0 s k) (rwJ f root s k) → FR h h' → Go G (pI Q) 223 17 [some (vR 34), some (vI (k : Int)), some (vI ov'), some (vI e'), none, none, none, none] [] h') : Go G (pI Q) 223 87 [some (vR 34), some (vI (k : Int)), some (vI 0), some (vI e), some (vI (rd f (ea (rwJ f root s k) e))), some (vI 1), none, none] [] h := by
  obtain ⟨x1, x2, x3, x4, x5, x6, x8⟩ := id X
  have rl := rm.2.1
  have re := SI_ear S x5.2 hk h0 h1
  have bf := hf.rd (show 0 ≤ ea (rwJ f root s k) e by omega) (show ea (rwJ f root s k) e < 13824 by omega)
  have ea0 : ea (h 39) e = ea (rwJ f root s k) e := ea_cg rm.2.2 h0 h1
  have sok : SetOK f (h 38) (h 34 0) (ea (h 39) e) (ea (h 39) (e + 2)) (4 * h 34 17 - e) ↔ SetOK f g n (ea (rwJ f root s k) e) (ea (rwJ f root s k) (e + 2)) (4 * (rkJ f K0 s k : Int) - e) := by
    rw [x1, rm.1]
    exact (SetOK_row rm.2.2 h0 h1).trans ⟨SetOK_g x3, SetOK_g x3.sm⟩
  apply q_M_isDirectoryRight_c87
  rw [wI_id (z := rd f (ea (rwJ f root s k) e)) (by omega) (by omega)]
  refine ⟨fun z => by omega, fun _ => ?_⟩
  refine M_isSet (f := f) R.1 R.2.1 (by rw [x1]; exact x5) h0 (by rw [rm.1]; omega) (by rw [rm.1]; exact h1) (fun i hi => ?_) x4 (fun b ev ok rs fz => ?_) (fun b no fz => ?_)
  · have := rw_101 S x5.2 rm hk (q := 4 * (i : Int)) (by omega) (by rw [rm.1] at hi; omega)
    rw [show (4 * (i : Int) / 4).toNat = i by omega] at this
    exact this
  · refine ⟨fun z => absurd z (by decide), fun _ => ?_⟩
    have ok' := sok.mp ok
    have s3 := SetOK_3 ok'
    have re1 := SI_ear S x5.2 hk (q := e + 1) (by omega) (by omega)
    rw [ea_s h0 ev] at re1
    have ea2 : ea (h 39) (e + 2) = ea (rwJ f root s k) (e + 2) := ea_cg rm.2.2 (by omega) (by omega)
    rw [ea0, ea2] at rs
    have Fb : FR h b := FR_z fz
    have Rb : MR f md s b := MR_congr R (fz.1 36 (by decide) (by decide) (by decide) (by decide) (by decide) (by decide)) (fz.1 34 (by decide) (by decide) (by decide) (by decide) (by decide) (by decide)) (fun o p => fz.2 o (by omega) (by omega))
    have rmb : Rm b (rkJ f K0 s k) (rwJ f root s k) := Rm_congr (fz.1 17 (by decide) (by decide) (by decide) (by decide) (by decide) (by decide)) (fz.2 39 (by decide) (by decide)) rm
    have Xb := MXc_congr Fb X
    have hPa : ea (rwJ f root s k) e = ha (4 * rwJ f root s k (e / 4).toNat + e % 4) := ha_ea
    have clP : clu n ((4 * rwJ f root s k (e / 4).toNat + e % 4) / 4) := by
      rw [show (4 * rwJ f root s k (e / 4).toNat + e % 4) / 4 = rwJ f root s k (e / 4).toNat by omega]
      exact SI_row S hk h0 h1
    have rP := ha_rng clP x5.2
    have p0 : (4 * rwJ f root s k (e / 4).toNat + e % 4) ≠ 0 := (by omega)
    have u56 := u4_rng hf (show 0 ≤ ea (rwJ f root s k) e + 56 by omega) (show ea (rwJ f root s k) e + 56 + 3 < 13824 by omega)
    have u52 := u4_rng hf (show 0 ≤ ea (rwJ f root s k) e + 52 by omega) (show ea (rwJ f root s k) e + 52 + 3 < 13824 by omega)
    have l56 := ok'.2.2.1.1
    have kP : rkP f K0 (4 * rwJ f root s k (e / 4).toNat + e % 4) = ((u4 f (ea (rwJ f root s k) e + 56) + 127) / 128).toNat := by unfold rkP; rw [if_neg p0, ← hPa]
    have rwp : rwP f root (4 * rwJ f root s k (e / 4).toNat + e % 4) = tc f (bR f (4 * rwJ f root s k (e / 4).toNat + e % 4)) (u4 f (ea (rwJ f root s k) e + 52)) := by unfold rwP; rw [if_neg p0, ← hPa]
    have eb : b 34 23 = bR f (4 * rwJ f root s k (e / 4).toNat + e % 4) := by
      unfold bR
      rw [← hPa]
      have q := rs.2.2.2.2.1
      unfold isR at q
      rcases q with ⟨a, b⟩ | ⟨a, b⟩
      · rw [if_pos b, a]
      · rw [if_neg b, a]
    have b01 : bR f (4 * rwJ f root s k (e / 4).toNat + e % 4) = 0 ∨ bR f (4 * rwJ f root s k (e / 4).toNat + e % 4) = 1 := by
      unfold bR
      split
      · exact Or.inr rfl
      · exact Or.inl rfl
    have b1 : bR f (4 * rwJ f root s k (e / 4).toNat + e % 4) = 1 → 0 < rkP f K0 (4 * rwJ f root s k (e / 4).toNat + e % 4) ∧ 2 ≤ u4 f (ea (rwJ f root s k) e + 52) := fun q => by
      have iR : isR f (ea (rwJ f root s k) e) := by
        unfold bR at q
        rw [← hPa] at q
        unfold isR
        by_cases y : rd f (ea (rwJ f root s k) e + 33) = 3
        · exact y
        · rw [if_neg y] at q; omega
      have l0 : u4 f (ea (rwJ f root s k) e + 56) ≠ 0 := fun y => (ok'.2.2.1.2.2.2.2.2.1 y).2 iR
      have := ok'.2.2.1.2.2.2.2.2.2 l0
      rw [kP]
      omega
    refine M_clustersWrong (f := f) (K := rkP f K0 (4 * rwJ f root s k (e / 4).toNat + e % 4)) (md := md) (M := fun x => s 0 x.toNat ≠ -1) Rb.2.1 hf (by rw [Xb.1]; exact x5) (by omega) kP rs.2.2.1 rs.2.2.2.1 eb Xb.2.2.2.2.2.2 x6 b01 b1 u52 Rb.2.2.2.2.1 (fun b2 r wr9 ch o2 => ?_)
    rw [← rwp, Xb.1] at wr9
    rw [← rwp] at ch
    have wr' : WR (brk f n root K0 (4 * rwJ f root s k (e / 4).toNat + e % 4)) (opn f root K0 (4 * rwJ f root s k (e / 4).toNat + e % 4)) (mtd f root K0 s (4 * rwJ f root s k (e / 4).toNat + e % 4)) (dup f root K0 (4 * rwJ f root s k (e / 4).toNat + e % 4)) md r := wr9
    clear wr9
    have k2 : ∀ k, b2 34 k = b 34 k := fun k => by rw [o2 34 (by decide)]
    have Fb2 : FR h b2 := Fb.tr (FR_o o2 (by decide))
    have Rb2 : MR f md s b2 := MR_congr Rb (k2 36) (k2 34) (fun o p => o2 o (by omega))
    have rmb2 : Rm b2 (rkJ f K0 s k) (rwJ f root s k) := Rm_congr (k2 17) (o2 39 (by decide)) rmb
    have Xb2 := MXc_congr Fb2 X
    have rs2 : Rs b2 f (ea (rwJ f root s k) e) (ea (rwJ f root s k) (e + 2)) := by unfold Rs at *; rw [o2 34 (by decide), o2 40 (by decide)]; exact rs
    rw [rs.1]
    have wr6 : ∀ x7 : Int, 0 < r → r ≤ 8 → FC f g n root K0 md s k e (4 * rwJ f root s k (e / 4).toNat + e % 4) r → Go G (pI Q) 223 176 [some (vR 34), some (vI (k : Int)), some (vI 0), some (vI e), some (vI (rd f (ea (rwJ f root s k) e))), some (vI (1 + rd f (ea (rwJ f root s k) e + 1))), none, some (vI x7)] [vI r] b2 := fun x7 r0 r8 fc => M_w176 hf S Xb2 Rb2 rmb2 hk h0 h1 ht ev ok' fc ⟨r0, r8⟩ (fun h' F a1 a2 a3 a4 a5 a6 a7 => H0 h' F a1 a2 a3 a4 a5 a6 (Fb2.w.tr a7)) (fun h' e' ov' s' a1 a2 a3 a4 => H1 h' e' ov' s' a1 a2 a3 (Fb2.tr a4))
    have l151 : ∀ x6 x7 : Int, ¬ (brk f n root K0 (4 * rwJ f root s k (e / 4).toNat + e % 4) ∨ (opn f root K0 (4 * rwJ f root s k (e / 4).toNat + e % 4) ∧ md = 0)) → ¬ (mtd f root K0 s (4 * rwJ f root s k (e / 4).toNat + e % 4) ∨ (opn f root K0 (4 * rwJ f root s k (e / 4).toNat + e % 4) ∧ dup f root K0 (4 * rwJ f root s k (e / 4).toNat + e % 4))) → ((x7 = 1 ∧ opn f root K0 (4 * rwJ f root s k (e / 4).toNat + e % 4) ∧ ∀ i, i < rkP f K0 (4 * rwJ f root s k (e / 4).toNat + e % 4) → b2 51 i = rwP f root (4 * rwJ f root s k (e / 4).toNat + e % 4) i) ∨ (x7 = 0 ∧ ¬ opn f root K0 (4 * rwJ f root s k (e / 4).toNat + e % 4) ∧ x6 = 0)) → Go G (pI Q) 223 151 [some (vR 34), some (vI (k : Int)), some (vI 0), some (vI e), some (vI (rd f (ea (rwJ f root s k) e))), some (vI (1 + rd f (ea (rwJ f root s k) e + 1))), some (vI x6), some (vI x7)] [] b2 := by
      intro x6 x7 nb nm hx
      apply q_M_isDirectoryRight_c151
      have post : ∀ b3 : AH, (∀ k, ¬ ((18 ≤ k ∧ k ≤ 24) ∨ k = 38) → b3 34 k = b2 34 k) → (∀ o, ¬ (o = 34 ∨ o = 40 ∨ o = 50) → b3 o = b2 o) → FR h b3 ∧ MR f md s b3 ∧ Rm b3 (rkJ f K0 s k) (rwJ f root s k) := fun b3 k3 o3 => ⟨Fb2.tr ⟨fun o p => o3 o (by omega), fun k p => k3 k (by omega)⟩, MR_congr Rb2 (k3 36 (by decide)) (k3 34 (by decide)) (fun o p => o3 o (by omega)), Rm_congr (k3 17 (by decide)) (o3 39 (by decide)) rmb2⟩
      refine M_isThereBefore S Xb2 Rb2 rmb2 hk h0 h1 ev ok' rs2 (fun b3 l rs3 k3 o3 => ?_) (fun b3 l rs3 k3 o3 => ?_)
      · obtain ⟨F3, R3, r3⟩ := post b3 k3 o3
        refine ⟨fun z => absurd z (by decide), fun _ => ?_⟩
        exact M_w176 hf S (MXc_congr F3 X) R3 r3 hk h0 h1 ht ev ok' (Or.inr (Or.inr ⟨nb, nm, Or.inl ⟨rfl, l⟩⟩)) (by decide) (fun h' F a1 a2 a3 a4 a5 a6 a7 => H0 h' F a1 a2 a3 a4 a5 a6 (F3.w.tr a7)) (fun h' e' ov' s' a1 a2 a3 a4 => H1 h' e' ov' s' a1 a2 a3 (F3.tr a4))
      · obtain ⟨F3, R3, r3⟩ := post b3 k3 o3
        refine ⟨fun _ => ?_, fun z => absurd wI_0 z⟩
        have fin : ∀ y, ((y = 1 ∧ opn f root K0 (4 * rwJ f root s k (e / 4).toNat + e % 4) ∧ ∀ i, i < rkP f K0 (4 * rwJ f root s k (e / 4).toNat + e % 4) → b3 51 i = rwP f root (4 * rwJ f root s k (e / 4).toNat + e % 4) i) ∨ (y = 0 ∧ ¬ opn f root K0 (4 * rwJ f root s k (e / 4).toNat + e % 4))) → Go G (pI Q) 223 176 [some (vR 34), some (vI (k : Int)), some (vI 0), some (vI e), some (vI (rd f (ea (rwJ f root s k) e))), some (vI (1 + rd f (ea (rwJ f root s k) e + 1))), none, some (vI y)] [vI 0] b3 := fun y hy => M_a176 hf S (MXc_congr F3 X) R3 r3 hk h0 h1 ht ev ok' rs3 (Or.inr (Or.inr ⟨nb, nm, Or.inr ⟨rfl, l⟩⟩)) hy (fun h' e' ov' s' a1 a2 a3 a4 => H1 h' e' ov' s' a1 a2 a3 (F3.tr a4))
        rcases hx with ⟨a, op, c⟩ | ⟨a, op, c⟩
        · rw [a]
          exact ⟨fun z => absurd z (by decide), fun _ => fin 1 (Or.inl ⟨rfl, op, by rw [o3 51 (by decide)]; exact c⟩)⟩
        · rw [a, c]
          exact ⟨fun _ => fin 0 (Or.inr ⟨rfl, op⟩), fun z => absurd wI_0 z⟩
    rcases wr' with ⟨a, w⟩ | ⟨a, w, w2⟩ | ⟨w, w2, ⟨a, op⟩ | ⟨a, op⟩⟩
    · rw [a] at wr6 ⊢
      refine ⟨fun z => absurd z (by decide), fun _ => ?_⟩
      apply q_M_isDirectoryRight_c139
      exact ⟨fun z => absurd z (by decide), fun _ => ⟨fun _ => ⟨fun _ => wr6 0 (by decide) (by decide) (Or.inl ⟨rfl, w⟩), fun z => absurd wI_0 z⟩, fun z => absurd wI_0 z⟩⟩
    · rw [a] at wr6 ⊢
      refine ⟨fun z => absurd z (by decide), fun _ => ?_⟩
      apply q_M_isDirectoryRight_c139
      exact ⟨fun z => absurd z (by decide), fun _ => ⟨fun _ => ⟨fun _ => wr6 0 (by decide) (by decide) (Or.inr (Or.inl ⟨rfl, w, w2⟩)), fun z => absurd wI_0 z⟩, fun z => absurd wI_0 z⟩⟩
    · rw [a] at ch ⊢
      refine ⟨fun _ => ?_, fun z => absurd (by decide) z⟩
      apply q_M_isDirectoryRight_c139
      exact ⟨fun z => absurd z (by decide), fun _ => ⟨fun z => absurd z (by decide), fun _ => l151 66 1 w w2 (Or.inl ⟨rfl, op, ch rfl⟩)⟩⟩
    · rw [a]
      refine ⟨fun z => absurd z (by decide), fun _ => ?_⟩
      apply q_M_isDirectoryRight_c139
      exact ⟨fun _ => l151 0 0 w w2 (Or.inr ⟨rfl, op, rfl⟩), fun z => absurd wI_0 z⟩
  · refine ⟨fun _ => ?_, fun z => absurd wI_0 z⟩
    have no' : ¬ (e % 2 = 0 ∧ SetOK f g n (ea (rwJ f root s k) e) (ea (rwJ f root s k) (e + 2)) (4 * (rkJ f K0 s k : Int) - e)) := fun z => no ⟨z.1, sok.mpr z.2⟩
    have Fb : FR h b := FR_z fz
    have Rb : MR f md s b := MR_congr R (fz.1 36 (by decide) (by decide) (by decide) (by decide) (by decide) (by decide)) (fz.1 34 (by decide) (by decide) (by decide) (by decide) (by decide) (by decide)) (fun o p => fz.2 o (by omega) (by omega))
    have rmb : Rm b (rkJ f K0 s k) (rwJ f root s k) := Rm_congr (fz.1 17 (by decide) (by decide) (by decide) (by decide) (by decide) (by decide)) (fz.2 39 (by decide) (by decide)) rm
    have Xb := MXc_congr Fb X
    rcases x6 with m | m
    · refine M_wrong0 (by rw [Xb.2.2.2.2.2.2]; exact m) h0 (by omega) (fun h' a1 a2 a3 a4 a5 => ⟨fun _ => ⟨Or.inl rfl, H0 h' 5 ⟨h1, S, m, Or.inr ⟨rfl, ht, Or.inl ⟨no', rfl⟩⟩⟩ (by decide) a1 ?_ a3 (by rw [a5 36 (by decide)]; exact Rb.2.2.1) (Fb.w.tr (FR_34 (fun k p => a4 k (by omega)) a5))⟩, fun z => absurd wI_0 z⟩)
      rw [a2, rmb.2.2 _ (by omega)]
    · refine M_wrong1 (G := G) (f := f) (m := 1) Rb.2.1 Rb.2.2.1 (by rw [Xb.2.2.2.2.2.2]; exact m) h0 (by omega) (by omega) (fun i hi => rw_101 S x5.2 rmb hk (by omega) (by omega)) (fun h' a1 a2 a3 a4 a5 => ?_)
      refine ⟨fun z => absurd z (by decide), fun _ => ⟨fun z => by omega, fun _ => ?_⟩⟩
      rw [bO01.1]
      refine H1 h' _ _ (edt s (wb (s 5) (ea (rwJ f root s k) e) 1 (un (rd f (ea (rwJ f root s k) e)))) (s 6 0 + 1)) ⟨h1, S, Or.inr (Or.inr ⟨rfl, ht, rfl, Or.inl ⟨no', m, rfl, rfl⟩⟩)⟩ (MR_edt Rb a1 ?_ ?_ (a4 34 (by decide)) (fun o p => a5 o (by omega) (by omega))) (Rm_congr (a4 17 (by decide)) (a5 39 (by decide) (by decide)) rmb) (Fb.tr (FR_36 a4 a5))
      · rw [a2, uns_cg _ (fun i hi => ea_cg rmb.2.2 (by omega) (by omega))]
        have eu : wb (s 5) (ea (rwJ f root s k) e) 1 (un (rd f (ea (rwJ f root s k) e))) = uns (s 5) f (rwJ f root s k) e 1 := by
          have i0 : ea (rwJ f root s k) (e + ((0 : Nat) : Int)) = ea (rwJ f root s k) e := by rw [show e + ((0 : Nat) : Int) = e by omega]
          simp only [uns, i0]
        rw [eu]
        exact E_uns (Rb.2.2.2.1 m) _
      · rw [a3, Rb.2.2.2.2.2.1 m]
theorem M_step {Q : Int → AH → Prop} {ov : Int} (hf : By f) (S : SI f g n root K0 md s k e) (X : MXc g n root md h) (R : MR f md s h) (rm : Rm h (rkJ f K0 s k) (rwJ f root s k)) (hk : (k : Int) < s 1 0) (h0 : 0 ≤ e) (h1 : e < 4 * (rkJ f K0 s k : Int)) (o01 : ov = 0 ∨ ov = 1)
    (H0 : ∀ h' F, DN f g n root K0 md k e ov s F → F ≠ 0 → h' 34 9 = F → h' 34 10 = rwJ f root s k (e / 4).toNat → h' 34 11 = e % 4 → Sb (h' 36) → FR0 h h' → Q 0 h')
    (H1 : ∀ h' e' ov' s', DG f g n root K0 md k e ov s e' ov' s' → MR f md s' h' → Rm h' (rkJ f K0 s k) (rwJ f root s k) → FR h h' → Go G (pI Q) 223 17 [some (vR 34), some (vI (k : Int)), some (vI ov'), some (vI e'), none, none, none, none] [] h') : Go G (pI Q) 223 17 [some (vR 34), some (vI (k : Int)), some (vI ov), some (vI e), none, none, none, none] [] h := by
  obtain ⟨x1, x2, x3, x4, x5, x6, x8⟩ := id X
  have rl := rm.2.1
  have re := SI_ear S x5.2 hk h0 h1
  have bf := hf.rd (show 0 ≤ ea (rwJ f root s k) e by omega) (show ea (rwJ f root s k) e < 13824 by omega)
  have ea0 : ea (h 39) e = ea (rwJ f root s k) e := ea_cg rm.2.2 h0 h1
  have r101 := rw_101 S x5.2 rm hk h0 h1
  apply q_M_isDirectoryRight_c17
  apply q_M_entries
  rw [rm.1, wI_id (z := 4 * (rkJ f K0 s k : Int)) (by omega) (by omega), wI_id (z := e) (by omega) (by omega)]
  refine ⟨fun z => by omega, fun _ => ?_⟩
  refine M_typeOf (f := f) R.2.1 h0 (by omega) r101 ?_
  rw [ea0, wI_id (z := rd f (ea (rwJ f root s k) e)) (by omega) (by omega), wI_id (z := ov) (by omega) (by omega)]
  have c87 : ¬ (ov = 1 ∧ rd f (ea (rwJ f root s k) e) ≠ 0) → Go G (pI Q) 223 87 [some (vR 34), some (vI (k : Int)), some (vI ov), some (vI e), some (vI (rd f (ea (rwJ f root s k) e))), some (vI 1), none, none] [] h := by
    intro no
    by_cases lo : rd f (ea (rwJ f root s k) e) < 128
    · apply q_M_isDirectoryRight_c87
      rw [wI_id (z := rd f (ea (rwJ f root s k) e)) (by omega) (by omega)]
      have D : DG f g n root K0 md k e ov s (e + 1) (if rd f (ea (rwJ f root s k) e) = 0 then 1 else ov) s := ⟨h1, S, Or.inl ⟨lo, no, rfl, rfl, rfl⟩⟩
      have nx := H1 h (e + 1) _ s D R rm (FR.rf h)
      refine ⟨fun _ => ⟨fun z => ?_, fun z => ?_⟩, fun z => absurd lo z⟩
      · rw [if_pos z] at nx
        have e1 : bO ov 1 = 1 := by
          rcases o01 with q | q <;> rw [q]
          · exact bO01.2.1
          · exact bO01.2.2.2
        rw [e1]
        exact nx
      · rw [if_neg z] at nx
        have e1 : bO ov 0 = ov := by
          rcases o01 with q | q <;> rw [q]
          · exact bO01.1
          · exact bO01.2.2.1
        rw [e1]
        exact nx
    · have ov0 : ov = 0 := (by omega)
      subst ov0
      exact M_set87 hf S X R rm hk h0 h1 (by omega) H0 H1
  refine ⟨fun z => c87 (by omega), fun z => ⟨fun y => c87 (by omega), fun y => ?_⟩⟩
  have ov1 : ov = 1 := (by omega)
  rw [x8, tdiv_pos h0, tmod_pos h0, wI_id (z := e / 4) (by omega) (by omega), rm.2.2 _ (show (e / 4).toNat < rkJ f K0 s k by omega)]
  refine ⟨fun m => ⟨by decide, by omega, by decide, ?_⟩, fun m => ?_⟩
  · have m0 : md = 0 := by
      rcases x6 with q | q
      · exact q
      · rw [q] at m; exact absurd m (by decide)
    apply q_M_meets
    refine ⟨Or.inl rfl, Or.inl rfl, H0 _ 5 ⟨h1, S, m0, Or.inl ⟨ov1, y, rfl⟩⟩ (by decide) ?_ ?_ ?_ ?_ (FR_34 (fun k p => ?_) (fun o p => ?_))⟩
    · rw [hs_k _ _ _ _ _ (by decide), hs_k _ _ _ _ _ (by decide), hs_same]
    · rw [hs_k _ _ _ _ _ (by decide), hs_same]
    · rw [hs_same]
    · rw [hs_o _ _ _ _ _ (by decide), hs_o _ _ _ _ _ (by decide), hs_o _ _ _ _ _ (by decide)]; exact R.2.2.1
    · rw [hs_k _ _ _ _ _ (by omega), hs_k _ _ _ _ _ (by omega), hs_k _ _ _ _ _ (by omega)]
    · rw [hs_o _ _ _ _ _ p, hs_o _ _ _ _ _ p, hs_o _ _ _ _ _ p]
  · have m1 : md = 1 := by
      rcases x6 with q | q
      · rw [q] at m; exact absurd wI_0 m
      · exact q
    refine M_wantType (by rw [hs_o _ _ _ _ _ (by decide)]; exact R.2.2.1) h0 (by omega) (by rw [hs_o _ _ _ _ _ (by decide)]; exact r101) (fun b b6 bu ob => ⟨fun z => absurd z y, fun _ => ?_⟩)
    rw [hs_o _ _ _ _ _ (by decide), hs_o _ _ _ _ _ (by decide), ea0] at bu
    rw [show bO ov 0 = 1 by rw [ov1]; exact bO01.2.2.1]
    have k4 : ∀ k, k ≠ 36 → b 34 k = h 34 k := fun k hk => by rw [ob 34 (by decide)]; exact hs_k _ _ _ _ _ hk
    have o4 : ∀ o, o ≠ 34 → o ≠ 36 → b o = h o := fun o p q => (ob o q).trans (hs_o _ _ _ _ _ p)
    refine H1 b _ _ (edt s (wb (s 5) (ea (rwJ f root s k) e) 1 0) (s 6 0 + 1)) ⟨h1, S, Or.inr (Or.inl ⟨ov1, y, m1, rfl, rfl, rfl⟩)⟩ (MR_edt R b6 ?_ ?_ (k4 34 (by decide)) (fun o p => o4 o (by omega) (by omega))) (Rm_congr (k4 17 (by decide)) (o4 39 (by decide) (by decide)) rm) (FR_36 k4 o4)
    · rw [bu]; exact E_wb (R.2.2.2.1 m1) _ _ _
    · rw [ob 34 (by decide), hs_same, R.2.2.2.2.2.1 m1]
end MZ
