/-! cut: the disk -/
section RLY
variable {w f g : Nat → Int} {n hd tl room rn fs ln tm : Int}
theorem rly_ne {x : Int} (h0 : 0 ≤ hd) (x0 : 0 ≤ x) (h : x < hd ∨ hd + 64 ≤ x) : rd (rly w hd tl rn fs ln tm) x = rd w x := by
  unfold rly sl sst
  rw [rd_wb_ne (by omega) x0 (by omega), rd_wb_ne (by omega) x0 (by omega), rd_wb_ne (by omega) x0 (by omega), rd_wb_ne (by omega) x0 (by omega), rd_wb_ne (by omega) x0 (by omega), rd_wb_ne (by omega) x0 (by omega)]
theorem rly_in {x : Int} (h0 : 0 ≤ hd) (x0 : 0 ≤ x) (h : x < 64) (ne : ¬ ((2 ≤ x ∧ x ≤ 3) ∨ (12 ≤ x ∧ x ≤ 15) ∨ x = 33 ∨ (40 ≤ x ∧ x ≤ 43) ∨ (52 ≤ x ∧ x ≤ 59))) : rd (rly w hd tl rn fs ln tm) (hd + x) = rd w (hd + x) := by
  unfold rly sl sst
  rw [rd_wb_ne (by omega) (by omega) (by omega), rd_wb_ne (by omega) (by omega) (by omega), rd_wb_ne (by omega) (by omega) (by omega), rd_wb_ne (by omega) (by omega) (by omega), rd_wb_ne (by omega) (by omega) (by omega), rd_wb_ne (by omega) (by omega) (by omega)]
theorem rly_56 (h0 : 0 ≤ hd) (l0 : 0 ≤ ln ∧ ln < 4294967296) : u4 (rly w hd tl rn fs ln tm) (hd + 56) = ln := by
  unfold rly sl sst
  rw [u4_wb_ne (by omega) (by omega) (by omega), u4_wb_ne (by omega) (by omega) (by omega), u4_wb (by omega), Int.emod_eq_of_lt l0.1 l0.2]
theorem rly_52 (h0 : 0 ≤ hd) (l0 : 0 ≤ fs ∧ fs < 4294967296) : u4 (rly w hd tl rn fs ln tm) (hd + 52) = fs := by
  unfold rly sl sst
  rw [u4_wb_ne (by omega) (by omega) (by omega), u4_wb_ne (by omega) (by omega) (by omega), u4_wb_ne (by omega) (by omega) (by omega), u4_wb (by omega), Int.emod_eq_of_lt l0.1 l0.2]
theorem rly_40 (h0 : 0 ≤ hd) (l0 : 0 ≤ ln ∧ ln < 4294967296) : u4 (rly w hd tl rn fs ln tm) (hd + 40) = ln := by
  unfold rly sl sst
  rw [u4_wb_ne (by omega) (by omega) (by omega), u4_wb_ne (by omega) (by omega) (by omega), u4_wb_ne (by omega) (by omega) (by omega), u4_wb_ne (by omega) (by omega) (by omega), u4_wb (by omega), Int.emod_eq_of_lt l0.1 l0.2]
theorem rly_33 (h0 : 0 ≤ hd) : rd (rly w hd tl rn fs ln tm) (hd + 33) = (if rn = 0 then 1 else 3) := by
  unfold rly sl sst
  rw [rd_wb_ne (by omega) (by omega) (by omega), rd_wb_ne (by omega) (by omega) (by omega), rd_wb_ne (by omega) (by omega) (by omega), rd_wb_ne (by omega) (by omega) (by omega), rd_wb_ne (by omega) (by omega) (by omega), rd_wb (by omega) (by omega), if_pos (by omega), show (hd + 33 - (hd + 33)).toNat = 0 by omega, Int.pow_zero, Int.ediv_one]
  split <;> rfl
theorem SetOK_rly (s : SetOK f g n hd tl room) (h0 : 0 ≤ hd) (t0 : 0 ≤ tl) (ds : hd + 64 ≤ tl ∨ tl + 64 ≤ hd) (hS : ∀ x, hd ≤ x → x < hd + 64 → rd w x = rd f x) (tS : ∀ x, tl ≤ x → x < tl + 64 → rd w x = rd f x) (l0 : 0 ≤ ln ∧ ln ≤ 128 * n) (hn : n ≤ 100) (f0 : 0 ≤ fs ∧ fs ≤ 1000) (dd : isD f hd → ln ≠ 0 ∧ ln % 128 = 0) (z : ln = 0 → fs = 0 ∧ rn = 0) (nz : ln ≠ 0 → 2 ≤ fs ∧ fs ≤ n + 1) : SetOK (rly w hd tl rn fs ln tm) g n hd tl room := by
  have s3 := SetOK_3 s
  have e4 : u2 (rly w hd tl rn fs ln tm) (hd + 4) = u2 f (hd + 4) := u2_cg (by rw [rly_in h0 (by omega) (by omega) (by omega)]; exact hS _ (by omega) (by omega)) (by rw [show hd + 4 + 1 = hd + 5 by omega, rly_in h0 (by omega) (by omega) (by omega)]; exact hS _ (by omega) (by omega))
  refine SetOK_re s (fun x x0 x1 no => by rw [rly_in h0 x0 x1 (by omega)]; exact hS _ (by omega) (by omega)) (fun x p q => by rw [rly_ne h0 (by omega) (by omega)]; exact tS x p q) (by rw [e4]; exact s.1.2.2.1) (by rw [rly_33 h0]; split; exact Or.inl rfl; exact Or.inr rfl) ?_ ?_
  · unfold LnOK isD isR
    rw [rly_56 h0 (by omega), rly_52 h0 (by omega), rly_40 h0 (by omega), rly_33 h0, e4]
    have e44 : u4 (rly w hd tl rn fs ln tm) (hd + 44) = u4 f (hd + 44) := u4_cg (fun j _ _ => by rw [show hd + 44 + j = hd + (44 + j) by omega, rly_in h0 (by omega) (by omega) (by omega)]; exact hS _ (by omega) (by omega))
    have e60 : u4 (rly w hd tl rn fs ln tm) (hd + 60) = u4 f (hd + 60) := u4_cg (fun j _ _ => by rw [show hd + 60 + j = hd + (60 + j) by omega, rly_in h0 (by omega) (by omega) (by omega)]; exact hS _ (by omega) (by omega))
    rw [e44, e60]
    refine ⟨l0.2, rfl, s.2.2.1.2.2.1, s.2.2.1.2.2.2.1, dd, fun y => ⟨(z y).1, ?_⟩, nz⟩
    rw [if_pos (z y).2]
    decide
  · unfold rly
    refine SmOK_sl h0 t0 ds ?_
    have e1 : rd (wb (sst w hd rn fs ln) (hd + 12) 4 tm) (hd + 1) = rd w (hd + 1) := by
      unfold sst
      rw [rd_wb_ne (by omega) (by omega) (by omega), rd_wb_ne (by omega) (by omega) (by omega), rd_wb_ne (by omega) (by omega) (by omega), rd_wb_ne (by omega) (by omega) (by omega), rd_wb_ne (by omega) (by omega) (by omega)]
    rw [e1, hS _ (by omega) (by omega)]
    omega
end RLY
section VCUT
variable {f g : Nat → Int} {n root mp : Int} {t R : AH}
theorem fzT_hi {w r : Nat → Int} {b x : Int} {keep K : Nat} (hr : ∀ i, i < K → 2 ≤ r i ∧ r i ≤ 101) (x0 : 1024 ≤ x) : rd (fzT w r b keep K) x = rd w x := by
  unfold fzT
  split
  · rename_i c
    rw [ff_ne (by omega) _ (fun i hi => by have := hr (keep + i) (by omega); omega)]
    split
    · rfl
    · have := hr (keep - 1) (by omega)
      exact rd_wb_ne (by omega) (by omega) (by omega)
  · rfl
theorem By_fzT {w r : Nat → Int} {b : Int} {keep K : Nat} (h : By w) : By (fzT w r b keep K) := by
  unfold fzT
  split
  · refine By_ff ?_ _
    split
    · exact h
    · exact By_wb h
  · exact h
/-- the FAT of a CLUSTER that neither goes nor is the last to stay -/
theorem fzT_ft {w r : Nat → Int} {b c : Int} {keep K : Nat} (hr : ∀ i, i < K → 2 ≤ r i ∧ r i ≤ 101) (c0 : 0 ≤ c) (nc : ∀ i, i < K → keep ≤ i + 1 → c ≠ r i) : ft (fzT w r b keep K) c = ft w c := by
  unfold fzT
  split
  · rename_i q
    refine u4_cg (fun j _ _ => ?_)
    rw [ff_ne (by omega) _ (fun i hi => by
      have := hr (keep + i) (by omega)
      have := nc (keep + i) (by omega) (by omega)
      omega)]
    split
    · rfl
    · have := hr (keep - 1) (by omega)
      have := nc (keep - 1) (by omega) (by omega)
      exact rd_wb_ne (by omega) (by omega) (by omega)
  · rfl
theorem fzT_end {w r : Nat → Int} {keep K : Nat} (hr : ∀ i, i < K → 2 ≤ r i ∧ r i ≤ 101) (dj : ∀ i j, i < j → j < K → r i ≠ r j) (k1 : 1 ≤ keep) (k2 : keep < K) : ft (fzT w r 0 keep K) (r (keep - 1)) = 4294967295 := by
  unfold fzT
  rw [if_pos ⟨rfl, k2⟩, if_neg (show ¬ keep = 0 by omega)]
  have c := hr (keep - 1) (by omega)
  have e : ft (ff (wb w (512 + 4 * r (keep - 1)) 4 4294967295) r keep (K - keep)) (r (keep - 1)) = ft (wb w (512 + 4 * r (keep - 1)) 4 4294967295) (r (keep - 1)) := u4_cg (fun j _ _ => ff_ne (by omega) _ (fun i hi => by
    have := hr (keep + i) (by omega)
    have := dj (keep - 1) (keep + i) (by omega) (by omega)
    omega))
  rw [e]
  unfold ft
  rw [u4_wb (by omega)]
  rfl
theorem V_cut (v : V f g n root mp t R) {jj keep : Nat} (q1 : 1 ≤ jj) (q : al t jj) (nd : ¬ isD f (ha (t 1 jj))) {ln tm : Int} (l0 : 0 ≤ ln ∧ ln ≤ u4 f (ha (t 1 jj) + 56)) (kk : (keep : Int) = (ln + 127) / 128) : V (fbm (fzT (rly f (ha (t 1 jj)) (ea (R (pt t jj)) (t 3 jj + 2)) (if keep = 0 then 0 else bR f (t 1 jj)) (if keep = 0 then 0 else R jj 0) ln tm) (R jj) (bR f (t 1 jj)) keep (Kt t jj)) mp (R jj) keep (Kt t jj - keep)) g n root mp (tk t jj keep) (up R jj (R jj)) := by
  have nn := V_n v
  have hf := V_by v
  have wa := V_at v q1 q
  have cl := V_cl v q1 q
  have ra := ha_rng cl.1 nn.2
  have hd := V_hd v q1 q
  have tl := V_tl v q1 q
  have ht := V_ht v q1 q q1 q
  have ok := V_ln v q1 q
  have wp := v.1.2.2.2.1 jj q1 q
  have ct := (v.1.2.1 _ wp.1 _ tl.2.2.1).1
  have ctm := (v.1.2.1 _ wp.1 _ tl.2.2.1).2
  have chm := (v.1.2.1 _ wp.1 _ hd.2.2.1).2
  have ch := (v.1.2.1 _ wp.1 _ hd.2.2.1).1
  have mpc := V_mp v
  unfold clu at ct ch mpc
  obtain ⟨r1, r2, r3⟩ := v.2.2.1 jj q
  have p0 : t 1 jj ≠ 0 := (by omega)
  rw [rwP_n f root p0] at r2 r3
  rw [rkP_n f _ p0] at r1
  have l56 := ok.2.2.1.1
  have kn := V_K v q
  have keepK : keep ≤ Kt t jj := (by omega)
  have rr : ∀ i, i < Kt t jj → 2 ≤ R jj i ∧ R jj i ≤ 101 := fun i hi => by
    have := (v.1.2.1 jj q i hi).1
    unfold clu at this
    omega
  have dj : ∀ i j, i < j → j < Kt t jj → R jj i ≠ R jj j := fun i j a b z => by
    have := (v.1.2.2.1 jj jj i j q q (by omega) b z).2
    omega
  generalize ern : (if keep = 0 then 0 else bR f (t 1 jj)) = rn
  generalize efs : (if keep = 0 then 0 else R jj 0) = fs
  have b01 : bR f (t 1 jj) = 0 ∨ bR f (t 1 jj) = 1 := by
    unfold bR
    split
    · exact Or.inr rfl
    · exact Or.inl rfl
  have fsr : 0 ≤ fs ∧ fs ≤ 101 := by
    rw [← efs]
    by_cases z : keep = 0
    · rw [if_pos z]; decide
    · rw [if_neg z]
      have := rr 0 (by omega)
      omega
  have tr : 1024 ≤ ea (R (pt t jj)) (t 3 jj + 2) := by unfold ca at tl; omega
  have sok : SetOK (rly f (ha (t 1 jj)) (ea (R (pt t jj)) (t 3 jj + 2)) rn fs ln tm) g n (ha (t 1 jj)) (ea (R (pt t jj)) (t 3 jj + 2)) (4 * (Kt t (pt t jj) : Int) - t 3 jj) := by
    refine SetOK_rly ok wa.1 (by omega) (by omega) (fun _ _ _ => rfl) (fun _ _ _ => rfl) ⟨l0.1, by omega⟩ nn.2 (by omega) (fun z => absurd z nd) (fun z => ?_) (fun z => ?_)
    · have : keep = 0 := (by omega)
      rw [← ern, ← efs, if_pos this, if_pos this]
      exact ⟨rfl, rfl⟩
    · have kz : keep ≠ 0 := (by omega)
      have c0 := (v.1.2.1 jj q 0 (by omega)).1
      unfold clu at c0
      rw [← efs, if_neg kz]
      omega
  generalize ew1 : rly f (ha (t 1 jj)) (ea (R (pt t jj)) (t 3 jj + 2)) rn fs ln tm = w1 at sok
  have w1n : ∀ x, 0 ≤ x → (x < ha (t 1 jj) ∨ ha (t 1 jj) + 64 ≤ x) → rd w1 x = rd f x := fun x x0 h => by rw [← ew1]; exact rly_ne wa.1 x0 h
  have byw1 : By w1 := by rw [← ew1]; unfold rly sl sst; exact By_wb (By_wb (By_wb (By_wb (By_wb (By_wb hf)))))
  have f56 : u4 w1 (ha (t 1 jj) + 56) = ln := by rw [← ew1]; exact rly_56 wa.1 (by omega)
  have f52 : u4 w1 (ha (t 1 jj) + 52) = fs := by rw [← ew1]; exact rly_52 wa.1 (by omega)
  have f33 : rd w1 (ha (t 1 jj) + 33) = (if rn = 0 then 1 else 3) := by rw [← ew1]; exact rly_33 wa.1
  have f35 : rd w1 (ha (t 1 jj) + 35) = rd f (ha (t 1 jj) + 35) := by rw [← ew1]; exact rly_in wa.1 (by omega) (by omega) (by omega)
  have f4 : u2 w1 (ha (t 1 jj) + 4) = u2 f (ha (t 1 jj) + 4) := by rw [← ew1]; exact u2_cg (rly_in wa.1 (by omega) (by omega) (by omega)) (by rw [show ha (t 1 jj) + 4 + 1 = ha (t 1 jj) + 5 by omega]; exact rly_in wa.1 (by omega) (by omega) (by omega))
  clear ew1
  generalize ew2 : fzT w1 (R jj) (bR f (t 1 jj)) keep (Kt t jj) = w2
  have w2h : ∀ x, 1024 ≤ x → rd w2 x = rd w1 x := fun x p => by rw [← ew2]; exact fzT_hi rr p
  have byw2 : By w2 := by rw [← ew2]; exact By_fzT byw1
  generalize ew3 : fbm w2 mp (R jj) keep (Kt t jj - keep) = w3
  have rk : ∀ i, i < Kt t jj - keep → 2 ≤ R jj (keep + i) ∧ R jj (keep + i) ≤ 101 := fun i hi => rr _ (by omega)
  have w3n : ∀ x, 0 ≤ x → (x < ca mp ∨ ca mp + 128 ≤ x) → rd w3 x = rd w2 x := fun x x0 h => by rw [← ew3]; exact fbm_ne (by omega) x0 h _ rk
  have byw3 : By w3 := by rw [← ew3]; exact By_fbm byw2 _
  have caM : 1024 ≤ ca mp := by unfold ca; omega
  have hi : ∀ x, 1024 ≤ x → (x < ca mp ∨ ca mp + 128 ≤ x) → rd w3 x = rd w1 x := fun x p h => by rw [w3n x (by omega) h]; exact w2h x p
  have hdm : ha (t 1 jj) + 64 ≤ ca mp ∨ ca mp + 128 ≤ ha (t 1 jj) := by unfold ca at hd ⊢; omega
  have tlm : ea (R (pt t jj)) (t 3 jj + 2) + 64 ≤ ca mp ∨ ca mp + 128 ≤ ea (R (pt t jj)) (t 3 jj + 2) := by unfold ca at tl ⊢; omega
  have ftS : ∀ c, clu n c → (∀ i, i < Kt t jj → keep ≤ i + 1 → c ≠ R jj i) → ft w3 c = ft f c := fun c hc nc => by
    unfold clu at hc
    have e1 : ft w3 c = ft w2 c := u4_cg (fun j _ _ => w3n _ (by omega) (by omega))
    have e2 : ft w2 c = ft w1 c := by rw [← ew2]; exact fzT_ft rr (by omega) nc
    have e3 : ft w1 c = ft f c := u4_cg (fun j _ _ => w1n _ (by omega) (by omega))
    rw [e1, e2, e3]
  have tbS : ∀ c, clu n c → (∀ i, i < Kt t jj - keep → c ≠ R jj (keep + i)) → tb w3 mp c = tb f mp c := fun c hc nc => by
    unfold clu at hc
    have e1 : tb w3 mp c = tb w2 mp c := by rw [← ew3]; exact tb_fbm byw2 (by omega) (by omega) _ (fun i hi => ⟨rk i hi, nc i hi⟩)
    have e2 : tb w2 mp c = tb f mp c := by
      unfold tb
      rw [w2h _ (by omega), w1n _ (by omega) (by unfold ca at hd ⊢; omega)]
    rw [e1, e2]
  have g56 : u4 w3 (ha (t 1 jj) + 56) = ln := by rw [← f56]; exact u4_cg (fun j _ _ => hi _ (by omega) (by omega))
  have g52 : u4 w3 (ha (t 1 jj) + 52) = fs := by rw [← f52]; exact u4_cg (fun j _ _ => hi _ (by omega) (by omega))
  have gb : bR w3 (t 1 jj) = rn := by
    unfold bR
    rw [hi _ (by omega) (by omega), f33]
    have r01 : rn = 0 ∨ rn = 1 := by
      rw [← ern]
      split
      · exact Or.inl rfl
      · exact b01
    rcases r01 with z | z <;> rw [z] <;> rfl
  have row : ∀ i, i < keep → tc w3 rn fs i = R jj i := by
    intro i
    induction i with
    | zero =>
      intro h0
      show fs = _
      rw [← efs, if_neg (by omega)]
    | succ i ih =>
      intro h0
      have kz : ¬ keep = 0 := (by omega)
      show nxt w3 rn (tc w3 rn fs i) = _
      rw [ih (by omega)]
      have o1 := r2 (i + 1) (by omega)
      have o2 : nxt f (bR f (t 1 jj)) (R jj i) = R jj (i + 1) := by
        rw [← r2 i (by omega)]
        exact o1
      rw [← ern, if_neg kz]
      unfold nxt at o2 ⊢
      by_cases z : bR f (t 1 jj) = 1
      · rw [if_pos z] at o2 ⊢; exact o2
      · rw [if_neg z] at o2 ⊢
        rw [ftS _ (v.1.2.1 jj q i (by omega)).1 (fun j hj hk => by
          rcases Nat.lt_trichotomy i j with y | y | y
          · exact dj i j y hj
          · omega
          · omega)]
        exact o2
  refine V_up v q1 q byw3 (fun j a d i hi' x x0 x1 no => ?_) (fun j a nj i hi' => ftS _ (v.1.2.1 j a i hi').1 (fun i2 h2 _ z => nj (v.1.2.2.1 j jj i i2 a q hi' h2 z).1)) ?_ (by rw [hi _ (by omega) (by omega)]; exact f35) ?_ (fun i hi' => v.1.2.1 jj q i (by omega)) (fun i i' a b => dj i i' a (by omega)) (fun j a nj i i' hi' h2 z => nj (v.1.2.2.1 j jj i i' a q hi' (by omega) z).1) ⟨?_, fun i hi' => ?_, fun b kp => ?_⟩ (fun z => absurd z nd) (fun j a nj i hi' => ?_) (fun i hi' => ?_) ?_
  · have c := v.1.2.1 j a i hi'
    have c1 := c.1
    have c2 := c.2
    unfold clu at c1
    unfold ca at x0 x1
    rw [hi x (by omega) (by unfold ca; omega)]
    exact w1n x (by omega) (by omega)
  · exact SetOK_congr (fun x p r => (hi x (by omega) (by omega)).symm) (fun x p r => (hi x (by omega) (by omega)).symm) sok
  · have e4 : u2 w3 (ha (t 1 jj) + 4) = u2 f (ha (t 1 jj) + 4) := by rw [← f4]; exact u2_cg (hi _ (by omega) (by omega)) (hi _ (by omega) (by omega))
    unfold isD
    rw [e4]
  · rw [rkP_n _ _ p0, g56]; omega
  · rw [rwP_n _ root p0, gb, g52]
    exact row i hi'
  · rw [rwP_n _ root p0, gb, g52]
    rw [gb] at b
    have kz : ¬ keep = 0 := (by omega)
    have bz : bR f (t 1 jj) = 0 := by rw [← ern, if_neg kz] at b; exact b
    obtain ⟨k', ek⟩ : ∃ k', keep = k' + 1 := ⟨keep - 1, by omega⟩
    rw [ek]
    show nxt w3 rn (tc w3 rn fs k') = _
    rw [row k' (by omega), b]
    unfold nxt
    rw [if_neg (by decide)]
    have ck := (v.1.2.1 jj q k' (by omega)).1
    have ck2 := ck
    unfold clu at ck2
    by_cases z : keep < Kt t jj
    · have e1 : ft w3 (R jj k') = ft w2 (R jj k') := u4_cg (fun j _ _ => w3n _ (by omega) (by omega))
      rw [e1, ← ew2, bz]
      have := fzT_end (w := w1) rr dj (show 1 ≤ keep by omega) z
      rw [show keep - 1 = k' by omega] at this
      exact this
    · have e : ft w3 (R jj k') = ft f (R jj k') := by
        have e1 : ft w3 (R jj k') = ft w2 (R jj k') := u4_cg (fun j _ _ => w3n _ (by omega) (by omega))
        have e2 : ft w2 (R jj k') = ft w1 (R jj k') := by
          rw [← ew2]
          unfold fzT
          rw [if_neg (by omega)]
        have e3 : ft w1 (R jj k') = ft f (R jj k') := u4_cg (fun j _ _ => w1n _ (by omega) (by omega))
        rw [e1, e2, e3]
      rw [e]
      have o := r3 (Or.inr bz) (by omega)
      rw [show Kt t jj = k' + 1 by omega] at o
      have o2 : nxt f (bR f (t 1 jj)) (tc f (bR f (t 1 jj)) (u4 f (ha (t 1 jj) + 52)) k') = 4294967295 := o
      rw [r2 k' (by omega)] at o2
      unfold nxt at o2
      rw [if_neg (by omega)] at o2
      exact o2
  · rw [tbS _ (v.1.2.1 j a i hi').1 (fun i2 h2 z => nj (v.1.2.2.1 j jj i (keep + i2) a q hi' (by omega) z).1)]
    exact v.2.2.2.2.2.1 j a i hi'
  · rw [tbS _ (v.1.2.1 jj q i (by omega)).1 (fun i2 h2 => dj i (keep + i2) (by omega) (by omega))]
    exact v.2.2.2.2.2.1 jj q i (by omega)
  · rw [tbS mp (V_mp v) (fun i2 h2 z => (v.1.2.1 jj q (keep + i2) (by omega)).2 z.symm)]
    exact v.2.2.2.2.2.2.1
end VCUT
