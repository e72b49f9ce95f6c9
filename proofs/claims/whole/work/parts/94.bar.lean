/-! bar -/
theorem SetOK_re {f f' g : Nat → Int} {n hd tl room : Int} (s : SetOK f g n hd tl room) (e : ∀ x : Int, 0 ≤ x → x < 64 → ¬ ((2 ≤ x ∧ x ≤ 5) ∨ (8 ≤ x ∧ x ≤ 15) ∨ x = 33 ∨ (40 ≤ x ∧ x ≤ 43) ∨ (52 ≤ x ∧ x ≤ 59)) → rd f' (hd + x) = rd f (hd + x)) (b : ∀ x, tl ≤ x → x < tl + 64 → rd f' x = rd f x) (at' : At (u2 f' (hd + 4))) (rn : rd f' (hd + 33) = 1 ∨ rd f' (hd + 33) = 3) (ln : LnOK f' n hd) (sm : SmOK f' hd tl) : SetOK f' g n hd tl room := by
  have h3 := SetOK_3 s
  obtain ⟨⟨p1, p2, p3, p4, p5⟩, ⟨q1, q2, q3, q4, q5⟩, _, ⟨n1, n2, n3, n4, n5, n6⟩, _⟩ := s
  have ex : ∀ x : Int, hd ≤ x → x < hd + 64 → ¬ ((2 ≤ x - hd ∧ x - hd ≤ 5) ∨ (8 ≤ x - hd ∧ x - hd ≤ 15) ∨ x - hd = 33 ∨ (40 ≤ x - hd ∧ x - hd ≤ 43) ∨ (52 ≤ x - hd ∧ x - hd ≤ 59)) → rd f' x = rd f x := fun x a b c => by
    have := e (x - hd) (by omega) (by omega) c
    rw [show hd + (x - hd) = x by omega] at this
    exact this
  have lts : ∀ i : Nat, i < 30 → lt f' tl i = lt f tl i := fun i hi => by
    have := la_rng (tl := tl) (i := (i : Int)) (by omega) (by omega)
    exact u2_cg (b _ (by omega) (by omega)) (b _ (by omega) (by omega))
  have e1 : rd f' (hd + 1) = rd f (hd + 1) := e 1 (by omega) (by omega) (by omega)
  have e35 : rd f' (hd + 35) = rd f (hd + 35) := e 35 (by omega) (by omega) (by omega)
  have e36 : u2 f' (hd + 36) = u2 f (hd + 36) := u2_cg (e 36 (by omega) (by omega) (by omega)) (by rw [show hd + 36 + 1 = hd + 37 by omega]; exact e 37 (by omega) (by omega) (by omega))
  refine ⟨⟨by rw [ex hd (by omega) (by omega) (by omega)]; exact p1, by rw [e1]; exact p2, at', fun x x0 x1 => by rw [ex x (by omega) (by omega) (by omega)]; exact p4 x x0 x1, fun x x0 x1 => by rw [ex x (by omega) (by omega) (by omega)]; exact p5 x x0 x1⟩, ⟨by rw [e 32 (by omega) (by omega) (by omega)]; exact q1, rn, by rw [e 34 (by omega) (by omega) (by omega)]; exact q3, fun x x0 x1 => by rw [ex x (by omega) (by omega) (by omega)]; exact q4 x x0 x1, fun x x0 x1 => by rw [ex x (by omega) (by omega) (by omega)]; exact q5 x x0 x1⟩, ln, ⟨by rw [e35]; exact n1, by rw [e1, e35]; exact n2, ?_, ?_, fun i i0 i1 => ?_, fun i i0 i1 => ?_⟩, sm⟩
  · rw [e35]
    exact isNm_congr (fun i hi => (lts i (by omega)).symm) n3
  · rw [e35, e36, ← n4]
    refine (hsh_congr (fun i hi => ⟨(lts i (by omega)).symm, ?_⟩) (fun _ _ => rfl)).symm
    have := isLet_rng (n3.2.2.1 i (by omega))
    omega
  · rw [e1] at i1
    have := n5 i i0 i1
    rw [b _ (by omega) (by omega), b _ (by omega) (by omega)]
    exact this
  · rw [e1] at i1
    rw [e35] at i0
    rw [lts i (by omega)]
    exact n6 i i0 i1
/-- a SET is sealed -/
noncomputable def sl (x : Nat → Int) (hd tl : Int) : Nat → Int := wb x (hd + 2) 2 (ssum x hd tl (32 * (1 + rd x (hd + 1))).toNat)
theorem SmOK_sl {x : Nat → Int} {hd tl : Int} (h0 : 0 ≤ hd) (t0 : 0 ≤ tl) (ds : hd + 64 ≤ tl ∨ tl + 64 ≤ hd) (k : rd x (hd + 1) ≤ 3) : SmOK (sl x hd tl) hd tl := by
  unfold SmOK sl
  have e1 : rd (wb x (hd + 2) 2 (ssum x hd tl (32 * (1 + rd x (hd + 1))).toNat)) (hd + 1) = rd x (hd + 1) := rd_wb_ne (by omega) (by omega) (by omega)
  have r := ssum_rng x hd tl (32 * (1 + rd x (hd + 1))).toNat
  rw [e1, u2_wb (by omega), Int.emod_eq_of_lt r.1 r.2]
  refine ssum_congr (fun j hj j2 j3 => ?_)
  unfold so
  split
  · exact rd_wb_ne (by omega) (by omega) (by omega)
  · exact rd_wb_ne (by omega) (by omega) (by omega)
theorem Inv_mk {h h2 : AH} (hI : Inv Mo h) (sy : Syn h2) (s5 : Sb (h2 35)) (s6 : Sb (h2 36)) (d : ∀ k, k < 13824 → h2 2 k = ub (h2 35) k) (f1 : h2 1 3 = h2 34 5) (f2 : 0 ≤ h2 1 3 ∧ h2 1 3 ≤ 1000) (f3 : h2 1 4 = h2 34 6) (m : h2 0 8 = h2 34 3) (m01 : h2 0 8 = 0 ∨ h2 0 8 = 1) (t : h2 26 5 = h 26 5) (o32 : h2 32 1 = h 32 1) (o33 : h2 33 = h 33) (o52 : h2 52 = h 52) (o17 : h2 17 = h 17) (k9 : ∀ k, (k = 4 ∨ (9 ≤ k ∧ k ≤ 11) ∨ k = 41) → h2 34 k = h 34 k) (M : h2 0 8 = 1 → Mo h2) : Inv Mo h2 := by
  obtain ⟨⟨c1, c2, c3, c4⟩, _⟩ := hI
  exact ⟨⟨⟨sy, s5, s6, d⟩, ⟨f1, f2, f3, m, m01, by rw [t, k9 4 (by omega)]; exact c2.2.2.2.2.2⟩, C3_congr o32 (k9 41 (by omega)) o33 o52 c3, C4_congr (by rw [o17]) (by rw [o17]) (by rw [o17]) (k9 9 (by omega)) (k9 10 (by omega)) (k9 11 (by omega)) c4⟩, M⟩
theorem Hd_keep {f f' : Nat → Int} {t t' R R' h h' : AH} (hd : Hd f t R h) (a : ∀ j, al t' j ↔ al t j) (d : ∀ j, al t j → (dirT f' t' j ↔ dirT f t j)) (k : ∀ j, al t j → dirT f t j → Kt t' j = Kt t j ∧ ∀ i, i < Kt t j → R' j i = R j i) (p : ∀ j, t' 1 j = t 1 j) (e2 : h' 12 = h 12) (e3 : h' 13 = h 13) : Hd f' t' R' h' := by
  refine ⟨fun c hc => ?_, fun j i aj dj hi => ?_⟩
  · rw [e2]
    rcases hd.1 c hc with q | ⟨j, i, aj, dj, hi, e⟩
    · exact Or.inl q
    · have kk := k j aj dj
      exact Or.inr ⟨j, i, (a j).mpr aj, (d j aj).mpr dj, by rw [kk.1]; exact hi, by rw [kk.2 i hi]; exact e⟩
  · rw [a] at aj
    rw [d j aj] at dj
    have kk := k j aj dj
    rw [kk.1] at hi
    have q := hd.2 j i aj dj hi
    rw [e2, e3, kk.2 i hi, p, kk.1, q.1, q.2]
    refine ⟨rfl, ?_⟩
    by_cases z : i + 1 < Kt t j
    · rw [if_pos z, if_pos z, kk.2 _ z]
    · rw [if_neg z, if_neg z]
section BAR
variable {G : GG} {h : AH}
/-- what dirt makes of the disk -/
noncomputable def so1 (f : Nat → Int) : Nat → Int := wb f 44 1 (bO (rd f 44) 2)
theorem A_soil {P : Int → AH → Prop} (sy : Syn h) (hf : 0 ≤ h 1 3 ∧ h 1 3 ≤ 1000) (H : ∀ r h', Fl 216 (h 3) (so1 (h 3)) (h 1 3) (h 1 4) r (h' 2) (h' 1 3) (h' 1 4) → (r = 0 ∨ r = 1) → Syn h' → (r = 1 → h' 3 = so1 (h 3)) → (∀ k, k ≠ 3 → k ≠ 4 → h' 1 k = h 1 k) → (∀ o, o ≠ 1 → o ≠ 2 → o ≠ 3 → o ≠ 4 → h' o = h o) → P r h') : RunsI G 12 [vR 26] h P := by
  apply q_A_soil
  refine D_get (by decide) (by decide) (D_wb1 sy.1 (by decide) (by decide) (fun b u => ?_))
  have b1 : b 1 = h 1 := u.2.2 1 (by decide) (by decide)
  have b2 : b 2 = h 2 := u.2.2 2 (by decide) (by decide)
  refine D_flush u.1 (by rw [b1]; exact hf) (fun r c fl r01 sy2 e3 k o => ⟨r01, H r c ?_ r01 sy2 (fun z => (e3 z).trans u.2.1) (fun k' p q => (k k' p q).trans (by rw [b1])) (fun o' p q r' s => (o o' p q r' s).trans (u.2.2 o' r' s))⟩)
  rw [b1, b2, u.2.1] at fl
  exact Fl_cg (Nat.le_refl _) (fun k hk => (sy.2.1 k hk).symm) (fun _ _ => rfl) fl
theorem M_dirty {P : Int → AH → Prop} {f : Nat → Int} (h5 : Sb (h 35)) (h6 : Sb (h 36)) (hE : E (ub (h 35)) f) (hW : E (ub (h 36)) f) (hf : 0 ≤ h 34 5 ∧ h 34 5 ≤ 1000) (H : ∀ r h', Fl 216 f (so1 f) (h 34 5) (h 34 6) r (ub (h' 35)) (h' 34 5) (h' 34 6) → (r = 0 ∨ r = 1) → Sb (h' 35) → Sb (h' 36) → E (ub (h' 36)) (so1 f) → h' 34 3 = (if r = 1 then h 34 3 else 0) → (∀ k, k ≠ 3 → k ≠ 5 → k ≠ 6 → h' 34 k = h 34 k) → (∀ o, o ≠ 34 → o ≠ 35 → o ≠ 36 → h' o = h o) → P r h') : RunsI G 179 [vR 34] h P := by
  have byf : By f := hE.by (ub_By _)
  apply q_M_dirty
  refine ⟨by decide, by decide, ?_⟩
  generalize eg : hs h 36 44 (w8 (w8 (bO (h 36 44) 2))) = b
  have s6 : Sb (b 36) := by rw [← eg]; exact Sb_set h6 _ (w8_rng _).1 (w8_rng _).2
  have ob : ∀ o, o ≠ 36 → b o = h o := fun o p => by rw [← eg]; exact hs_o _ _ _ _ _ p
  have w6 : E (ub (b 36)) (so1 f) := by
    rw [← eg, ub_w8]
    unfold so1
    have e : bO (h 36 44) 2 % 256 = bO (rd f 44) 2 % 256 := by
      apply bO_mod_congr
      have q := hW 44 (by decide)
      have := byf 44 (by decide)
      unfold ub at q
      rw [q]
      show f 44 = f 44 % 256
      omega
    show E (wb (ub (h 36)) 44 1 (bO (h 36 44) 2)) _
    rw [wb1_mod' e]
    exact E_wb hW _ _ _
  clear eg
  refine M_flush (by rw [ob 35 (by decide)]; exact h5) s6 (by rw [ob 34 (by decide)]; exact hf) (fun r c fl r01 c5 c6 c3 ck oc => ⟨r01, H r c ?_ r01 c5 (by rw [c6]; exact s6) (by rw [c6]; exact w6) (by rw [c3, ob 34 (by decide)]) (fun k p q r => by rw [ck k p q r, ob 34 (by decide)]) (fun o p q r => by rw [oc o p q, ob o r])⟩)
  rw [ob 34 (by decide), ob 35 (by decide)] at fl
  exact Fl_cg (Nat.le_refl _) hE w6 fl
theorem E_seal {P : AH → Prop} {x tl : Int} (hd : Dk h) (x0 : 0 ≤ x) (x1 : x + 64 ≤ 13824) (hk : 1 ≤ rd (h 3) (x + 1) ∧ rd (h 3) (x + 1) ≤ 3) (t0 : 0 ≤ tl) (t1 : tl + 64 ≤ 13824) (H : ∀ h', Upd h h' (sl (h 3) x tl) → P h') : RunsV G 106 [vR 10, vI x, vI tl] h P := by
  apply q_E_seal
  exact E_sum hd.2.1 x0 x1 hk t0 t1 (D_wb2 hd (by omega) (by omega) H)
theorem M_seal {P : AH → Prop} {w r : Nat → Int} {e : Int} {m K : Nat} (h6 : Sb (h 36)) (hW : E (ub (h 36)) w) (hr : ∀ i, i < K → h 39 i = r i) (rr : ∀ i, i < K → 2 ≤ r i ∧ r i ≤ 101) (e0 : 0 ≤ e) (e2 : e % 2 = 0) (m3 : m = 3 ∨ m = 4) (em : e + m ≤ 4 * (K : Int)) (kk : K ≤ 102) (hm : (m : Int) = 1 + rd w (ea r e + 1)) (H : ∀ h', Sb (h' 36) → E (ub (h' 36)) (sl w (ea r e) (ea r (e + 2))) → (∀ o, o ≠ 36 → h' o = h o) → P h') : RunsV G 253 [vR 34, vI e, vI (m : Int)] h P := by
  have ea0 : ea (h 39) e = ea r e := ea_cg hr e0 (by omega)
  have ea2 : ea (h 39) (e + 2) = ea r (e + 2) := ea_cg hr (by omega) (by omega)
  have er := ea_rng (r := r) (e := e) e0 (rr _ (by omega))
  apply q_M_seal
  refine M_entryAt e0 (by omega) ?_
  refine M_setSum_36 hW e0 e2 (by omega) (fun i i0 i1 => by rw [hr _ (by omega)]; exact rr _ (by omega)) (by omega) ?_
  rw [ea0, ea2]
  have sr := ssum_rng w (ea r e) (ea r (e + 2)) (32 * m)
  rw [wI_id (z := ssum w (ea r e) (ea r (e + 2)) (32 * m)) (by omega) (by omega)]
  refine M_put_36 (n := 2) h6 (by omega) (by omega) (by omega) (by omega) (fun b b6 bu ob => H b b6 ?_ ob)
  rw [bu]
  unfold sl
  rw [show (32 * (1 + rd w (ea r e + 1))).toNat = 32 * m by omega]
  exact E_wb hW _ _ _
end BAR
