theorem kd_lt {o a : Nat} (h : ob_kd o = a) (ha : a < 17) : o < 60 := by
  by_cases ho : o < 60
  · exact ho
  · exfalso
    have : ob_kd o = 99 := by
      unfold ob_kd
      rw [List.getD_eq_getElem?_getD, List.getElem?_eq_none (by simp only [List.length_cons, List.length_nil]; omega)]
      rfl
    omega
theorem fd_n_lt {a b : Nat} (h : b + 1 ≤ fd_n a) : a < 13 := by
  by_cases ha : a < 13
  · exact ha
  · exfalso
    have : fd_n a = 0 := by
      unfold fd_n
      rw [List.getD_eq_getElem?_getD, List.getElem?_eq_none (by simp only [List.length_cons, List.length_nil]; omega)]
      rfl
    omega
theorem cell_ob {G : GG} {h : AH} {o a : Nat} (hk : ob_kd o = a) (ha : a < 13) : (gW G h)[o]? = some (G.2.2.2.2 o, .inr (a, (List.range (fd_n a)).map (fun k => cv G.2.2.2.2 (fv o (h o) k)))) := by
  rw [wd_get (kd_lt hk (by omega))]
  unfold ob_cell
  rw [hk, if_pos ha]
theorem cell_ai {G : GG} {h : AH} {o a : Nat} (hk : ob_kd o = a) (ha : a = 13 ∨ a = 14 ∨ a = 16) : (gW G h)[o]? = some (G.2.2.2.2 o, .inl (G.2.2.2.1 a, ob_ln o, .inl (fun k => Int32.ofInt (h o k)))) := by
  rw [wd_get (kd_lt hk (by omega))]
  unfold ob_cell
  rw [hk, if_neg (by omega), if_neg (by omega)]
theorem cell_al {G : GG} {h : AH} {o : Nat} (hk : ob_kd o = 15) : (gW G h)[o]? = some (G.2.2.2.2 o, .inl (G.2.2.2.1 15, ob_ln o, .inr (.inl (fun k => Int64.ofInt (h o k))))) := by
  rw [wd_get (kd_lt hk (by omega))]
  unfold ob_cell
  rw [hk, if_neg (by omega), if_pos rfl]
theorem fs_get {G : GG} {h : AH} {o a b : Nat} (hb : b + 1 ≤ fd_n a) : ((List.range (fd_n a)).map (fun k => cv G.2.2.2.2 (fv o (h o) k)))[b]? = some (cv G.2.2.2.2 (fv o (h o) b)) := by
  simp [show b < fd_n a from hb]
/-- the world behind a field's change -/
theorem wd_putf {G : GG} {h : AH} {o a b : Nat} {x : Int} {v : AV} (hk : ob_kd o = a) (ha : a < 13) (hv : ∀ f : Nat → Int, f b = x → fv o f b = v) : (gW G h).set o (G.2.2.2.2 o, .inr (a, ((List.range (fd_n a)).map (fun k => cv G.2.2.2.2 (fv o (h o) k))).set b (cv G.2.2.2.2 v))) = gW G (hs h o b x) := by
  refine wd_set ?_ (fun q hq => hs_ne h o b x q hq)
  unfold ob_cell
  rw [hk, if_pos ha, hs_eq]
  congr 2
  apply List.ext_getElem?
  intro j
  rw [List.getElem?_set]
  by_cases hj : j < fd_n a
  · by_cases hq : b = j
    · subst hq
      simp [hj, hv (fun k' => if k' = b then x else h o k') (if_pos rfl)]
    · rw [if_neg hq]
      simp only [List.getElem?_map, List.getElem?_range hj, Option.map_some]
      congr 2
      unfold fv
      simp only [if_neg (show ¬ j = b from fun q => hq q.symm)]
  · have e1 : ∀ g : Nat → Value, ((List.range (fd_n a)).map g)[j]? = none := fun g => List.getElem?_eq_none (by simp; omega)
    rw [e1]
    split
    · rename_i hq
      subst hq
      simp [hj]
    · exact (e1 _).symm
theorem wd_puta {G : GG} {h : AH} {o a k : Nat} {x : Int} (hk : ob_kd o = a) (ha : a = 13 ∨ a = 14 ∨ a = 16) : (gW G h).set o (G.2.2.2.2 o, .inl (G.2.2.2.1 a, ob_ln o, .inl (upd (fun k => Int32.ofInt (h o k)) k (Int32.ofInt x)))) = gW G (hs h o k x) := by
  refine wd_set ?_ (fun q hq => hs_ne h o k x q hq)
  unfold ob_cell
  rw [hk, if_neg (by omega), if_neg (by omega), hs_eq]
  congr 3
  congr 1
  funext j
  unfold upd
  dsimp only
  split <;> rfl
theorem wd_putl {G : GG} {h : AH} {o k : Nat} {x : Int} (hk : ob_kd o = 15) : (gW G h).set o (G.2.2.2.2 o, .inl (G.2.2.2.1 15, ob_ln o, .inr (.inl (vp_updL (fun k => Int64.ofInt (h o k)) k (Int64.ofInt x))))) = gW G (hs h o k x) := by
  refine wd_set ?_ (fun q hq => hs_ne h o k x q hq)
  unfold ob_cell
  rw [hk, if_neg (by omega), if_pos rfl, hs_eq]
  congr 3
  congr 2
  funext j
  unfold vp_updL
  dsimp only
  split <;> rfl
theorem akOk_of {a k : Nat} (h : akOk a k = true) : (a = 0 ∧ k = 14) ∨ (a = 1 ∧ k = 13) ∨ (a = 1 ∧ k = 16) ∨ (a = 2 ∧ k = 15) := by
  unfold akOk at h
  split at h <;> simp_all
section SND2
variable {G : GG} {post : Option AV → AH → Prop} {i pc : Nat} {ls : List (Option AV)} {st : List AV} {h : AH} {K : KT} {ct : List Bool} {a b c d nx : Nat} {z : Int}
theorem s_19 (hK : ∀ pc ls st h, K pc ls st h → Go G post i pc ls st h) (ho : okE i pc (ct, 19, a, b, c, d, z, nx) = true) (hs : stp G post K (ct, 19, a, b, c, d, z, nx) ls st h) : Go G post i pc ls st h := by
  intro p e s m args below meth cd H locs lsA Cc hK1 hP hD hS hL
  have k0 := fun pc ls st h hs => hK pc ls st h hs p e s m args below meth cd
  have Cc0 := Cc
  obtain ⟨hx, hb, hr, hml, hown, hts, hlk, hi278, hnw⟩ := Cc
  simp only [stp] at hs
  split at hs
  · rename_i o st
    split at hs
    · rename_i hkd
      have hkd := Nat.eq_of_beq_eq_true hkd
      simp only [okE] at ho
      split at ho
      · rename_i kk ix a' b' nest hq
        simp only [Bool.and_eq_true] at ho
        obtain ⟨hd, rfl⟩ := dk_of ho.1
        obtain rfl := Nat.eq_of_beq_eq_true ho.2.2.1
        obtain rfl := Nat.eq_of_beq_eq_true ho.2.2.2.1
        have hbn := Nat.le_of_ble_eq_true ho.2.2.2.2
        have ha := fd_n_lt hbn
        have hown2 : oS kk = (mN i).cls := by rw [Nat.eq_of_beq_eq_true ho.2.1]; exact (mt_ok hi278).2.2.2.2.2.symm
        have k : W p G.1 e (mRm i) s m args below meth cd H locs 0 0 (MQ below (gQ G post) args s 0 0 (gA G)) (F0 m (pc + 3) lsA (cv G.2.2.2.2 (fv o (h o) b') :: st.map (gc G))) := by
          unfold fv
          rw [hkd]
          split at hs
          · rename_i hf
            rw [hf]
            exact k0 _ _ _ _ (frc_of hs).2 _ _ _ Cc0 hK1 hP hD hS hL
          · rename_i hf
            rw [hf]
            exact k0 _ _ _ _ hs _ _ _ Cc0 hK1 hP hD hS hL
          · rename_i hf3 hf2
            split
            · rename_i hf; exact absurd hf hf3
            · rename_i hf; exact absurd hf hf2
            · exact k0 _ _ _ _ hs _ _ _ Cc0 hK1 hP hD hS hL
        obtain ⟨C, T, N, hc, hw⟩ := fl_ok hq
        obtain ⟨c1, c2, c3, c4, -⟩ := cls_ok hc
        have hbN : b' < N := by rw [c2]; exact hbn
        cases nest with
        | false =>
          have hw : Cond.fieldLink (mN i).cls ix C (T b').2.1 (T b').2.2.1 ∈ lw_tbl := by rw [← hown2]; exact hw
          exact va_get hx hb hts c1 hown hK1 hP o (cell_ob hkd ha) hc b' hbN (hts _ (inG hw rfl)) (fun x h9 => by rw [c4 b' hbN] at h9; exact h9) (fs_get hbn) hd k
        | true =>
          have hw : Cond.fieldLinkNest (mN i).cls ix C (T b').2.1 (T b').2.2.1 "BitmapVolume" ∈ lw_tbl := by rw [← hown2]; exact hw
          exact va_getN hx hb hts c1 hown hK1 hP o (cell_ob hkd ha) hc b' hbN (va_Nw.use rfl (hnw _ (inN hw rfl))) (fun x h9 => by rw [c4 b' hbN] at h9; exact h9) (fs_get hbn) hd k
      · cases ho
    · exact hs.elim
  · exact hs.elim
theorem nar_z {x : Int} (h : x = 0 ∨ x = 1) : narrow .boolean (.int (Int32.ofInt x)) = .int (Int32.ofInt x) ∧ fits .boolean (.int (Int32.ofInt x)) = true := by
  rcases h with rfl | rfl <;> exact ⟨rfl, rfl⟩
theorem put_core {p : Program} {e : Env} {s : State} {m : MethodId} {args : Array Value} {below : List Frame} {meth : Method} {cd : Code} {H : Heap} {locs : List Loc} {lsA : Array Slot} {o : Nat} {rest : List AV} {x : Int} {v : AV} {ty : FieldType}
    (Cc : Cx p s m args meth cd i) (hK1 : va_K (gD G) vwCl (wtys G.2.2.2.1) s) (hP : va_P (gD G) vwCl (gW G h) H) (hD : va_D (gA G) (gW G h)) (hS : va_S (gA G) s.heap H locs) (ho : okE i pc (ct, 20, a, b, c, d, z, nx) = true) (hkd : ob_kd o = a)
    (hv : ∀ f : Nat → Int, f b = x → fv o f b = v) (hdesc : ∀ (C : String) (T : u_T) (N : Nat), vwCl[a]? = some (C, T, N) → b < N → parseFieldDescriptor (T b).2.2.1 = some ty) (hn : narrow ty (gc G v) = gc G v) (hf : fits ty (gc G v) = true)
    (k : ∀ (H : Heap) (locs : List Loc), va_P (gD G) vwCl (gW G (hs h o b x)) H → va_D (gA G) (gW G (hs h o b x)) → va_S (gA G) s.heap H locs → W p G.1 e (mRm i) s m args below meth cd H locs 0 0 (MQ below (gQ G post) args s 0 0 (gA G)) (F0 m nx lsA (rest.map (gc G)))) :
    W p G.1 e (mRm i) s m args below meth cd H locs 0 0 (MQ below (gQ G post) args s 0 0 (gA G)) (F0 m pc lsA (gc G v :: .ref (G.2.2.2.2 o) :: rest.map (gc G))) := by
  obtain ⟨hx, hb, hr, hml, hown, hts, hlk, hi278, hnw⟩ := Cc
  simp only [okE] at ho
  split at ho
  · rename_i kk ix a' b' nest hq
    simp only [Bool.and_eq_true] at ho
    obtain ⟨hd, rfl⟩ := dk_of ho.1
    obtain rfl := Nat.eq_of_beq_eq_true ho.2.2.1
    obtain rfl := Nat.eq_of_beq_eq_true ho.2.2.2.1
    have hbn := Nat.le_of_ble_eq_true ho.2.2.2.2.1
    have ha := fd_n_lt hbn
    have hown2 : oS kk = (mN i).cls := by rw [Nat.eq_of_beq_eq_true ho.2.1]; exact (mt_ok hi278).2.2.2.2.2.symm
    obtain ⟨C, T, N, hc, hw⟩ := fl_ok hq
    obtain ⟨c1, c2, c3, c4, ⟨ty0, c5⟩, c6, -⟩ := cls_ok hc
    have hbN : b' < N := by rw [c2]; exact hbn
    have hfin : (T b').2.2.2 = false := by
      have h9 := ho.2.2.2.2.2
      rw [hc] at h9
      simpa using h9
    have kk2 : ∀ (H1 : Heap) (locs1 : List Loc), va_P (gD G) vwCl ((gW G h).set o (G.2.2.2.2 o, .inr (a', ((List.range (fd_n a')).map (fun k => cv G.2.2.2.2 (fv o (h o) k))).set b' (gc G v)))) H1 → va_D (gA G) ((gW G h).set o (G.2.2.2.2 o, .inr (a', ((List.range (fd_n a')).map (fun k => cv G.2.2.2.2 (fv o (h o) k))).set b' (gc G v)))) → va_S (gA G) s.heap H1 locs1 → W p G.1 e (mRm i) s m args below meth cd H1 locs1 0 0 (MQ below (gQ G post) args s 0 0 (gA G)) (F0 m (pc + 3) lsA (rest.map (gc G))) := by
      rw [wd_putf hkd ha hv]
      exact k
    cases nest with
    | false =>
      have hw : Cond.fieldLink (mN i).cls ix C (T b').2.1 (T b').2.2.1 ∈ lw_tbl := by rw [← hown2]; exact hw
      exact va_put hx hb hts c1 ty0 c5 c6 hown hK1 hP hD hS o (cell_ob hkd ha) hc b' hbN (hts _ (inG hw rfl)) (fun x h9 => by rw [c4 b' hbN] at h9; exact h9) hfin (hdesc C T N hc hbN) hn hf (by simp; omega) hd kk2
    | true =>
      have hw : Cond.fieldLinkNest (mN i).cls ix C (T b').2.1 (T b').2.2.1 "BitmapVolume" ∈ lw_tbl := by rw [← hown2]; exact hw
      exact va_putN hx hb hts c1 ty0 c5 c6 hown hK1 hP hD hS o (cell_ob hkd ha) hc b' hbN (va_Nw.use rfl (hnw _ (inN hw rfl))) (fun x h9 => by rw [c4 b' hbN] at h9; exact h9) hfin (hdesc C T N hc hbN) hn hf (by simp; omega) hd kk2
  · cases ho
theorem s_20 (hK : ∀ pc ls st h, K pc ls st h → Go G post i pc ls st h) (ho : okE i pc (ct, 20, a, b, c, d, z, nx) = true) (hs : stp G post K (ct, 20, a, b, c, d, z, nx) ls st h) : Go G post i pc ls st h := by
  intro p e s m args below meth cd H locs lsA Cc hK1 hP hD hS hL
  have k0 := fun pc ls st h hs => hK pc ls st h hs p e s m args below meth cd
  have Cc0 := Cc
  obtain ⟨hx, hb, hr, hml, hown, hts, hlk, hi278, hnw⟩ := Cc
  simp only [stp, g20] at hs
  split at hs
  · rename_i x o st
    split at hs
    · rename_i hkd
      have hkd := Nat.eq_of_beq_eq_true hkd
      split at hs
      · rename_i hf
        exact put_core (v := vI x) (ty := .int) Cc0 hK1 hP hD hS ho hkd (fun f hfx => by unfold fv; rw [hkd, hf, hfx]; rfl) (fun C T N hc hbN => by rw [((cls_ok hc).2.2.2.2.2.2 b hbN).1 hf]; rfl) rfl rfl (fun H locs hP hD hS => k0 _ _ _ _ hs _ _ _ Cc0 hK1 hP hD hS hL)
      · rename_i hf
        exact put_core (v := vI x) (ty := .boolean) Cc0 hK1 hP hD hS ho hkd (fun f hfx => by unfold fv; rw [hkd, hf, hfx]; rfl) (fun C T N hc hbN => by rw [((cls_ok hc).2.2.2.2.2.2 b hbN).2.1 hf]; rfl) (nar_z hs.1).1 (nar_z hs.1).2 (fun H locs hP hD hS => k0 _ _ _ _ hs.2 _ _ _ Cc0 hK1 hP hD hS hL)
      · exact hs.elim
    · exact hs.elim
  · rename_i x o st
    split at hs
    · rename_i hkd
      have hkd := Nat.eq_of_beq_eq_true hkd
      split at hs
      · rename_i hf
        exact put_core (v := vL x) (ty := .long) Cc0 hK1 hP hD hS ho hkd (fun f hfx => by unfold fv; rw [hkd, hf, hfx]; rfl) (fun C T N hc hbN => by rw [((cls_ok hc).2.2.2.2.2.2 b hbN).2.2 hf]; rfl) rfl rfl (fun H locs hP hD hS => k0 _ _ _ _ hs _ _ _ Cc0 hK1 hP hD hS hL)
      · exact hs.elim
    · exact hs.elim
  · exact hs.elim
theorem s_21 (hK : ∀ pc ls st h, K pc ls st h → Go G post i pc ls st h) (ho : okE i pc (ct, 21, a, b, c, d, z, nx) = true) (hs : stp G post K (ct, 21, a, b, c, d, z, nx) ls st h) : Go G post i pc ls st h := by
  intro p e s m args below meth cd H locs lsA Cc hK1 hP hD hS hL
  have k0 := fun pc ls st h hs => hK pc ls st h hs p e s m args below meth cd
  have Cc0 := Cc
  obtain ⟨hx, hb, hr, hml, hown, hts, hlk, hi278, hnw⟩ := Cc
  simp only [stp] at hs
  split at hs
  · rename_i o st
    split at hs
    · rename_i hq
      simp only [Bool.and_eq_true] at hq
      have h1 := Nat.le_of_ble_eq_true hq.1
      have h2 := Nat.le_of_ble_eq_true hq.2.1
      simp only [okE] at ho
      obtain ⟨hd, rfl⟩ := dk_of ho
      have k := k0 _ _ _ _ hs _ _ _ Cc0 hK1 hP hD hS hL
      rw [lnV_eq hq.2.2] at k
      have hv : Int32.ofNat (ob_ln o) = Int32.ofInt (ob_ln o : Int) := iZ_nat _
      rcases (show ob_kd o = 13 ∨ ob_kd o = 14 ∨ ob_kd o = 15 ∨ ob_kd o = 16 by omega) with q | q | q | q
      · exact va_alen hx hb hK1 hP o 0 (cell_ai q (by omega)) rfl hv hd k
      · exact va_alen hx hb hK1 hP o 1 (cell_ai q (by omega)) rfl hv hd k
      · exact va_alen hx hb hK1 hP o 2 (cell_al q) rfl hv hd k
      · exact va_alen hx hb hK1 hP o 3 (cell_ai q (by omega)) rfl hv hd k
    · exact hs.elim
  · exact hs.elim
theorem s_22 (hK : ∀ pc ls st h, K pc ls st h → Go G post i pc ls st h) (ho : okE i pc (ct, 22, a, b, c, d, z, nx) = true) (hs : stp G post K (ct, 22, a, b, c, d, z, nx) ls st h) : Go G post i pc ls st h := by
  intro p e s m args below meth cd H locs lsA Cc hK1 hP hD hS hL
  have k0 := fun pc ls st h hs => hK pc ls st h hs p e s m args below meth cd
  have Cc0 := Cc
  obtain ⟨hx, hb, hr, hml, hown, hts, hlk, hi278, hnw⟩ := Cc
  simp only [stp, g22] at hs
  split at hs
  · rename_i x o st
    split at hs
    · rename_i hq
      simp only [Bool.and_eq_true] at hq
      simp only [okE] at ho
      obtain ⟨hd, rfl⟩ := dk_of ho
      have hin : vp_in (Int32.ofInt x) (ob_ln o) := in_iff.mpr (by rw [← lnV_eq hq.2]; exact hs.1)
      have hs2 := hs.2
      rcases akOk_of hq.1 with ⟨rfl, q⟩ | ⟨rfl, q⟩ | ⟨rfl, q⟩ | ⟨rfl, q⟩
      · exact va_iald hx hb hK1 hP o 1 (cell_ai q (by omega)) rfl hin hd (by rw [toN_i]; exact k0 _ _ _ _ hs2 _ _ _ Cc0 hK1 hP hD hS hL)
      · exact va_bald hx hb hK1 hP o 0 (cell_ai q (by omega)) rfl hin hd (by rw [toN_i]; exact k0 _ _ _ _ hs2 _ _ _ Cc0 hK1 hP hD hS hL)
      · exact va_zald hx hb hK1 hP o 3 (cell_ai q (by omega)) rfl hin hd (by rw [toN_i]; exact k0 _ _ _ _ hs2 _ _ _ Cc0 hK1 hP hD hS hL)
      · exact va_lald hx hb hK1 hP o 2 (cell_al q) rfl hin hd (by rw [toN_i]; exact k0 _ _ _ _ hs2 _ _ _ Cc0 hK1 hP hD hS hL)
    · exact hs.elim
  · exact hs.elim
theorem s_23 (hK : ∀ pc ls st h, K pc ls st h → Go G post i pc ls st h) (ho : okE i pc (ct, 23, a, b, c, d, z, nx) = true) (hs : stp G post K (ct, 23, a, b, c, d, z, nx) ls st h) : Go G post i pc ls st h := by
  intro p e s m args below meth cd H locs lsA Cc hK1 hP hD hS hL
  have k0 := fun pc ls st h hs => hK pc ls st h hs p e s m args below meth cd
  have Cc0 := Cc
  obtain ⟨hx, hb, hr, hml, hown, hts, hlk, hi278, hnw⟩ := Cc
  simp only [stp, g23] at hs
  simp only [okE] at ho
  obtain ⟨hd, rfl⟩ := dk_of ho
  split at hs
  · rename_i v x o st
    split at hs
    · rename_i hln
      split at hs
      · rename_i q
        have hin : vp_in (Int32.ofInt x) (ob_ln o) := in_iff.mpr (by rw [← lnV_eq hln]; exact hs.1)
        refine va_iast hx hb hK1 hP hD hS o 1 (cell_ai q (by omega)) rfl hin hd ?_
        rw [toN_i, wd_puta q (by omega)]
        exact fun H locs hP hD hS => k0 _ _ _ _ hs.2 _ _ _ Cc0 hK1 hP hD hS hL
      · rename_i q
        have hin : vp_in (Int32.ofInt x) (ob_ln o) := in_iff.mpr (by rw [← lnV_eq hln]; exact hs.1)
        refine va_bast hx hb hK1 hP hD hS o 0 (cell_ai q (by omega)) rfl hin hd ?_
        rw [toN_i, vp_nar_byte, iZ_8, wd_puta q (by omega)]
        exact fun H locs hP hD hS => k0 _ _ _ _ hs.2 _ _ _ Cc0 hK1 hP hD hS hL
      · rename_i q
        have hin : vp_in (Int32.ofInt x) (ob_ln o) := in_iff.mpr (by rw [← lnV_eq hln]; exact hs.1)
        have hnz : vp_nar .boolean (Int32.ofInt v) = Int32.ofInt v := by rcases hs.2.1 with rfl | rfl <;> rfl
        refine va_zast hx hb hK1 hP hD hS o 3 (cell_ai q (by omega)) rfl hin hd ?_
        rw [toN_i, hnz, wd_puta q (by omega)]
        exact fun H locs hP hD hS => k0 _ _ _ _ hs.2.2 _ _ _ Cc0 hK1 hP hD hS hL
      · exact hs.elim
    · exact hs.elim
  · rename_i v x o st
    split at hs
    · rename_i hln
      split at hs
      · rename_i q
        have hin : vp_in (Int32.ofInt x) (ob_ln o) := in_iff.mpr (by rw [← lnV_eq hln]; exact hs.1)
        refine va_last hx hb hK1 hP hD hS o 2 (cell_al q) rfl hin hd ?_
        rw [toN_i, wd_putl q]
        exact fun H locs hP hD hS => k0 _ _ _ _ hs.2 _ _ _ Cc0 hK1 hP hD hS hL
      · exact hs.elim
    · exact hs.elim
  · exact hs.elim
theorem s_24 (hK : ∀ pc ls st h, K pc ls st h → Go G post i pc ls st h) (ho : okE i pc (ct, 24, a, b, c, d, z, nx) = true) (hs : stp G post K (ct, 24, a, b, c, d, z, nx) ls st h) : Go G post i pc ls st h := by
  intro p e s m args below meth cd H locs lsA Cc hK1 hP hD hS hL
  have k0 := fun pc ls st h hs => hK pc ls st h hs p e s m args below meth cd
  have Cc0 := Cc
  obtain ⟨hx, hb, hr, hml, hown, hts, hlk, hi278, hnw⟩ := Cc
  simp only [stp] at hs
  simp only [okE] at ho
  obtain ⟨hd, rfl⟩ := dk_of ho
  split at hs
  · exact lv_dup hx hb hd rfl (k0 _ _ _ _ hs _ _ _ Cc0 hK1 hP hD hS hL)
  · exact lv_dup hx hb hd rfl (k0 _ _ _ _ hs _ _ _ Cc0 hK1 hP hD hS hL)
  · exact hs.elim
theorem s_25 (hK : ∀ pc ls st h, K pc ls st h → Go G post i pc ls st h) (ho : okE i pc (ct, 25, a, b, c, d, z, nx) = true) (hs : stp G post K (ct, 25, a, b, c, d, z, nx) ls st h) : Go G post i pc ls st h := by
  intro p e s m args below meth cd H locs lsA Cc hK1 hP hD hS hL
  have k0 := fun pc ls st h hs => hK pc ls st h hs p e s m args below meth cd
  have Cc0 := Cc
  obtain ⟨hx, hb, hr, hml, hown, hts, hlk, hi278, hnw⟩ := Cc
  simp only [stp] at hs
  simp only [okE] at ho
  obtain ⟨hd, rfl⟩ := dk_of ho
  split at hs
  · exact lv_dup_x1 hx hb hd rfl rfl (k0 _ _ _ _ hs _ _ _ Cc0 hK1 hP hD hS hL)
  · exact lv_dup_x1 hx hb hd rfl rfl (k0 _ _ _ _ hs _ _ _ Cc0 hK1 hP hD hS hL)
  · exact hs.elim
theorem s_26 (hK : ∀ pc ls st h, K pc ls st h → Go G post i pc ls st h) (ho : okE i pc (ct, 26, a, b, c, d, z, nx) = true) (hs : stp G post K (ct, 26, a, b, c, d, z, nx) ls st h) : Go G post i pc ls st h := by
  intro p e s m args below meth cd H locs lsA Cc hK1 hP hD hS hL
  have k0 := fun pc ls st h hs => hK pc ls st h hs p e s m args below meth cd
  have Cc0 := Cc
  obtain ⟨hx, hb, hr, hml, hown, hts, hlk, hi278, hnw⟩ := Cc
  simp only [stp] at hs
  simp only [okE] at ho
  obtain ⟨hd, rfl⟩ := dk_of ho
  split at hs
  · exact lv_pop hx hb hd rfl (k0 _ _ _ _ hs _ _ _ Cc0 hK1 hP hD hS hL)
  · exact lv_pop hx hb hd rfl (k0 _ _ _ _ hs _ _ _ Cc0 hK1 hP hD hS hL)
  · exact hs.elim
theorem s_35 (hK : ∀ pc ls st h, K pc ls st h → Go G post i pc ls st h) (ho : okE i pc (ct, 35, a, b, c, d, z, nx) = true) (hs : stp G post K (ct, 35, a, b, c, d, z, nx) ls st h) : Go G post i pc ls st h := by
  intro p e s m args below meth cd H locs lsA Cc hK1 hP hD hS hL
  have k0 := fun pc ls st h hs => hK pc ls st h hs p e s m args below meth cd
  have Cc0 := Cc
  obtain ⟨hx, hb, hr, hml, hown, hts, hlk, hi278, hnw⟩ := Cc
  simp only [stp] at hs
  simp only [okE] at ho
  obtain ⟨hd, rfl⟩ := dk_of ho
  split at hs
  · exact lv_dup2_11 hx hb hd rfl rfl (k0 _ _ _ _ hs _ _ _ Cc0 hK1 hP hD hS hL)
  · exact hs.elim
end SND2
