theorem getD_mem {α : Type} {l : List α} {i : Nat} {d : α} (h : i < l.length) : l.getD i d ∈ l := by
  rw [List.getD_eq_getElem?_getD, List.getElem?_eq_getElem h]
  exact List.getElem_mem h
theorem mt_ok {i : Nat} (hi : i < 278) : mtP (mI i) := by
  have hl : ∀ i, i < 278 → i / 20 < mtb.length ∧ i % 20 < (mtb.getD (i / 20) []).length := by decide +kernel
  obtain ⟨h1, h2⟩ := hl i hi
  have e1 : mtb.getD (i / 20) [] ∈ mtb := getD_mem h1
  have e2 : mI i ∈ mtb.getD (i / 20) [] := getD_mem h2
  exact mt_all _ e1 _ e2
theorem ml_ok {c : Nat} {e : LK} (h : (mlb.getD (c / 20) [])[c % 20]? = some e) : mlP e := by
  by_cases h1 : c / 20 < mlb.length
  · have e1 : mlb.getD (c / 20) [] ∈ mlb := getD_mem h1
    exact ml_all _ e1 _ (List.mem_of_getElem? h)
  · have e0 : mlb.getD (c / 20) [] = [] := by rw [List.getD_eq_getElem?_getD, List.getElem?_eq_none (Nat.le_of_not_lt h1)]; rfl
    rw [e0] at h
    simp at h
theorem fl_ok {c : Nat} {e : FK} (h : (flb.getD (c / 20) [])[c % 20]? = some e) : flP e := by
  by_cases h1 : c / 20 < flb.length
  · have e1 : flb.getD (c / 20) [] ∈ flb := getD_mem h1
    exact fl_all _ e1 _ (List.mem_of_getElem? h)
  · have e0 : flb.getD (c / 20) [] = [] := by rw [List.getD_eq_getElem?_getD, List.getElem?_eq_none (Nat.le_of_not_lt h1)]; rfl
    rw [e0] at h
    simp at h
theorem lay_good {C : String} {T : u_T} {N : Nat} : ∀ w ∈ u_ws C T N, goodWord w = true := by
  intro w hw
  obtain ⟨k, -, rfl⟩ := List.mem_map.mp hw
  unfold u_lay
  split <;> rfl
/-- the classes of the world -/
theorem cls_ok {ci : Nat} {C : String} {T : u_T} {N : Nat} (hc : vwCl[ci]? = some (C, T, N)) : (∀ w ∈ u_ws C T N, w ∈ gtb) ∧ N = fd_n ci ∧ C = oS ci ∧ (∀ k, k < N → (T k).1 = C) ∧ (∃ ty : Nat → FieldType, ∀ k, k < N → parseFieldDescriptor (T k).2.2.1 = some (ty k)) ∧ (∀ a, a < N → ∀ b, b < N → a ≠ b → (T a).2.1 ≠ (T b).2.1) ∧ (∀ k, k < N → (fd_k ci k = 0 → (T k).2.2.1 = "I") ∧ (fd_k ci k = 1 → (T k).2.2.1 = "Z") ∧ (fd_k ci k = 2 → (T k).2.2.1 = "J")) := by
  match ci, hc with
  | 0, hc => cases hc; exact ⟨fun w h => inG (inX0 w h) (lay_good w h), rfl, rfl, by decide +kernel, ⟨tyX0, tyX0_ok⟩, nmX0, by decide +kernel⟩
  | 1, hc => cases hc; exact ⟨fun w h => inG (inX1 w h) (lay_good w h), rfl, rfl, by decide +kernel, ⟨tyX1, tyX1_ok⟩, nmX1, by decide +kernel⟩
  | 2, hc => cases hc; exact ⟨fun w h => inG (inX2 w h) (lay_good w h), rfl, rfl, by decide +kernel, ⟨tyX2, tyX2_ok⟩, nmX2, by decide +kernel⟩
  | 3, hc => cases hc; exact ⟨fun w h => inG (inX3 w h) (lay_good w h), rfl, rfl, by decide +kernel, ⟨tyX3, tyX3_ok⟩, nmX3, by decide +kernel⟩
  | 4, hc => cases hc; exact ⟨fun w h => inG (inX4 w h) (lay_good w h), rfl, rfl, by decide +kernel, ⟨tyX4, tyX4_ok⟩, nmX4, by decide +kernel⟩
  | 5, hc => cases hc; exact ⟨fun w h => inG (inX5 w h) (lay_good w h), rfl, rfl, by decide +kernel, ⟨tyX5, tyX5_ok⟩, nmX5, by decide +kernel⟩
  | 6, hc => cases hc; exact ⟨fun w h => inG (inX6 w h) (lay_good w h), rfl, rfl, by decide +kernel, ⟨tyX6, tyX6_ok⟩, nmX6, by decide +kernel⟩
  | 7, hc => cases hc; exact ⟨fun w h => inG (inX7 w h) (lay_good w h), rfl, rfl, by decide +kernel, ⟨tyX7, tyX7_ok⟩, nmX7, by decide +kernel⟩
  | 8, hc => cases hc; exact ⟨fun w h => inG (inX8 w h) (lay_good w h), rfl, rfl, by decide +kernel, ⟨tyX8, tyX8_ok⟩, nmX8, by decide +kernel⟩
  | 9, hc => cases hc; exact ⟨fun w h => inG (inX9 w h) (lay_good w h), rfl, rfl, by decide +kernel, ⟨tyX9, tyX9_ok⟩, nmX9, by decide +kernel⟩
  | 10, hc => cases hc; exact ⟨fun w h => inG (inX10 w h) (lay_good w h), rfl, rfl, by decide +kernel, ⟨tyX10, tyX10_ok⟩, nmX10, by decide +kernel⟩
  | 11, hc => cases hc; exact ⟨fun w h => inG (inX11 w h) (lay_good w h), rfl, rfl, by decide +kernel, ⟨tyX11, tyX11_ok⟩, nmX11, by decide +kernel⟩
  | 12, hc => cases hc; exact ⟨fun w h => inG (inX12 w h) (lay_good w h), rfl, rfl, by decide +kernel, ⟨tyX12, tyX12_ok⟩, nmX12, by decide +kernel⟩
  | n + 13, hc => simp [vwCl] at hc
theorem getD_some {ls : List (Option AV)} {a : Nat} {v : AV} (h : ls.getD a none = some v) : ls[a]? = some (some v) := by
  rw [List.getD_eq_getElem?_getD] at h
  cases hq : ls[a]? with
  | none => rw [hq] at h; cases h
  | some x => rw [hq] at h; rw [← h]; rfl
theorem bi8 {z : Int} (h : -128 ≤ z ∧ z ≤ 127) : (Int8.ofInt z).toInt32 = Int32.ofInt z := by
  rw [← Int32.toInt8_ofInt, iZ_8]
  congr 1
  unfold w8
  omega
theorem bi16 {z : Int} (h : -32768 ≤ z ∧ z ≤ 32767) : (Int16.ofInt z).toInt32 = Int32.ofInt z := by
  rw [← Int32.toInt_inj, Int16.toInt_toInt32, Int16.toInt_ofInt, wI_eq, wI_id (by omega) (by omega)]
  unfold Int.bmod Int16.size; dsimp only; split <;> omega
theorem z_eq (x : Int) : Int32.ofInt x = 0 ↔ wI x = 0 := (iZ_inj (x := x) (y := 0)).trans (by rw [wI_0])
theorem z_lt (x : Int) : Int32.ofInt x < 0 ↔ wI x < 0 := (iZ_lt (x := x) (y := 0)).trans (by rw [wI_0])
theorem z_le (x : Int) : Int32.ofInt x ≤ 0 ↔ wI x ≤ 0 := (iZ_le (x := x) (y := 0)).trans (by rw [wI_0])
theorem z_gt (x : Int) : 0 < Int32.ofInt x ↔ 0 < wI x := (iZ_lt (x := 0) (y := x)).trans (by rw [wI_0])
theorem z_ge (x : Int) : 0 ≤ Int32.ofInt x ↔ 0 ≤ wI x := (iZ_le (x := 0) (y := x)).trans (by rw [wI_0])
section SND
variable {G : GG} {post : Option AV → AH → Prop} {i pc : Nat} {ls : List (Option AV)} {st : List AV} {h : AH} {K : KT} {ct : List Bool} {a b c d nx : Nat} {z : Int}
theorem s_0 (hK : ∀ pc ls st h, K pc ls st h → Go G post i pc ls st h) (ho : okE i pc (ct, 0, a, b, c, d, z, nx) = true) (hs : stp G post K (ct, 0, a, b, c, d, z, nx) ls st h) : Go G post i pc ls st h := by
  intro p e s m args below meth cd H locs lsA Cc hK1 hP hD hS hL
  have k0 := fun pc ls st h hs => hK pc ls st h hs p e s m args below meth cd
  have Cc0 := Cc
  obtain ⟨hx, hb, hr, hml, hown, hts, hlk, hi278, hnw⟩ := Cc
  have k := k0 _ _ _ _ hs _ _ _ Cc0 hK1 hP hD hS hL
  simp only [okE] at ho
  split at ho
  · obtain ⟨hd, rfl⟩ := dk_of ho
    exact lv_iconst hx hb hd rfl k
  · simp only [Bool.and_eq_true, decide_eq_true_eq] at ho
    obtain ⟨hd, rfl⟩ := dk_of ho.1
    exact lv_bipush hx hb hd (bi8 ho.2) k
  · simp only [Bool.and_eq_true, decide_eq_true_eq] at ho
    obtain ⟨hd, rfl⟩ := dk_of ho.1
    exact lv_sipush hx hb hd (bi16 ho.2) k
  · split at ho
    · rename_i kk ix z' hq
      simp only [Bool.and_eq_true, decide_eq_true_eq] at ho
      obtain ⟨hd, rfl⟩ := dk_of ho.1
      have hw := klt_ok_0 _ (List.mem_of_getElem? hq)
      have hk : oS kk = (mN i).cls := by rw [Nat.eq_of_beq_eq_true ho.2.1]; exact (mt_ok hi278).2.2.2.2.2.symm
      have hw : Cond.constant (mN i).cls ix (Int32.ofInt z) ∈ lw_tbl := by rw [← hk, ← ho.2.2]; exact hw
      exact lv_ldc hx hb hown (hts _ (inG hw rfl)) hd k
    · cases ho
theorem s_1 (hK : ∀ pc ls st h, K pc ls st h → Go G post i pc ls st h) (ho : okE i pc (ct, 1, a, b, c, d, z, nx) = true) (hs : stp G post K (ct, 1, a, b, c, d, z, nx) ls st h) : Go G post i pc ls st h := by
  intro p e s m args below meth cd H locs lsA Cc hK1 hP hD hS hL
  have k0 := fun pc ls st h hs => hK pc ls st h hs p e s m args below meth cd
  have Cc0 := Cc
  obtain ⟨hx, hb, hr, hml, hown, hts, hlk, hi278, hnw⟩ := Cc
  have k := k0 _ _ _ _ hs _ _ _ Cc0 hK1 hP hD hS hL
  simp only [okE] at ho
  split at ho
  · simp only [Bool.and_eq_true, decide_eq_true_eq] at ho
    obtain ⟨hd, rfl⟩ := dk_of ho.1
    obtain rfl := ho.2
    exact lv_lconst hx hb hd rfl k
  · simp only [Bool.and_eq_true, decide_eq_true_eq] at ho
    obtain ⟨hd, rfl⟩ := dk_of ho.1
    obtain rfl := ho.2
    exact lv_lconst hx hb hd rfl k
  · split at ho
    · rename_i kk ix z' hq
      simp only [Bool.and_eq_true, decide_eq_true_eq] at ho
      obtain ⟨hd, rfl⟩ := dk_of ho.1
      have hw := klt_ok_0 _ (List.mem_of_getElem? hq)
      have hk : oS kk = (mN i).cls := by rw [Nat.eq_of_beq_eq_true ho.2.1]; exact (mt_ok hi278).2.2.2.2.2.symm
      have hw : Cond.constantLong (mN i).cls ix (Int64.ofInt z) ∈ lw_tbl := by rw [← hk, ← ho.2.2]; exact hw
      exact lv_ldc2 hx hb hown (hts _ (inG hw rfl)) hd k
    · cases ho
theorem s_2 (hK : ∀ pc ls st h, K pc ls st h → Go G post i pc ls st h) (ho : okE i pc (ct, 2, a, b, c, d, z, nx) = true) (hs : stp G post K (ct, 2, a, b, c, d, z, nx) ls st h) : Go G post i pc ls st h := by
  intro p e s m args below meth cd H locs lsA Cc hK1 hP hD hS hL
  have k0 := fun pc ls st h hs => hK pc ls st h hs p e s m args below meth cd
  have Cc0 := Cc
  obtain ⟨hx, hb, hr, hml, hown, hts, hlk, hi278, hnw⟩ := Cc
  simp only [stp] at hs
  split at hs
  · rename_i x hq
    have k := k0 _ _ _ _ hs _ _ _ Cc0 hK1 hP hD hS hL
    have hl := hL.2.2 _ _ (getD_some hq)
    rcases ld4_of ho with ⟨kk, hk, hd, rfl⟩ | ⟨hd, rfl⟩
    · exact lv_iload_n hx hb hd hk hl k
    · exact lv_iload hx hb hd hl k
  · exact hs.elim
theorem s_3 (hK : ∀ pc ls st h, K pc ls st h → Go G post i pc ls st h) (ho : okE i pc (ct, 3, a, b, c, d, z, nx) = true) (hs : stp G post K (ct, 3, a, b, c, d, z, nx) ls st h) : Go G post i pc ls st h := by
  intro p e s m args below meth cd H locs lsA Cc hK1 hP hD hS hL
  have k0 := fun pc ls st h hs => hK pc ls st h hs p e s m args below meth cd
  have Cc0 := Cc
  obtain ⟨hx, hb, hr, hml, hown, hts, hlk, hi278, hnw⟩ := Cc
  simp only [stp] at hs
  split at hs
  · rename_i x hq
    have k := k0 _ _ _ _ hs _ _ _ Cc0 hK1 hP hD hS hL
    have hl := hL.2.2 _ _ (getD_some hq)
    rcases ld4_of ho with ⟨kk, hk, hd, rfl⟩ | ⟨hd, rfl⟩
    · exact lv_lload_n hx hb hd hk hl k
    · exact lv_lload hx hb hd hl k
  · exact hs.elim
theorem s_4 (hK : ∀ pc ls st h, K pc ls st h → Go G post i pc ls st h) (ho : okE i pc (ct, 4, a, b, c, d, z, nx) = true) (hs : stp G post K (ct, 4, a, b, c, d, z, nx) ls st h) : Go G post i pc ls st h := by
  intro p e s m args below meth cd H locs lsA Cc hK1 hP hD hS hL
  have k0 := fun pc ls st h hs => hK pc ls st h hs p e s m args below meth cd
  have Cc0 := Cc
  obtain ⟨hx, hb, hr, hml, hown, hts, hlk, hi278, hnw⟩ := Cc
  simp only [stp] at hs
  split at hs
  · rename_i x hq
    have k := k0 _ _ _ _ hs _ _ _ Cc0 hK1 hP hD hS hL
    have hl := hL.2.2 _ _ (getD_some hq)
    rcases ld4_of ho with ⟨kk, hk, hd, rfl⟩ | ⟨hd, rfl⟩
    · exact lv_aload_n hx hb hd hk hl k
    · exact lv_aload hx hb hd hl k
  · exact hs.elim
theorem s_5 (hK : ∀ pc ls st h, K pc ls st h → Go G post i pc ls st h) (ho : okE i pc (ct, 5, a, b, c, d, z, nx) = true) (hs : stp G post K (ct, 5, a, b, c, d, z, nx) ls st h) : Go G post i pc ls st h := by
  intro p e s m args below meth cd H locs lsA Cc hK1 hP hD hS hL
  have k0 := fun pc ls st h hs => hK pc ls st h hs p e s m args below meth cd
  have Cc0 := Cc
  obtain ⟨hx, hb, hr, hml, hown, hts, hlk, hi278, hnw⟩ := Cc
  simp only [stp] at hs
  split at hs
  · rename_i x st
    simp only [okE, Bool.and_eq_true] at ho
    have hn := Nat.le_of_ble_eq_true ho.2
    rcases ld4_of ho.1 with ⟨kk, hk, hd, rfl⟩ | ⟨hd, rfl⟩
    · exact lv_istore_n hx hb hd hk hL.has hn rfl (fun ls' hl' => k0 _ _ _ _ (nrm_of hs) _ _ _ Cc0 hK1 hP hD hS (LH.st1 (v := vI x) hl'))
    · exact lv_istore hx hb hd hL.has hn rfl (fun ls' hl' => k0 _ _ _ _ (nrm_of hs) _ _ _ Cc0 hK1 hP hD hS (LH.st1 (v := vI x) hl'))
  · exact hs.elim
theorem s_6 (hK : ∀ pc ls st h, K pc ls st h → Go G post i pc ls st h) (ho : okE i pc (ct, 6, a, b, c, d, z, nx) = true) (hs : stp G post K (ct, 6, a, b, c, d, z, nx) ls st h) : Go G post i pc ls st h := by
  intro p e s m args below meth cd H locs lsA Cc hK1 hP hD hS hL
  have k0 := fun pc ls st h hs => hK pc ls st h hs p e s m args below meth cd
  have Cc0 := Cc
  obtain ⟨hx, hb, hr, hml, hown, hts, hlk, hi278, hnw⟩ := Cc
  simp only [stp] at hs
  split at hs
  · rename_i x st
    simp only [okE, Bool.and_eq_true] at ho
    have hn := Nat.le_of_ble_eq_true ho.2
    rcases ld4_of ho.1 with ⟨kk, hk, hd, rfl⟩ | ⟨hd, rfl⟩
    · exact lv_lstore_n hx hb hd hk hL.has hn rfl (fun ls' hl' => k0 _ _ _ _ (nrm_of hs) _ _ _ Cc0 hK1 hP hD hS (LH.st2 (v := vL x) hl'))
    · exact lv_lstore hx hb hd hL.has hn rfl (fun ls' hl' => k0 _ _ _ _ (nrm_of hs) _ _ _ Cc0 hK1 hP hD hS (LH.st2 (v := vL x) hl'))
  · exact hs.elim
theorem s_7 (hK : ∀ pc ls st h, K pc ls st h → Go G post i pc ls st h) (ho : okE i pc (ct, 7, a, b, c, d, z, nx) = true) (hs : stp G post K (ct, 7, a, b, c, d, z, nx) ls st h) : Go G post i pc ls st h := by
  intro p e s m args below meth cd H locs lsA Cc hK1 hP hD hS hL
  have k0 := fun pc ls st h hs => hK pc ls st h hs p e s m args below meth cd
  have Cc0 := Cc
  obtain ⟨hx, hb, hr, hml, hown, hts, hlk, hi278, hnw⟩ := Cc
  simp only [stp] at hs
  split at hs
  · rename_i x st
    simp only [okE, Bool.and_eq_true] at ho
    have hn := Nat.le_of_ble_eq_true ho.2
    rcases ld4_of ho.1 with ⟨kk, hk, hd, rfl⟩ | ⟨hd, rfl⟩
    · exact lv_astore_n hx hb hd hk hL.has hn rfl (fun ls' hl' => k0 _ _ _ _ (nrm_of hs) _ _ _ Cc0 hK1 hP hD hS (LH.st1 (v := vR x) hl'))
    · exact lv_astore hx hb hd hL.has hn rfl (fun ls' hl' => k0 _ _ _ _ (nrm_of hs) _ _ _ Cc0 hK1 hP hD hS (LH.st1 (v := vR x) hl'))
  · exact hs.elim
theorem s_8 (hK : ∀ pc ls st h, K pc ls st h → Go G post i pc ls st h) (ho : okE i pc (ct, 8, a, b, c, d, z, nx) = true) (hs : stp G post K (ct, 8, a, b, c, d, z, nx) ls st h) : Go G post i pc ls st h := by
  intro p e s m args below meth cd H locs lsA Cc hK1 hP hD hS hL
  have k0 := fun pc ls st h hs => hK pc ls st h hs p e s m args below meth cd
  have Cc0 := Cc
  obtain ⟨hx, hb, hr, hml, hown, hts, hlk, hi278, hnw⟩ := Cc
  simp only [stp] at hs
  split at hs
  · rename_i x hq
    simp only [okE, Bool.and_eq_true] at ho
    have hn := Nat.le_of_ble_eq_true ho.2
    obtain ⟨hd, rfl⟩ := dk_of ho.1
    have hm : (a, gc G (vI x)) ∈ prs G 0 ls := (prs_mem ls 0 _).mpr ⟨a, vI x, getD_some hq, by simp⟩
    obtain ⟨kk, hk⟩ := List.mem_iff_getElem?.mp hm
    exact lv_iinc hx hb hd hL.has hk (by rw [← Int32.ofInt_add]) hn rfl (fun ls' hl' => k0 _ _ _ _ (nrm_of hs) _ _ _ Cc0 hK1 hP hD hS (LH.st1 (v := vI (x + z)) hl'))
  · exact hs.elim
theorem s_9 (hK : ∀ pc ls st h, K pc ls st h → Go G post i pc ls st h) (ho : okE i pc (ct, 9, a, b, c, d, z, nx) = true) (hs : stp G post K (ct, 9, a, b, c, d, z, nx) ls st h) : Go G post i pc ls st h := by
  intro p e s m args below meth cd H locs lsA Cc hK1 hP hD hS hL
  have k0 := fun pc ls st h hs => hK pc ls st h hs p e s m args below meth cd
  have Cc0 := Cc
  obtain ⟨hx, hb, hr, hml, hown, hts, hlk, hi278, hnw⟩ := Cc
  simp only [stp] at hs
  split at hs
  · rename_i y x st
    have k := k0 _ _ _ _ hs _ _ _ Cc0 hK1 hP hD hS hL
    simp only [okE] at ho
    obtain ⟨hd, rfl⟩ := dk_of ho
    clear hs ho
    match a, k, hd with
    | 0, k, hd => exact lv_iadd hx hb hd (by rw [← Int32.ofInt_add]; exact k)
    | 1, k, hd => exact lv_isub hx hb hd (by rw [← Int32.ofInt_sub]; exact k)
    | 2, k, hd => exact lv_imul hx hb hd (by rw [← Int32.ofInt_mul]; exact k)
    | 3, k, hd => exact lv_iand hx hb hd (by rw [← iZ_and]; exact k)
    | 4, k, hd => exact lv_ior hx hb hd (by rw [← iZ_or]; exact k)
    | 5, k, hd => exact lv_ixor hx hb hd (by rw [← iZ_xor]; exact k)
    | 6, k, hd => exact lv_ishl hx hb hd (by rw [← iZ_shl]; exact k)
    | 7, k, hd => exact lv_ishr hx hb hd (by rw [← iZ_shr]; exact k)
    | n + 8, k, hd => exact lv_iushr hx hb hd (iZ_ushr x y) k
  · exact hs.elim
theorem s_10 (hK : ∀ pc ls st h, K pc ls st h → Go G post i pc ls st h) (ho : okE i pc (ct, 10, a, b, c, d, z, nx) = true) (hs : stp G post K (ct, 10, a, b, c, d, z, nx) ls st h) : Go G post i pc ls st h := by
  intro p e s m args below meth cd H locs lsA Cc hK1 hP hD hS hL
  have k0 := fun pc ls st h hs => hK pc ls st h hs p e s m args below meth cd
  have Cc0 := Cc
  obtain ⟨hx, hb, hr, hml, hown, hts, hlk, hi278, hnw⟩ := Cc
  simp only [stp] at hs
  split at hs
  · rename_i y x st
    have k := k0 _ _ _ _ hs.2 _ _ _ Cc0 hK1 hP hD hS hL
    have hne : ¬ Int32.ofInt y = 0 := fun q => hs.1 ((z_eq y).mp q)
    clear hs
    match a, k, ho with
    | 0, k, ho =>
      obtain ⟨hd, rfl⟩ := dk_of ho
      exact lv_idiv hx hb hd hne (by rw [← iZ_div]; exact k)
    | n + 1, k, ho =>
      obtain ⟨hd, rfl⟩ := dk_of ho
      exact lv_irem hx hb hd hne (by rw [← iZ_rem]; exact k)
  · exact hs.elim
theorem s_11 (hK : ∀ pc ls st h, K pc ls st h → Go G post i pc ls st h) (ho : okE i pc (ct, 11, a, b, c, d, z, nx) = true) (hs : stp G post K (ct, 11, a, b, c, d, z, nx) ls st h) : Go G post i pc ls st h := by
  intro p e s m args below meth cd H locs lsA Cc hK1 hP hD hS hL
  have k0 := fun pc ls st h hs => hK pc ls st h hs p e s m args below meth cd
  have Cc0 := Cc
  obtain ⟨hx, hb, hr, hml, hown, hts, hlk, hi278, hnw⟩ := Cc
  simp only [stp] at hs
  split at hs
  · rename_i y x st
    have k := k0 _ _ _ _ hs _ _ _ Cc0 hK1 hP hD hS hL
    simp only [okE, Bool.and_eq_true] at ho
    obtain ⟨hd, rfl⟩ := dk_of ho.1
    clear hs ho
    match a, k, hd with
    | 0, k, hd => exact lv_ladd hx hb hd (by rw [← Int64.ofInt_add]; exact k)
    | 1, k, hd => exact lv_lsub hx hb hd (by rw [← Int64.ofInt_sub]; exact k)
    | 2, k, hd => exact lv_lmul hx hb hd (by rw [← Int64.ofInt_mul]; exact k)
    | 3, k, hd => exact lv_land hx hb hd (by rw [← lZ_and]; exact k)
    | 4, k, hd => exact lv_lor hx hb hd (by rw [← lZ_or]; exact k)
    | n + 5, k, hd => exact lv_lxor hx hb hd (by rw [← lZ_xor]; exact k)
  · exact hs.elim
theorem s_12 (hK : ∀ pc ls st h, K pc ls st h → Go G post i pc ls st h) (ho : okE i pc (ct, 12, a, b, c, d, z, nx) = true) (hs : stp G post K (ct, 12, a, b, c, d, z, nx) ls st h) : Go G post i pc ls st h := by
  intro p e s m args below meth cd H locs lsA Cc hK1 hP hD hS hL
  have k0 := fun pc ls st h hs => hK pc ls st h hs p e s m args below meth cd
  have Cc0 := Cc
  obtain ⟨hx, hb, hr, hml, hown, hts, hlk, hi278, hnw⟩ := Cc
  simp only [stp] at hs
  split at hs
  · rename_i y x st
    have k := k0 _ _ _ _ hs.2 _ _ _ Cc0 hK1 hP hD hS hL
    have hne : ¬ Int64.ofInt y = 0 := fun q => hs.1 (((lZ_inj (x := y) (y := 0)).mp q).trans rfl)
    clear hs
    match a, k, ho with
    | 0, k, ho =>
      obtain ⟨hd, rfl⟩ := dk_of ho
      exact lv_ldiv hx hb hd hne (by rw [← lZ_div]; exact k)
    | n + 1, k, ho =>
      obtain ⟨hd, rfl⟩ := dk_of ho
      exact lv_lrem hx hb hd hne (by rw [← lZ_rem]; exact k)
  · exact hs.elim
theorem s_13 (hK : ∀ pc ls st h, K pc ls st h → Go G post i pc ls st h) (ho : okE i pc (ct, 13, a, b, c, d, z, nx) = true) (hs : stp G post K (ct, 13, a, b, c, d, z, nx) ls st h) : Go G post i pc ls st h := by
  intro p e s m args below meth cd H locs lsA Cc hK1 hP hD hS hL
  have k0 := fun pc ls st h hs => hK pc ls st h hs p e s m args below meth cd
  have Cc0 := Cc
  obtain ⟨hx, hb, hr, hml, hown, hts, hlk, hi278, hnw⟩ := Cc
  simp only [stp] at hs
  split at hs
  · rename_i y x st
    have k := k0 _ _ _ _ hs _ _ _ Cc0 hK1 hP hD hS hL
    simp only [okE] at ho
    obtain ⟨hd, rfl⟩ := dk_of ho
    clear hs ho
    match a, k, hd with
    | 0, k, hd => exact lv_lshl hx hb hd (lZ_shl x y).symm k
    | 1, k, hd => exact lv_lshr hx hb hd (lZ_shr x y).symm k
    | n + 2, k, hd => exact lv_lushr hx hb hd (lZ_ushr x y) k
  · exact hs.elim
theorem s_14 (hK : ∀ pc ls st h, K pc ls st h → Go G post i pc ls st h) (ho : okE i pc (ct, 14, a, b, c, d, z, nx) = true) (hs : stp G post K (ct, 14, a, b, c, d, z, nx) ls st h) : Go G post i pc ls st h := by
  intro p e s m args below meth cd H locs lsA Cc hK1 hP hD hS hL
  have k0 := fun pc ls st h hs => hK pc ls st h hs p e s m args below meth cd
  have Cc0 := Cc
  obtain ⟨hx, hb, hr, hml, hown, hts, hlk, hi278, hnw⟩ := Cc
  simp only [stp] at hs
  simp only [okE] at ho
  obtain ⟨hd, rfl⟩ := dk_of ho
  split at hs
  · exact lv_i2l hx hb hd (iZ_l _) (k0 _ _ _ _ hs _ _ _ Cc0 hK1 hP hD hS hL)
  · exact lv_l2i hx hb hd (lZ_i _) (k0 _ _ _ _ hs _ _ _ Cc0 hK1 hP hD hS hL)
  · exact lv_i2b hx hb hd (iZ_8 _) (k0 _ _ _ _ hs _ _ _ Cc0 hK1 hP hD hS hL)
  · exact hs.elim
theorem s_15 (hK : ∀ pc ls st h, K pc ls st h → Go G post i pc ls st h) (ho : okE i pc (ct, 15, a, b, c, d, z, nx) = true) (hs : stp G post K (ct, 15, a, b, c, d, z, nx) ls st h) : Go G post i pc ls st h := by
  intro p e s m args below meth cd H locs lsA Cc hK1 hP hD hS hL
  have k0 := fun pc ls st h hs => hK pc ls st h hs p e s m args below meth cd
  have Cc0 := Cc
  obtain ⟨hx, hb, hr, hml, hown, hts, hlk, hi278, hnw⟩ := Cc
  simp only [stp] at hs
  split at hs
  · rename_i x st
    simp only [okE] at ho
    obtain ⟨hd, rfl⟩ := dk_of ho
    have ht : (pc : Int) + ((b : Int) - pc) = (b : Int) := by omega
    have kt := fun q => k0 b ls st h q H locs lsA Cc0 hK1 hP hD hS hL
    have kf := fun q => k0 (pc + 3) ls st h q H locs lsA Cc0 hK1 hP hD hS hL
    clear ho
    unfold brC at hs
    unfold cnd at hd
    split at hs
    · exact lv_if_eq hx hb hd ht (fun q => kt (hs.1 ((z_eq x).mp q))) (fun q => kf (hs.2 (fun r => q ((z_eq x).mpr r))))
    · exact lv_if_ne hx hb hd ht (fun q => kt (hs.2 (fun r => q ((z_eq x).mpr r)))) (fun q => kf (hs.1 ((z_eq x).mp q)))
    · exact lv_if_lt hx hb hd ht (fun q => kt (hs.1 ((z_lt x).mp q))) (fun q => kf (hs.2 (fun r => q ((z_lt x).mpr r))))
    · exact lv_if_ge hx hb hd ht (fun q => kt (hs.1 ((z_ge x).mp q))) (fun q => kf (hs.2 (fun r => q ((z_ge x).mpr r))))
    · exact lv_if_gt hx hb hd ht (fun q => kt (hs.1 ((z_gt x).mp q))) (fun q => kf (hs.2 (fun r => q ((z_gt x).mpr r))))
    · rename_i n0 n1 n2 n3 n4
      have hd : decode (mC i) pc = .ok (.ifCond .le ((b : Int) - pc), 3) := by
        match a, hd with
        | 0, _ => exact absurd rfl n0
        | 1, _ => exact absurd rfl n1
        | 2, _ => exact absurd rfl n2
        | 3, _ => exact absurd rfl n3
        | 4, _ => exact absurd rfl n4
        | a + 5, hd => exact hd
      exact lv_if_le hx hb hd ht (fun q => kt (hs.1 ((z_le x).mp q))) (fun q => kf (hs.2 (fun r => q ((z_le x).mpr r))))
  · exact hs.elim
theorem s_16 (hK : ∀ pc ls st h, K pc ls st h → Go G post i pc ls st h) (ho : okE i pc (ct, 16, a, b, c, d, z, nx) = true) (hs : stp G post K (ct, 16, a, b, c, d, z, nx) ls st h) : Go G post i pc ls st h := by
  intro p e s m args below meth cd H locs lsA Cc hK1 hP hD hS hL
  have k0 := fun pc ls st h hs => hK pc ls st h hs p e s m args below meth cd
  have Cc0 := Cc
  obtain ⟨hx, hb, hr, hml, hown, hts, hlk, hi278, hnw⟩ := Cc
  simp only [stp] at hs
  split at hs
  · rename_i y x st
    simp only [okE] at ho
    obtain ⟨hd, rfl⟩ := dk_of ho
    have ht : (pc : Int) + ((b : Int) - pc) = (b : Int) := by omega
    have kt := fun q => k0 b ls st h q H locs lsA Cc0 hK1 hP hD hS hL
    have kf := fun q => k0 (pc + 3) ls st h q H locs lsA Cc0 hK1 hP hD hS hL
    clear ho
    unfold brC at hs
    unfold cnd at hd
    split at hs
    · exact lv_icmp_eq hx hb hd ht (fun q => kt (hs.1 ((iZ_inj (x := x) (y := y)).mp q))) (fun q => kf (hs.2 (fun r => q ((iZ_inj (x := x) (y := y)).mpr r))))
    · exact lv_icmp_ne hx hb hd ht (fun q => kt (hs.2 (fun r => q ((iZ_inj (x := x) (y := y)).mpr r)))) (fun q => kf (hs.1 ((iZ_inj (x := x) (y := y)).mp q)))
    · exact lv_icmp_lt hx hb hd ht (fun q => kt (hs.1 ((iZ_lt (x := x) (y := y)).mp q))) (fun q => kf (hs.2 (fun r => q ((iZ_lt (x := x) (y := y)).mpr r))))
    · exact lv_icmp_ge hx hb hd ht (fun q => kt (hs.1 ((iZ_le (x := y) (y := x)).mp q))) (fun q => kf (hs.2 (fun r => q ((iZ_le (x := y) (y := x)).mpr r))))
    · exact lv_icmp_gt hx hb hd ht (fun q => kt (hs.1 ((iZ_lt (x := y) (y := x)).mp q))) (fun q => kf (hs.2 (fun r => q ((iZ_lt (x := y) (y := x)).mpr r))))
    · rename_i n0 n1 n2 n3 n4
      have hd : decode (mC i) pc = .ok (.if_icmp .le ((b : Int) - pc), 3) := by
        match a, hd with
        | 0, _ => exact absurd rfl n0
        | 1, _ => exact absurd rfl n1
        | 2, _ => exact absurd rfl n2
        | 3, _ => exact absurd rfl n3
        | 4, _ => exact absurd rfl n4
        | a + 5, hd => exact hd
      exact lv_icmp_le hx hb hd ht (fun q => kt (hs.1 ((iZ_le (x := x) (y := y)).mp q))) (fun q => kf (hs.2 (fun r => q ((iZ_le (x := x) (y := y)).mpr r))))
  · exact hs.elim
theorem s_17 (hK : ∀ pc ls st h, K pc ls st h → Go G post i pc ls st h) (ho : okE i pc (ct, 17, a, b, c, d, z, nx) = true) (hs : stp G post K (ct, 17, a, b, c, d, z, nx) ls st h) : Go G post i pc ls st h := by
  intro p e s m args below meth cd H locs lsA Cc hK1 hP hD hS hL
  have k0 := fun pc ls st h hs => hK pc ls st h hs p e s m args below meth cd
  have Cc0 := Cc
  obtain ⟨hx, hb, hr, hml, hown, hts, hlk, hi278, hnw⟩ := Cc
  simp only [okE] at ho
  obtain ⟨hd, -⟩ := dk_of ho
  exact lv_goto hx hb hd (by omega) (k0 _ _ _ _ hs _ _ _ Cc0 hK1 hP hD hS hL)
theorem s_18 (hK : ∀ pc ls st h, K pc ls st h → Go G post i pc ls st h) (ho : okE i pc (ct, 18, a, b, c, d, z, nx) = true) (hs : stp G post K (ct, 18, a, b, c, d, z, nx) ls st h) : Go G post i pc ls st h := by
  intro p e s m args below meth cd H locs lsA Cc hK1 hP hD hS hL
  have k0 := fun pc ls st h hs => hK pc ls st h hs p e s m args below meth cd
  have Cc0 := Cc
  obtain ⟨hx, hb, hr, hml, hown, hts, hlk, hi278, hnw⟩ := Cc
  simp only [stp] at hs
  split at hs
  · rename_i y x st
    simp only [okE, Bool.and_eq_true] at ho
    obtain ⟨hd0, -⟩ := dk_of ho.1
    obtain ⟨hd, rfl⟩ := dk_of ho.2
    have ht : ((pc + 1 : Nat) : Int) + ((b : Int) - (pc + 1 : Nat)) = (b : Int) := by omega
    have kt := fun q => k0 b ls st h q H locs lsA Cc0 hK1 hP hD hS hL
    have kf := fun q => k0 (pc + 1 + 3) ls st h q H locs lsA Cc0 hK1 hP hD hS hL
    clear ho
    refine W.lcmp hx hb hd0 ?_
    unfold brC at hs
    unfold cnd at hd
    split at hs
    · exact lv_if_eq hx hb hd ht (fun q => kt (hs.1 ((lZ_inj (x := x) (y := y)).mp ((lg_cmp_eq _ _).mp q)))) (fun q => kf (hs.2 (fun r => q ((lg_cmp_eq _ _).mpr ((lZ_inj (x := x) (y := y)).mpr r)))))
    · exact lv_if_ne hx hb hd ht (fun q => kt (hs.2 (fun r => q ((lg_cmp_eq _ _).mpr ((lZ_inj (x := x) (y := y)).mpr r))))) (fun q => kf (hs.1 ((lZ_inj (x := x) (y := y)).mp ((lg_cmp_eq _ _).mp q))))
    · exact lv_if_lt hx hb hd ht (fun q => kt (hs.1 ((lZ_lt (x := x) (y := y)).mp ((lg_cmp_lt _ _).mp q)))) (fun q => kf (hs.2 (fun r => q ((lg_cmp_lt _ _).mpr ((lZ_lt (x := x) (y := y)).mpr r)))))
    · exact lv_if_ge hx hb hd ht (fun q => kt (hs.1 ((lZ_le (x := y) (y := x)).mp ((lg_cmp_ge _ _).mp q)))) (fun q => kf (hs.2 (fun r => q ((lg_cmp_ge _ _).mpr ((lZ_le (x := y) (y := x)).mpr r)))))
    · exact lv_if_gt hx hb hd ht (fun q => kt (hs.1 ((lZ_lt (x := y) (y := x)).mp ((lg_cmp_gt _ _).mp q)))) (fun q => kf (hs.2 (fun r => q ((lg_cmp_gt _ _).mpr ((lZ_lt (x := y) (y := x)).mpr r)))))
    · rename_i n0 n1 n2 n3 n4
      have hd : decode (mC i) (pc + 1) = .ok (.ifCond .le ((b : Int) - (pc + 1 : Nat)), 3) := by
        match a, hd with
        | 0, _ => exact absurd rfl n0
        | 1, _ => exact absurd rfl n1
        | 2, _ => exact absurd rfl n2
        | 3, _ => exact absurd rfl n3
        | 4, _ => exact absurd rfl n4
        | a + 5, hd => exact hd
      exact lv_if_le hx hb hd ht (fun q => kt (hs.1 ((lZ_le (x := x) (y := y)).mp ((lg_cmp_le _ _).mp q)))) (fun q => kf (hs.2 (fun r => q ((lg_cmp_le _ _).mpr ((lZ_le (x := x) (y := y)).mpr r)))))
  · exact hs.elim
end SND
