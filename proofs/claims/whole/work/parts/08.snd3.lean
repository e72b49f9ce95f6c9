theorem Runs.mono {G : GG} {i : Nat} {as : List AV} {h : AH} {P Q : Option AV → AH → Prop} (hr : Runs G i as h P) (hq : ∀ r h', P r h' → Q r h') : Runs G i as h Q := by
  unfold Runs Met at hr ⊢
  refine MetFree.mono hr (fun _ _ q => q) (fun _ _ _ _ _ q => q) ?_
  intro a s o t _ q
  exact ⟨⟨by obtain ⟨r, h', a1, a2, a3⟩ := q.1.1; exact ⟨r, h', a1, hq r h' a2, a3⟩, q.1.2⟩, q.2⟩
theorem callC_runs {G : GG} {a : Nat} {as : List AV} {h : AH} {K : List AV → AH → Prop} (hc : callC G a as h K) : Runs G a as h (fun r h' => K r.toList h') := by
  unfold callC at hc
  split at hc
  · exact Runs.mono hc (fun r h' q => by unfold pV at q; split at q; exact q; exact q.elim)
  · exact Runs.mono hc (fun r h' q => by unfold pL at q; split at q; exact q; exact q.elim)
  · exact Runs.mono hc (fun r h' q => by unfold pI at q; split at q; exact q; exact q.elim)
theorem blind {G : GG} {as : List AV} {h : AH} : FrameBlind (va_Pc (as.map (gc G)) (fun U => gB G h U ∧ nW U)) := by
  intro a U g mk q
  obtain ⟨q0, ⟨qP, qK, qD⟩, qN⟩ := q
  exact ⟨q0, ⟨qP, va_K.moved (u := U) (U := U.calling g mk a) (Vm.Alike.refl U.vm) qK, qD⟩, nW_same (u := U) rfl qN⟩
theorem catN_eq {G : GG} (st : List AV) : ((st.map (gc G)).map fun v => v.category).sum = (st.map catN).sum := by
  rw [List.map_map]
  congr 1
  apply List.map_congr_left
  intro v _
  rcases v with z | z | o <;> rfl
theorem callG {G : GG} {post : Option AV → AH → Prop} {p : Program} {e : Env} {R : Room} {s : State} {m : MethodId} {args : Array Value} {below : List Frame} {meth : Method} {cd : Code} {H : Heap} {locs : List Loc} {pc : Nat} {lsA : Array Slot} {st0 rest : List Value} {as : Array Value} {Q : State → Prop}
    (hr : va_Run p G.1 e R s m args below meth cd H locs 0 0 0 0 (F0 m pc lsA st0) rest (gQ G post as) (gA G)) (hS : va_S (gA G) s.heap H locs)
    (kk : ∀ (r : Option AV) (h' : AH) (H1 : Heap) (locs1 : List Loc), post r h' → va_P (gD G) vwCl (gW G h') H1 → va_D (gA G) (gW G h') → va_S (gA G) s.heap H1 locs1 → W p G.1 e R s m args below meth cd H1 locs1 0 0 Q (F0 m (pc + 3) lsA ((r.toList.map (gc G)) ++ rest))) :
    W p G.1 e R s m args below meth cd H locs 0 0 Q (F0 m pc lsA st0) := by
  intro T hT X
  obtain ⟨v, st₀, t, T', L, h0, X', hL, e1, e2, ⟨⟨r, h', hv, hp, hP1, hK1, hD1⟩, hz, hk⟩, st⟩ := hr T hT X
  cases hv
  rw [h0] at hz hk
  obtain ⟨t2, a1, b1⟩ := kk r h' T'.heap (locs ++ L) hp (by rw [e1]; exact hP1) hD1
    ⟨Nat.le_trans hS.1 (by rw [e1]; exact hz), fun q h1 h2 => by rw [e1, hk q (Nat.lt_of_lt_of_le h1 hS.1) h2]; exact hS.2.1 q h1 h2, fun q hq => by
      rcases List.mem_append.mp hq with h | h
      · exact hS.2.2 q h
      · exact hL q h⟩ T' rfl X'
  refine ⟨t2, st t2 ?_, b1⟩
  have e3 : (r.map (gc G)).toList = r.toList.map (gc G) := by cases r <;> rfl
  show Steps p.tables e below (T'.setTop { (F0 m pc lsA st0) with pc := pc + 3, stack := (r.map (gc G)).toList ++ rest }) t2
  rw [e3]
  exact a1
theorem cls_at {d : Nat} (h : d + 1 ≤ 13) : ∃ (C : String) (T : u_T) (N : Nat), vwCl[d]? = some (C, T, N) ∧ C = oS d := by
  have hl : d < vwCl.length := by simp [vwCl]; omega
  have h1 : vwCl[d]? = some ((vwCl[d]).1, (vwCl[d]).2.1, (vwCl[d]).2.2) := List.getElem?_eq_getElem hl
  exact ⟨_, _, _, h1, (cls_ok h1).2.2.1⟩
section SND3
variable {G : GG} {post : Option AV → AH → Prop} {i pc : Nat} {ls : List (Option AV)} {st : List AV} {h : AH} {K : KT} {ct : List Bool} {a b c d nx : Nat} {z : Int}
theorem s_27 (hK : ∀ pc ls st h, K pc ls st h → Go G post i pc ls st h) (ho : okE i pc (ct, 27, a, b, c, d, z, nx) = true) (hs : stp G post K (ct, 27, a, b, c, d, z, nx) ls st h) : Go G post i pc ls st h := by
  intro p e s m args below meth cd H locs lsA Cc hK1 hP hD hS hL
  have k0 := fun pc ls st h hs => hK pc ls st h hs p e s m args below meth cd
  have Cc0 := Cc
  obtain ⟨hx, hb, hr, hml, hown, hts, hlk, hi278, hnw⟩ := Cc
  simp only [stp] at hs
  split at hs
  · rename_i o r hst
    split at hs
    · rename_i hq0
      simp only [Bool.and_eq_true] at hq0
      have hkd := Nat.eq_of_beq_eq_true hq0.1
      have hdep := Nat.le_of_ble_eq_true hq0.2
      simp only [okE] at ho
      split at ho
      · rename_i kk ix a' n hq
        simp only [Bool.and_eq_true] at ho
        obtain ⟨hd, rfl⟩ := dk_of ho.1
        obtain rfl := Nat.eq_of_beq_eq_true ho.2.2.1
        obtain rfl := Nat.eq_of_beq_eq_true ho.2.2.2.1
        have hdk := Nat.eq_of_beq_eq_true ho.2.2.2.2.1
        have hd13 := Nat.le_of_ble_eq_true ho.2.2.2.2.2.1
        have ha278 : a' < 278 := Nat.le_of_ble_eq_true ho.2.2.2.2.2.2.1
        have hfr := Nat.le_of_ble_eq_true ho.2.2.2.2.2.2.2.1
        have hlo := Nat.le_of_ble_eq_true ho.2.2.2.2.2.2.2.2
        have hown2 : oS kk = (mN i).cls := by rw [Nat.eq_of_beq_eq_true ho.2.1]; exact (mt_ok hi278).2.2.2.2.2.symm
        obtain ⟨l1, l2, -, l3⟩ := ml_ok hq
        obtain ⟨l4, l5⟩ := l3 rfl
        obtain ⟨t1, t2, t3, t4, t5, t6⟩ := mt_ok ha278
        have l1 : Cond.methodLink (mN i).cls ix (mN a') ∈ lw_tbl := by rw [← hown2]; exact l1
        obtain ⟨C, T, N, hc, hC⟩ := cls_at hd13
        have hC : C = (mN a').cls := by rw [hC, hdk]; exact t6.symm
        have hM := callC_runs hs
        have hlen : (st.take n).length = n := by
          have h9 := congrArg List.length hst
          simp at h9
          simp
          omega
        have hstk : st = st.take n ++ vR o :: r := by rw [← hst]; exact (List.take_append_drop n st).symm
        have hGood : GoodIn gtb (wsV (mN i).cls ix (mN a').cls (mN a') (mW a' :: gtb)) := by
          intro w hw
          have hmem : w ∈ gtb := by
            unfold wsV at hw
            simp only [List.mem_append, List.mem_cons, List.not_mem_nil, or_false] at hw
            rcases hw with (rfl | rfl | rfl | rfl) | rfl | hw
            · exact inG l1 rfl
            · exact inG l4 rfl
            · exact inG l5 rfl
            · exact inG t2 rfl
            · exact inG t1 rfl
            · exact hw
          exact ⟨hmem, good_of_word (List.mem_filter.mp hmem).2⟩
        have hPc := cell_ob (G := G) (h := h) hkd (show d < 13 by omega)
        have hrun := va_runV (C := (mN a').cls) (b := G.2.2.2.2 o) (As := ((st.take n).reverse).map (gc G)) (rest := r.map (gc G)) (n := n) (mc := 0) (ms := 0) (cells := 0) (slots := 0) (locs := locs) (e := e) (below := below) (meth := meth) (H := H) (R := mRm i) (g := F0 m pc lsA (st.map (gc G)))
          ⟨hx, hb, hml, hown, hts⟩ hM (cwV n hts hGood rfl rfl rfl ⟨rfl, t4, t5, l2⟩ ⟨hfr, hlo⟩)
          ⟨blind, by rw [← hC]; exact va_recv hK1 hP hc hPc, fun U hU hW => ⟨rfl, ⟨by rw [hU]; exact hP, va_K.moved hW.alike hK1, hD⟩, nW_warm hW hnw⟩⟩
          rfl (by rw [List.length_map, List.length_reverse, hlen]) hL.1 (by
            show st.map (gc G) = _
            rw [← List.map_reverse, List.reverse_reverse]
            conv => lhs; rw [hstk]
            rw [List.map_append]
            rfl) (by
            show 2 * 0 + _ ≤ 8
            rw [catN_eq]
            omega) hd ⟨Nat.le_refl _, Nat.le_refl _⟩
        refine callG hrun hS (fun r' h' H1 locs1 hp hP hD hS => ?_)
        rw [← List.map_append]
        exact k0 _ _ _ _ (nrm_of hp) _ _ _ Cc0 hK1 hP hD hS hL
      · cases ho
    · exact hs.elim
  · exact hs.elim
theorem s_28 (hK : ∀ pc ls st h, K pc ls st h → Go G post i pc ls st h) (ho : okE i pc (ct, 28, a, b, c, d, z, nx) = true) (hs : stp G post K (ct, 28, a, b, c, d, z, nx) ls st h) : Go G post i pc ls st h := by
  intro p e s m args below meth cd H locs lsA Cc hK1 hP hD hS hL
  have k0 := fun pc ls st h hs => hK pc ls st h hs p e s m args below meth cd
  have Cc0 := Cc
  obtain ⟨hx, hb, hr, hml, hown, hts, hlk, hi278, hnw⟩ := Cc
  simp only [stp] at hs
  split at hs
  · rename_i hq0
    simp only [Bool.and_eq_true] at hq0
    have hbl := Nat.le_of_ble_eq_true hq0.1
    have hdep := Nat.le_of_ble_eq_true hq0.2
    simp only [okE] at ho
    split at ho
    · rename_i kk ix a' n hq
      simp only [Bool.and_eq_true] at ho
      obtain ⟨hd, rfl⟩ := dk_of ho.1
      obtain rfl := Nat.eq_of_beq_eq_true ho.2.2.1
      obtain rfl := Nat.eq_of_beq_eq_true ho.2.2.2.1
      have ha278 : a' < 278 := Nat.le_of_ble_eq_true ho.2.2.2.2.1
      have hfr := Nat.le_of_ble_eq_true ho.2.2.2.2.2.1
      have hlo := Nat.le_of_ble_eq_true ho.2.2.2.2.2.2
      have hown2 : oS kk = (mN i).cls := by rw [Nat.eq_of_beq_eq_true ho.2.1]; exact (mt_ok hi278).2.2.2.2.2.symm
      obtain ⟨l1, l2, l3, -⟩ := ml_ok hq
      have l4 := l3 rfl
      obtain ⟨t1, t2, t3, t4, t5, t6⟩ := mt_ok ha278
      have l1 : Cond.methodLink (mN i).cls ix (mN a') ∈ lw_tbl := by rw [← hown2]; exact l1
      have hM := callC_runs hs
      have hlen : (st.take n).length = n := by simp; omega
      have hGood : GoodIn gtb (mW a' :: gtb) := by
        intro w hw
        have hmem : w ∈ gtb := by
          rcases List.mem_cons.mp hw with rfl | hw
          · exact inG t1 rfl
          · exact hw
        exact ⟨hmem, good_of_word (List.mem_filter.mp hmem).2⟩
      have hrun := va_runS (As := ((st.take n).reverse).map (gc G)) (rest := (st.drop n).map (gc G)) (n := n) (mc := 0) (ms := 0) (cells := 0) (slots := 0) (locs := locs) (e := e) (below := below) (meth := meth) (H := H) (R := mRm i) (g := F0 m pc lsA (st.map (gc G)))
        ⟨hx, hb, hml, hown, hts⟩ hM ⟨callB_of n hts hGood rfl rfl rfl (hts _ (inG t2 rfl)) (hts _ (inG l1 rfl)) ⟨t4, t5, l2⟩ ⟨hfr, hlo⟩, hts _ (inG l4 rfl)⟩
        ⟨blind, fun U hU hW => ⟨rfl, ⟨by rw [hU]; exact hP, va_K.moved hW.alike hK1, hD⟩, nW_warm hW hnw⟩⟩
        rfl (by rw [List.length_map, List.length_reverse, hlen]) hL.1 (by
          show st.map (gc G) = _
          rw [← List.map_reverse, List.reverse_reverse, ← List.map_append, List.take_append_drop]) (by
          show 2 * 0 + _ ≤ 8
          rw [catN_eq]
          omega) hd ⟨Nat.le_refl _, Nat.le_refl _⟩
      refine callG hrun hS (fun r' h' H1 locs1 hp hP hD hS => ?_)
      rw [← List.map_append]
      exact k0 _ _ _ _ (nrm_of hp) _ _ _ Cc0 hK1 hP hD hS hL
    · cases ho
  · exact hs.elim
theorem s_29 (hK : ∀ pc ls st h, K pc ls st h → Go G post i pc ls st h) (ho : okE i pc (ct, 29, a, b, c, d, z, nx) = true) (hs : stp G post K (ct, 29, a, b, c, d, z, nx) ls st h) : Go G post i pc ls st h := by
  intro p e s m args below meth cd H locs lsA Cc hK1 hP hD hS hL
  have k0 := fun pc ls st h hs => hK pc ls st h hs p e s m args below meth cd
  have Cc0 := Cc
  obtain ⟨hx, hb, hr, hml, hown, hts, hlk, hi278, hnw⟩ := Cc
  simp only [stp] at hs
  split at hs
  · rename_i x
    simp only [okE, Bool.and_eq_true] at ho
    obtain ⟨hd, -⟩ := dk_of ho.1
    have ho2 := ho.2
    split at hs
    · simp only [decide_eq_true_eq] at ho2
      exact W.zret (ty := .boolean) hx hb (by rw [hr]; exact ho2) (nar_z hs.1).1 (fun t ht hW => ⟨⟨some (vI x), h, rfl, hs.2, by rw [ht]; exact hP, va_K.moved hW.alike hK1, hD⟩, hS.F ht⟩) hS.2.2 hd hlk
    · rename_i hd1
      have ho2 : mR i = some .int := by
        split at ho2
        · exact absurd rfl hd1
        · simpa using ho2
      exact W.iret hx hb (by rw [hr]; exact ho2) (fun t ht hW => ⟨⟨some (vI x), h, rfl, hs, by rw [ht]; exact hP, va_K.moved hW.alike hK1, hD⟩, hS.F ht⟩) hS.2.2 hd hlk
  · exact hs.elim
theorem s_30 (hK : ∀ pc ls st h, K pc ls st h → Go G post i pc ls st h) (ho : okE i pc (ct, 30, a, b, c, d, z, nx) = true) (hs : stp G post K (ct, 30, a, b, c, d, z, nx) ls st h) : Go G post i pc ls st h := by
  intro p e s m args below meth cd H locs lsA Cc hK1 hP hD hS hL
  have k0 := fun pc ls st h hs => hK pc ls st h hs p e s m args below meth cd
  have Cc0 := Cc
  obtain ⟨hx, hb, hr, hml, hown, hts, hlk, hi278, hnw⟩ := Cc
  simp only [stp] at hs
  split at hs
  · rename_i x
    simp only [okE, Bool.and_eq_true, decide_eq_true_eq] at ho
    obtain ⟨hd, -⟩ := dk_of ho.1
    exact W.lret hx hb (by rw [hr]; exact ho.2) (fun t ht hW => ⟨⟨some (vL x), h, rfl, hs, by rw [ht]; exact hP, va_K.moved hW.alike hK1, hD⟩, hS.F ht⟩) hS.2.2 hd hlk
  · exact hs.elim
theorem s_31 (hK : ∀ pc ls st h, K pc ls st h → Go G post i pc ls st h) (ho : okE i pc (ct, 31, a, b, c, d, z, nx) = true) (hs : stp G post K (ct, 31, a, b, c, d, z, nx) ls st h) : Go G post i pc ls st h := by
  intro p e s m args below meth cd H locs lsA Cc hK1 hP hD hS hL
  have k0 := fun pc ls st h hs => hK pc ls st h hs p e s m args below meth cd
  have Cc0 := Cc
  obtain ⟨hx, hb, hr, hml, hown, hts, hlk, hi278, hnw⟩ := Cc
  simp only [stp] at hs
  split at hs
  · simp only [okE, Bool.and_eq_true, decide_eq_true_eq] at ho
    obtain ⟨hd, -⟩ := dk_of ho.1
    exact W.vret hx hb (by rw [hr]; exact ho.2) (fun t ht hW => ⟨⟨none, h, rfl, hs, by rw [ht]; exact hP, va_K.moved hW.alike hK1, hD⟩, hS.F ht⟩) hS.2.2 hd hlk
  · exact hs.elim
end SND3
