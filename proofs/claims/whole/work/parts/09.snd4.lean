theorem swC_of {K : Nat → Prop} {x : Int} {d : Nat} : ∀ {l : List (Int × Nat)}, swC K x d l → (∃ t, (x, t) ∈ l ∧ K t) ∨ ((∀ q ∈ l, q.1 ≠ x) ∧ K d)
  | [], h => Or.inr ⟨fun _ h => absurd h List.not_mem_nil, h⟩
  | (k, t) :: r, h => by
    by_cases hx : x = k
    · subst hx
      exact Or.inl ⟨t, List.mem_cons_self, h.1 rfl⟩
    · rcases swC_of (h.2 hx) with ⟨t', a, b⟩ | ⟨a, b⟩
      · exact Or.inl ⟨t', List.mem_cons_of_mem _ a, b⟩
      · refine Or.inr ⟨fun q hq => ?_, b⟩
        rcases List.mem_cons.mp hq with rfl | hq
        · exact fun e => hx e.symm
        · exact a q hq
/-- the first pair with the key -/
theorem swC_first {K : Nat → Prop} {x : Int} {d : Nat} (pc : Nat) (df : Int) (hdf : (d : Int) = pc + df) : ∀ {l : List (Int × Nat)}, swC K x d l → ∃ t : Nat, ((pc : Int) + Op.lookupswitch.offset (l.map (fun q => (q.1, ((q.2 : Int) - pc)))) df x = (t : Int)) ∧ K t
  | [], h => ⟨d, by simp [Op.lookupswitch.offset, hdf], h⟩
  | (k, t) :: r, h => by
    by_cases hx : x = k
    · subst hx
      refine ⟨t, ?_, h.1 rfl⟩
      rw [List.map_cons]
      simp only [Op.lookupswitch.offset]
      simp
      omega
    · obtain ⟨t', a, b⟩ := swC_first pc df hdf (h.2 hx)
      refine ⟨t', ?_, b⟩
      rw [List.map_cons]
      simp only [Op.lookupswitch.offset]
      have : ¬ (k == x) = true := by simpa using fun q : k = x => hx q.symm
      have h3 : ¬ k = x := fun q => hx q.symm
      simp only [h3, this, if_false]
      first | exact a | (simp; exact a)
section SND4
variable {G : GG} {post : Option AV → AH → Prop} {i pc : Nat} {ls : List (Option AV)} {st : List AV} {h : AH} {K : KT} {ct : List Bool} {a b c d nx : Nat} {z : Int}
theorem s_32 (hK : ∀ pc ls st h, K pc ls st h → Go G post i pc ls st h) (ho : okE i pc (ct, 32, a, b, c, d, z, nx) = true) (hs : stp G post K (ct, 32, a, b, c, d, z, nx) ls st h) : Go G post i pc ls st h := by
  intro p e s m args below meth cd H locs lsA Cc hK1 hP hD hS hL
  have k0 := fun pc ls st h hs => hK pc ls st h hs p e s m args below meth cd
  have Cc0 := Cc
  obtain ⟨hx, hb, hr, hml, hown, hts, hlk, hi278, hnw⟩ := Cc
  simp only [stp] at hs
  split at hs
  · rename_i x st
    simp only [okE] at ho
    split at ho
    · rename_i df lo hi offs len hd
      simp only [Bool.and_eq_true, decide_eq_true_eq] at ho
      obtain ⟨h1, h2, h3⟩ := ho
      have hxe : (Int32.ofInt x).toInt = wI x := wI_eq x
      rcases swC_of hs with ⟨t, hm, hk⟩ | ⟨hn, hk⟩
      · have hm2 : (wI x, ((t : Int) - pc)) ∈ (swt c).1.map (fun q => (q.1, ((q.2 : Int) - pc))) := List.mem_map.mpr ⟨_, hm, rfl⟩
        rw [h1] at hm2
        obtain ⟨⟨of, j⟩, hj, he⟩ := List.mem_map.mp hm2
        have hj2 := List.mem_zipIdx_iff_getElem?.mp hj
        have e1 : lo + (j : Int) = wI x := (Prod.mk.inj he).1
        have e2 : of = (t : Int) - pc := (Prod.mk.inj he).2
        dsimp only at hj2 e1 e2
        have hjl : j < offs.size := by
          have := (List.getElem?_eq_some_iff.mp hj2).1
          simpa using this
        refine lv_tableIn (off := of) (tgt := t) hx hb hd (by rw [hxe]; omega) (by rw [hxe]; omega) ?_ (by omega) (k0 _ _ _ _ hk _ _ _ Cc0 hK1 hP hD hS hL)
        rw [hxe, show (wI x - lo).toNat = j by omega]
        rw [← Array.getElem?_toList]
        exact hj2
      · refine lv_tableOut (tgt := (swt c).2) hx hb hd ?_ h3.symm (k0 _ _ _ _ hk _ _ _ Cc0 hK1 hP hD hS hL)
        rw [hxe]
        by_cases q1 : wI x < lo
        · exact Or.inl q1
        by_cases q2 : hi < wI x
        · exact Or.inr q2
        exfalso
        have hj : (wI x - lo).toNat < offs.size := by omega
        have hm : (wI x, offs[(wI x - lo).toNat]) ∈ offs.toList.zipIdx.map (fun q => (lo + (q.2 : Int), q.1)) := by
          refine List.mem_map.mpr ⟨(offs[(wI x - lo).toNat], (wI x - lo).toNat), List.mem_zipIdx_iff_getElem?.mpr ?_, ?_⟩
          · simp [hj]
          · simp only [Prod.mk.injEq, and_true]
            omega
        rw [← h1] at hm
        obtain ⟨⟨k, t⟩, hkt, he⟩ := List.mem_map.mp hm
        exact hn _ hkt (Prod.mk.inj he).1
    · rename_i df ps len hd
      simp only [Bool.and_eq_true, decide_eq_true_eq] at ho
      obtain ⟨h1, h2, h3⟩ := ho
      obtain ⟨t, ht, hk⟩ := swC_first pc df h2 hs
      rw [h1] at ht
      exact lv_lookup hx hb hd h3 rfl (by rw [wI_eq]; exact ht) (k0 _ _ _ _ hk _ _ _ Cc0 hK1 hP hD hS hL)
    · cases ho
  · exact hs.elim
theorem wd_cpy {G : GG} {h : AH} {a0 a1 sp dp n : Nat} (h1 : ob_kd a1 = 14) : (gW G h).set a1 (G.2.2.2.2 a1, .inl (G.2.2.2.1 14, ob_ln a1, .inl (va_cpy (fun k => Int32.ofInt (h a0 k)) (fun k => Int32.ofInt (h a1 k)) sp dp n))) = gW G (hcp h a0 a1 sp dp n) := by
  refine wd_set ?_ (fun q hq => if_neg hq)
  unfold ob_cell
  rw [h1, if_neg (by omega), if_neg (by omega)]
  congr 3
  congr 1
  funext j
  unfold va_cpy hcp
  rw [if_pos rfl]
  dsimp only
  split <;> rfl
theorem s_33 (hK : ∀ pc ls st h, K pc ls st h → Go G post i pc ls st h) (ho : okE i pc (ct, 33, a, b, c, d, z, nx) = true) (hs : stp G post K (ct, 33, a, b, c, d, z, nx) ls st h) : Go G post i pc ls st h := by
  intro p e s m args below meth cd H locs lsA Cc hK1 hP hD hS hL
  have k0 := fun pc ls st h hs => hK pc ls st h hs p e s m args below meth cd
  have Cc0 := Cc
  obtain ⟨hx, hb, hr, hml, hown, hts, hlk, hi278, hnw⟩ := Cc
  simp only [stp, g33] at hs
  split at hs
  · rename_i n dp a1 sp a0 st
    split at hs
    · rename_i hq
      simp only [Bool.and_eq_true] at hq
      have k0' := Nat.eq_of_beq_eq_true hq.1
      have k1' := Nat.eq_of_beq_eq_true hq.2.1
      have hdep := Nat.le_of_ble_eq_true hq.2.2.2.2
      simp only [okE, Bool.and_eq_true] at ho
      obtain ⟨hd, rfl⟩ := dk_of ho.1
      have hown2 : oS acO = (mN i).cls := by rw [← Nat.eq_of_beq_eq_true ho.2.1]; exact (mt_ok hi278).2.2.2.2.2.symm
      have hw : Cond.methodLink (mN i).cls acI arraycopyName ∈ lw_tbl := by rw [← hown2]; exact ac_l
      have hfr := Nat.le_of_ble_eq_true ho.2.2.1
      have hlo := Nat.le_of_ble_eq_true ho.2.2.2
      obtain ⟨⟨g1, g2, g3, g4, g5⟩, hs2⟩ := hs
      rw [lnV_eq hq.2.2.1] at g4
      rw [lnV_eq hq.2.2.2.1] at g5
      refine va_copyi hx hb (by rw [hml]; exact hL.1.symm) hown (hts _ (inG hw rfl)) (hts _ (inG ac_w.1 rfl)) (hts _ (inG ac_w.2.1 rfl)) (hts _ (inG ac_w.2.2 rfl)) hK1 hP hD hS a0 a1 1 1 (ty := .int) (cell_ai k0' (by omega)) (cell_ai k1' (by omega)) rfl rfl rfl
        (by rw [z_lt]; omega) (by rw [z_lt]; omega) (by rw [z_lt]; omega) (by rw [toN_i, toN_i]; omega) (by rw [toN_i, toN_i]; omega) (fun _ _ => rfl) hfr (by rw [catN_eq]; show _ + (7 + 11) ≤ mO i; omega) hd ?_
      rw [toN_i, toN_i, toN_i, wd_cpy k1']
      exact fun H locs hP hD hS => k0 _ _ _ _ hs2 _ _ _ Cc0 hK1 hP hD hS hL
    · exact hs.elim
  · exact hs.elim
theorem s_34 (hK : ∀ pc ls st h, K pc ls st h → Go G post i pc ls st h) (ho : okE i pc (ct, 34, a, b, c, d, z, nx) = true) (hs : stp G post K (ct, 34, a, b, c, d, z, nx) ls st h) : Go G post i pc ls st h := by
  intro p e s m args below meth cd H locs lsA Cc hK1 hP hD hS hL
  have k0 := fun pc ls st h hs => hK pc ls st h hs p e s m args below meth cd
  have Cc0 := Cc
  obtain ⟨hx, hb, hr, hml, hown, hts, hlk, hi278, hnw⟩ := Cc
  simp only [stp] at hs
  split at hs
  · rename_i y x st
    split at hs
    · rename_i hdep
      have hdep := Nat.le_of_ble_eq_true hdep
      have k := k0 _ _ _ _ hs _ _ _ Cc0 hK1 hP hD hS hL
      simp only [okE] at ho
      split at ho
      · rename_i kk ix q hq
        simp only [Bool.and_eq_true] at ho
        obtain ⟨hd, rfl⟩ := dk_of ho.1
        have hown2 : oS kk = (mN i).cls := by rw [Nat.eq_of_beq_eq_true ho.2.1]; exact (mt_ok hi278).2.2.2.2.2.symm
        have hw := mxt_ok_0 _ (List.mem_of_getElem? hq)
        have hfr := Nat.le_of_ble_eq_true ho.2.2.2.1
        have hlo := Nat.le_of_ble_eq_true ho.2.2.2.2
        have hqa := ho.2.2.1
        clear hs ho
        match a, q, hqa, hw, k with
        | 0, false, _, hw, k =>
          have hw : Cond.methodLink (mN i).cls ix Lib.Math.max.name ∈ lw_tbl := by rw [← hown2]; exact hw
          refine va_mmax hx hb (by rw [hml]; exact hL.1.symm) hown (hts _ (inG hw rfl)) (hts _ (inG mx_w.1.1 rfl)) (hts _ (inG mx_w.2.2 rfl)) (hts _ (inG mx_w.1.2 rfl)) hfr (by rw [catN_eq]; show _ ≤ mO i; omega) (Nat.le_refl _) (Nat.le_refl _) hd ?_
          have e9 : (if Int32.ofInt x < Int32.ofInt y then Int32.ofInt y else Int32.ofInt x) = Int32.ofInt (mm 0 x y) := by
            unfold mm
            by_cases h9 : wI x < wI y
            · rw [if_pos (iZ_lt.mpr h9)]; rw [if_pos h9]; rfl
            · rw [if_neg (fun z => h9 (iZ_lt.mp z))]; rw [if_neg h9]; rfl
          rw [e9]
          exact k
        | n + 1, true, _, hw, k =>
          have hw : Cond.methodLink (mN i).cls ix Lib.Math.min.name ∈ lw_tbl := by rw [← hown2]; exact hw
          refine va_mmin hx hb (by rw [hml]; exact hL.1.symm) hown (hts _ (inG hw rfl)) (hts _ (inG mx_w.2.1.1 rfl)) (hts _ (inG mx_w.2.2 rfl)) (hts _ (inG mx_w.2.1.2 rfl)) hfr (by rw [catN_eq]; show _ ≤ mO i; omega) (Nat.le_refl _) (Nat.le_refl _) hd ?_
          have e9 : (if Int32.ofInt y < Int32.ofInt x then Int32.ofInt y else Int32.ofInt x) = Int32.ofInt (mm (n + 1) x y) := by
            unfold mm
            by_cases h9 : wI y < wI x
            · rw [if_pos (iZ_lt.mpr h9)]; rw [if_pos h9]; rfl
            · rw [if_neg (fun z => h9 (iZ_lt.mp z))]; rw [if_neg h9]; rfl
          rw [e9]
          exact k
      · cases ho
    · exact hs.elim
  · exact hs.elim
theorem stp_ok {e : EM} (hK : ∀ pc ls st h, K pc ls st h → Go G post i pc ls st h) (ho : okE i pc e = true) (hs : stp G post K e ls st h) : Go G post i pc ls st h := by
  obtain ⟨ct, op, a, b, c, d, z, nx⟩ := e
  match op, ho, hs with
  | 0, ho, hs => exact s_0 hK ho hs
  | 1, ho, hs => exact s_1 hK ho hs
  | 2, ho, hs => exact s_2 hK ho hs
  | 3, ho, hs => exact s_3 hK ho hs
  | 4, ho, hs => exact s_4 hK ho hs
  | 5, ho, hs => exact s_5 hK ho hs
  | 6, ho, hs => exact s_6 hK ho hs
  | 7, ho, hs => exact s_7 hK ho hs
  | 8, ho, hs => exact s_8 hK ho hs
  | 9, ho, hs => exact s_9 hK ho hs
  | 10, ho, hs => exact s_10 hK ho hs
  | 11, ho, hs => exact s_11 hK ho hs
  | 12, ho, hs => exact s_12 hK ho hs
  | 13, ho, hs => exact s_13 hK ho hs
  | 14, ho, hs => exact s_14 hK ho hs
  | 15, ho, hs => exact s_15 hK ho hs
  | 16, ho, hs => exact s_16 hK ho hs
  | 17, ho, hs => exact s_17 hK ho hs
  | 18, ho, hs => exact s_18 hK ho hs
  | 19, ho, hs => exact s_19 hK ho hs
  | 20, ho, hs => exact s_20 hK ho hs
  | 21, ho, hs => exact s_21 hK ho hs
  | 22, ho, hs => exact s_22 hK ho hs
  | 23, ho, hs => exact s_23 hK ho hs
  | 24, ho, hs => exact s_24 hK ho hs
  | 25, ho, hs => exact s_25 hK ho hs
  | 26, ho, hs => exact s_26 hK ho hs
  | 27, ho, hs => exact s_27 hK ho hs
  | 28, ho, hs => exact s_28 hK ho hs
  | 29, ho, hs => exact s_29 hK ho hs
  | 30, ho, hs => exact s_30 hK ho hs
  | 31, ho, hs => exact s_31 hK ho hs
  | 32, ho, hs => exact s_32 hK ho hs
  | 33, ho, hs => exact s_33 hK ho hs
  | 34, ho, hs => exact s_34 hK ho hs
  | 35, ho, hs => exact s_35 hK ho hs
  | n + 36, _, hs => exact hs.elim
end SND4
def eD : EM := ([], 99, 0, 0, 0, 0, 0, 0)
def ent (cd : List (List EM)) (pc : Nat) : EM := (cd.getD (pc / 16) []).getD (pc % 16) eD
def okM (i : Nat) (cd : List (List EM)) : Bool := cd.zipIdx.all (fun q => q.1.zipIdx.all (fun r => okE i (16 * q.2 + r.2) r.1))
theorem okM_of {i : Nat} {cd : List (List EM)} (h : okM i cd = true) (pc : Nat) : okE i pc (ent cd pc) = true := by
  unfold ent
  rw [List.getD_eq_getElem?_getD, List.getD_eq_getElem?_getD]
  cases h1 : cd[pc / 16]? with
  | none => rfl
  | some ch =>
    have q1 := List.all_eq_true.mp h (ch, pc / 16) (List.mem_zipIdx_iff_getElem?.mpr h1)
    rw [Option.getD_some]
    cases h2 : ch[pc % 16]? with
    | none => rfl
    | some e =>
      have q2 := List.all_eq_true.mp q1 (e, pc % 16) (List.mem_zipIdx_iff_getElem?.mpr h2)
      dsimp only at q2
      rw [show 16 * (pc / 16) + pc % 16 = pc by omega] at q2
      exact q2
/-- locals that nobody reads any more are forgotten -/
def kp : List Bool → List (Option AV) → List (Option AV)
  | true :: m, v :: r => v :: kp m r
  | false :: m, _ :: r => none :: kp m r
  | _, _ => []
theorem kp_get : ∀ (m : List Bool) (ls : List (Option AV)) (j : Nat) (v : AV), (kp m ls)[j]? = some (some v) → ls[j]? = some (some v)
  | true :: m, w :: r, 0, v, h => by simpa [kp] using h
  | true :: m, w :: r, j + 1, v, h => by
    simp only [kp, List.getElem?_cons_succ] at h ⊢
    exact kp_get m r j v h
  | false :: m, w :: r, 0, v, h => by simp [kp] at h
  | false :: m, w :: r, j + 1, v, h => by
    simp only [kp, List.getElem?_cons_succ] at h ⊢
    exact kp_get m r j v h
  | [], ls, j, v, h => by simp [kp] at h
  | true :: m, [], j, v, h => by simp [kp] at h
  | false :: m, [], j, v, h => by simp [kp] at h
theorem Go.kp {G : GG} {post : Option AV → AH → Prop} {i pc : Nat} {ls : List (Option AV)} {st : List AV} {h : AH} {m : List Bool} (hg : Go G post i pc (kp m ls) st h) : Go G post i pc ls st h :=
  fun p e s m args below meth c H locs lsA Cc hK hP hD hS hL => hg p e s m args below meth c H locs lsA Cc hK hP hD hS ⟨hL.1, hL.2.1, fun j v hj => hL.2.2 j v (kp_get _ _ _ _ hj)⟩
/-- what is to be shown at pc: instruction by instruction, up to the next cut -/
def vc (G : GG) (post : Option AV → AH → Prop) (i : Nat) (cd : List (List EM)) : Nat → KT
  | 0, pc, ls, st, h => Go G post i pc ls st h
  | n + 1, pc, ls, st, h => match (ent cd pc).1 with
    | [] => stp G post (vc G post i cd n) (ent cd pc) ls st h
    | b :: m => Go G post i pc (kp (b :: m) ls) st h
def vc1 (G : GG) (post : Option AV → AH → Prop) (i : Nat) (cd : List (List EM)) (n pc : Nat) (ls : List (Option AV)) (st : List AV) (h : AH) : Prop := stp G post (vc G post i cd n) (ent cd pc) ls st h
theorem vc_ok {G : GG} {post : Option AV → AH → Prop} {i : Nat} {cd : List (List EM)} (hc : okM i cd = true) : ∀ (n pc : Nat) (ls : List (Option AV)) (st : List AV) (h : AH), vc G post i cd n pc ls st h → Go G post i pc ls st h
  | 0, _, _, _, _, h => h
  | n + 1, pc, ls, st, h, hv => by
    unfold vc at hv
    split at hv
    · exact stp_ok (vc_ok hc n) (okM_of hc pc) hv
    · exact Go.kp hv
theorem go1 {G : GG} {post : Option AV → AH → Prop} {i : Nat} {cd : List (List EM)} (hc : okM i cd = true) (n : Nat) {pc : Nat} {ls : List (Option AV)} {st : List AV} {h : AH} (hv : vc1 G post i cd n pc ls st h) : Go G post i pc ls st h := stp_ok (vc_ok hc n) (okM_of hc pc) hv
/-- the locals with which a method begins -/
def aL : List AV → List (Option AV)
  | [] => []
  | .inr (.inl z) :: r => some (vL z) :: none :: aL r
  | v :: r => some v :: aL r
theorem aL_get {G : GG} : ∀ (as : List AV) (n j : Nat) (v : AV), (aL as)[j]? = some (some v) → (n + j, gc G v) ∈ lv_args n (as.map (gc G))
  | [], n, j, v, h => by simp [aL] at h
  | .inl z :: r, n, j, v, h => by
    cases j with
    | zero =>
      simp [aL] at h
      subst h
      simp [lv_args]
    | succ j =>
      simp [aL] at h
      have := aL_get (G := G) r (n + 1) j v h
      rw [List.map_cons, lv_args]
      refine List.mem_cons_of_mem _ ?_
      rw [if_neg (by simp [cv, Value.category]), show n + (j + 1) = n + 1 + j by omega]
      exact this
  | .inr (.inl z) :: r, n, j, v, h => by
    cases j with
    | zero =>
      simp [aL] at h
      subst h
      simp [lv_args]
    | succ j =>
      cases j with
      | zero => simp [aL] at h
      | succ j =>
        simp [aL] at h
        have := aL_get (G := G) r (n + 2) j v h
        rw [List.map_cons, lv_args]
        refine List.mem_cons_of_mem _ ?_
        rw [if_pos (by simp [cv, Value.category]), show n + (j + 1 + 1) = n + 2 + j by omega]
        exact this
  | .inr (.inr o) :: r, n, j, v, h => by
    cases j with
    | zero =>
      simp [aL] at h
      subst h
      simp [lv_args]
    | succ j =>
      simp [aL] at h
      have := aL_get (G := G) r (n + 1) j v h
      rw [List.map_cons, lv_args]
      refine List.mem_cons_of_mem _ ?_
      rw [if_neg (by simp [cv, Value.category]), show n + (j + 1) = n + 1 + j by omega]
      exact this
theorem aL_len {G : GG} : ∀ (as : List AV), (lg_sl (as.map (gc G))).length = (aL as).length
  | [] => rfl
  | .inl z :: r => by
    have := aL_len (G := G) r
    simp [lg_sl, aL, cv, Value.category] at this ⊢
    omega
  | .inr (.inl z) :: r => by
    have := aL_len (G := G) r
    simp [lg_sl, aL, cv, Value.category] at this ⊢
    omega
  | .inr (.inr o) :: r => by
    have := aL_len (G := G) r
    simp [lg_sl, aL, cv, Value.category] at this ⊢
    omega
/-- a method out of its body; none: unset locals behind the arguments -/
theorem runs_of {G : GG} {post : Option AV → AH → Prop} {i : Nat} {as : List AV} {h : AH} (hi : i < 278) (pad : Nat) (hn : (aL as).length + pad = mL i) (hg : Go G post i 0 (aL as ++ List.replicate pad none) [] h) : Runs G i as h post := by
  refine Met.ofW (cc := mC i) (maxL := mL i) (ret := mR i) (mt_ok hi).2.2.1 rfl ?_
  intro p e s m args below meth c s₁ B hml hv
  obtain ⟨rfl, ⟨hP, hK, hD⟩, hN⟩ := hv
  have hts := atoms_spec (ws := mW i :: gtb) B.pre
  have hl := lv_entry (as.map (gc G)) (n := mL i) (by rw [aL_len]; omega)
  rw [lg_entry_eq]
  generalize (lg_sl (as.map (gc G)) ++ List.replicate (mL i - (lg_sl (as.map (gc G))).length) Slot.unset).toArray = ls at hl ⊢
  refine hg p e s m _ below meth c s.heap [] ls ⟨B.exec, B.bytes, B.returns, hml, findClass_of_methodNamed B.named, fun w hw => hts w (List.mem_cons_of_mem _ hw), B.notSynchronized, hi, hN⟩ hK hP hD va_S.rf ⟨hl.1, hl.2.1, fun j v hj => ?_⟩
  by_cases hq : j < (aL as).length
  · rw [List.getElem?_append_left hq] at hj
    have := aL_get (G := G) as 0 j v hj
    rw [Nat.zero_add] at this
    exact hl.2.2 _ this
  · rw [List.getElem?_append_right (by omega), List.getElem?_replicate] at hj
    split at hj <;> simp at hj
