/-! the law's loop, over what each pair of calls does; its first rows are the skeleton's -/
def R_law : String := "BitmapVolumeLaw"
def lw_P (b : Addr) (xs : List Int32) (args : Array Value) (s : State) : Prop := args = #[.ref b] ∧ s.IntsAt b xs ∧ xs.length ≤ 2560 ∧ (Jvm.Cond.and given_1 narrow_1).before args s = true
def lw_Q (_ : Array Value) (s : State) (o : Outcome) (t : State) : Prop := o = .returned (some (.int 1)) ∧ Framed s o t [] 60 60202
def lw_Z (below : List Frame) (a : Array Value) (s : State) : State → Prop := fun t => ∃ o, t.status = .running ∧ Ended t below o ∧ lw_Q a s o t
/-- the law's own end, with 1 on the stack, nothing written that was there before, its room as the claim has it -/
theorem lw_ret {p : Program} {l : Launch} {e : Env} {s : State} {m : MethodId} {below : List Frame} {meth : Method} {c : Code} {b : Nat} (hx : p.tables.exec = Jvm.exec) (hb : c.code = code) (hr : meth.sig.returnType = ret) (hlocks : meth.locks = false) {pc : Nat} {H : Heap} {ls : Array Slot} (hdg : decode code pc = .ok (.ireturn, 1)) : W p l e room_1 s m #[Value.ref b] below meth c H [] 60 60202 (lw_Z below #[Value.ref b] s) (F0 m pc ls [.int 1]) := by
  intro T hT X
  obtain ⟨fs, hret, hrun, hended, hW, hframe⟩ := X.leave (v := some (.int 1)) (hlocks := hlocks) (fun h => by rw [hr] at h; cases h)
  have hmeth' : T.vm.method? m = some meth := X.method'
  refine ⟨T.setFrames fs, ?_, .returned (some (.int 1)), hrun, hended, rfl, ⟨_, rfl⟩, hW, hframe⟩
  jvm_step X.here [X.here.top, hx, hb, hdg, hmeth', hr, ret, narrow_b1]
  (try refine ⟨rfl, ?_⟩); (try refine ⟨rfl, ?_⟩)
  first | (intro acts; rw [hret _ acts rfl rfl rfl]) | rw [hret _ _ rfl rfl rfl]
  exact Steps.refl _
/-- what holds at the law's entry: the machine, the code, the tables' words (any of lw_tbl by 'hts w (by decide +kernel)'), the script of L ints xs at the cell b, what the Statement gives of the start (any of its parts by flat_of_before) -/
def lw_At (p : Program) (s : State) (m : MethodId) (meth : Method) (c : Code) (b L : Nat) (xs : Nat → Int32) : Prop :=
  p.tables.exec = Jvm.exec ∧ c.code = code ∧ meth.sig.returnType = ret ∧ c.maxLocals = 4 ∧ s.vm.findClass R_law = some m.cls ∧ (∀ w ∈ lw_tbl, w.before #[Value.ref b] s = true) ∧ va_X b L xs s s.heap ∧ b < s.heap.size ∧ meth.locks = false ∧ (Jvm.Cond.and given_1 narrow_1).before #[Value.ref b] s = true
def gAt (s : State) : Nat → Prop := fun q => s.heap.size ≤ q
def zs (xs : Nat → Int32) (j : Nat) : Int := (xs j).toInt
/-- the law at pc, i ints read, with this stack over h -/
def GoL (G : GG) (b L : Nat) (xs : Nat → Int32) (i pc : Nat) (st : List AV) (h : AH) : Prop :=
  ∀ (p : Program) (e : Env) (s : State) (m : MethodId) (below : List Frame) (meth : Method) (c : Code) (H : Heap) (locs : List Loc) (lsA : Array Slot),
    lw_At p s m meth c b L xs → nW s → va_K (gD G) vwCl (wtys G.2.2.2.1) s → va_P (gD G) vwCl (gW G h) H → va_D (gAt s) (gW G h) → va_S (gAt s) s.heap H locs → lv_has lsA 4 [(0, .ref b), (1, .ref (G.2.2.2.2 0)), (2, .ref (G.2.2.2.2 34)), (3, .int (nI i))] →
    W p G.1 e room_1 s m #[Value.ref b] below meth c H locs 60 60202 (lw_Z below #[Value.ref b] s) (F0 m pc lsA (st.map (gc G)))
section LAW
variable {G : GG} {b L : Nat} {xs : Nat → Int32} {i pc : Nat} {st : List AV} {h : AH}
theorem L_al1 (hd : decode code pc = .ok (.aload_n 1, 1)) (k : GoL G b L xs i (pc + 1) (vR 0 :: st) h) : GoL G b L xs i pc st h := by
  intro p e s m below meth c H locs lsA C0 hN hK hP hD hS hl
  exact lv_aload_n C0.1 C0.2.1 hd rfl (lv_at hl 1 rfl) (k p e s m below meth c H locs lsA C0 hN hK hP hD hS hl)
theorem L_al2 (hd : decode code pc = .ok (.aload_n 2, 1)) (k : GoL G b L xs i (pc + 1) (vR 34 :: st) h) : GoL G b L xs i pc st h := by
  intro p e s m below meth c H locs lsA C0 hN hK hP hD hS hl
  exact lv_aload_n C0.1 C0.2.1 hd rfl (lv_at hl 2 rfl) (k p e s m below meth c H locs lsA C0 hN hK hP hD hS hl)
theorem L_scr {q : Nat} {z : Int} (hq : q < 5) (hz : z = q) (hi : i + 5 ≤ L) (hL : L ≤ 1000000) (hd : decode code pc = .ok (.aload_n 0, 1)) (hd1 : decode code (pc + 1) = .ok (.iload_n 3, 1)) (hd2 : decode code (pc + 2) = .ok (.iconst z, 1)) (hd3 : decode code (pc + 3) = .ok (.iadd, 1)) (hd4 : decode code (pc + 4) = .ok (.iaload, 1)) (k : GoL G b L xs i (pc + 5) (vI (zs xs (i + q)) :: st) h) : GoL G b L xs i pc st h := by
  intro p e s m below meth c H locs lsA C0 hN hK hP hD hS hl
  subst hz
  have hbA : ¬ gAt s b := Nat.not_le.mpr C0.2.2.2.2.2.2.2.1
  have ex : nI i + Int32.ofInt (q : Int) = nI (i + q) := by
    have : Int32.ofInt (q : Int) = nI q := (iZ_nat q).symm
    rw [this, nI_add]
  refine lv_aload_n C0.1 C0.2.1 hd rfl (lv_at hl 0 rfl) ?_
  refine lv_iload_n C0.1 C0.2.1 hd1 rfl (lv_at hl 3 rfl) ?_
  refine lv_iconst C0.1 C0.2.1 hd2 rfl ?_
  refine lv_iadd C0.1 C0.2.1 hd3 ?_
  rw [ex]
  refine va_sld C0.1 C0.2.1 C0.2.2.2.2.2.2.1 C0.2.2.2.2.2.2.2.1 hbA hS (vp_in_nI (by omega) (by omega)) hd4 ?_
  have k1 := k p e s m below meth c H locs lsA C0 hN hK hP hD hS hl
  rw [nI_clamp (by omega)]
  have e2 : gc G (vI (zs xs (i + q))) = .int (xs (i + q)) := congrArg Value.int (Int32.ofInt_toInt _)
  rw [List.map_cons, e2] at k1
  exact k1
theorem L_scr0 (hi : i + 5 ≤ L) (hL : L ≤ 1000000) (hd : decode code pc = .ok (.aload_n 0, 1)) (hd1 : decode code (pc + 1) = .ok (.iload_n 3, 1)) (hd4 : decode code (pc + 2) = .ok (.iaload, 1)) (k : GoL G b L xs i (pc + 3) (vI (zs xs i) :: st) h) : GoL G b L xs i pc st h := by
  intro p e s m below meth c H locs lsA C0 hN hK hP hD hS hl
  have hbA : ¬ gAt s b := Nat.not_le.mpr C0.2.2.2.2.2.2.2.1
  refine lv_aload_n C0.1 C0.2.1 hd rfl (lv_at hl 0 rfl) ?_
  refine lv_iload_n C0.1 C0.2.1 hd1 rfl (lv_at hl 3 rfl) ?_
  refine va_sld C0.1 C0.2.1 C0.2.2.2.2.2.2.1 C0.2.2.2.2.2.2.2.1 hbA hS (vp_in_nI (by omega) (by omega)) hd4 ?_
  have k1 := k p e s m below meth c H locs lsA C0 hN hK hP hD hS hl
  rw [nI_clamp (by omega)]
  have e2 : gc G (vI (zs xs i)) = .int (xs i) := congrArg Value.int (Int32.ofInt_toInt _)
  rw [List.map_cons, e2] at k1
  exact k1
theorem L_bi {z : Int} (hd : decode code pc = .ok (.bipush z, 2)) (hz : -128 ≤ z ∧ z ≤ 127) (k : GoL G b L xs i (pc + 2) (vI z :: st) h) : GoL G b L xs i pc st h := by
  intro p e s m below meth c H locs lsA C0 hN hK hP hD hS hl
  exact lv_bipush C0.1 C0.2.1 hd (bi8 hz) (k p e s m below meth c H locs lsA C0 hN hK hP hD hS hl)
theorem L_ic {z : Int} (hd : decode code pc = .ok (.iconst z, 1)) (k : GoL G b L xs i (pc + 1) (vI z :: st) h) : GoL G b L xs i pc st h := by
  intro p e s m below meth c H locs lsA C0 hN hK hP hD hS hl
  exact lv_iconst C0.1 C0.2.1 hd rfl (k p e s m below meth c H locs lsA C0 hN hK hP hD hS hl)
theorem L_and {x y : Int} (hd : decode code pc = .ok (.iand, 1)) (k : GoL G b L xs i (pc + 1) (vI (bA x y) :: st) h) : GoL G b L xs i pc (vI y :: vI x :: st) h := by
  intro p e s m below meth c H locs lsA C0 hN hK hP hD hS hl
  exact lv_iand C0.1 C0.2.1 hd (by rw [← iZ_and]; exact k p e s m below meth c H locs lsA C0 hN hK hP hD hS hl)
theorem L_i2l {x : Int} (hd : decode code pc = .ok (.i2l, 1)) (k : GoL G b L xs i (pc + 1) (vL (wI x) :: st) h) : GoL G b L xs i pc (vI x :: st) h := by
  intro p e s m below meth c H locs lsA C0 hN hK hP hD hS hl
  exact lv_i2l C0.1 C0.2.1 hd (iZ_l _) (k p e s m below meth c H locs lsA C0 hN hK hP hD hS hl)
theorem L_shl {x y : Int} (hd : decode code pc = .ok (.lshl, 1)) (k : GoL G b L xs i (pc + 1) (vL (sLL x y) :: st) h) : GoL G b L xs i pc (vI y :: vL x :: st) h := by
  intro p e s m below meth c H locs lsA C0 hN hK hP hD hS hl
  exact lv_lshl C0.1 C0.2.1 hd (lZ_shl x y).symm (k p e s m below meth c H locs lsA C0 hN hK hP hD hS hl)
theorem L_land {x y : Int} (hd : decode code pc = .ok (.land, 1)) (k : GoL G b L xs i (pc + 1) (vL (bAL x y) :: st) h) : GoL G b L xs i pc (vL y :: vL x :: st) h := by
  intro p e s m below meth c H locs lsA C0 hN hK hP hD hS hl
  exact lv_land C0.1 C0.2.1 hd (by rw [← lZ_and]; exact k p e s m below meth c H locs lsA C0 hN hK hP hD hS hl)
theorem L_lor {x y : Int} (hd : decode code pc = .ok (.lor, 1)) (k : GoL G b L xs i (pc + 1) (vL (bOL x y) :: st) h) : GoL G b L xs i pc (vL y :: vL x :: st) h := by
  intro p e s m below meth c H locs lsA C0 hN hK hP hD hS hl
  exact lv_lor C0.1 C0.2.1 hd (by rw [← lZ_or]; exact k p e s m below meth c H locs lsA C0 hN hK hP hD hS hl)
theorem L_ldc2 {ix : Nat} {z : Int} (hd : decode code pc = .ok (.ldc2_w ix, 3)) (hw : Cond.constantLong R_law ix (Int64.ofInt z) ∈ lw_tbl) (k : GoL G b L xs i (pc + 3) (vL z :: st) h) : GoL G b L xs i pc st h := by
  intro p e s m below meth c H locs lsA C0 hN hK hP hD hS hl
  exact lv_ldc2 C0.1 C0.2.1 C0.2.2.2.2.1 (C0.2.2.2.2.2.1 _ hw) hd (k p e s m below meth c H locs lsA C0 hN hK hP hD hS hl)
theorem L_goto {t : Nat} {z : Int} (hd : decode code pc = .ok (.goto z, 3)) (ht : (pc : Int) + z = t) (k : GoL G b L xs i t st h) : GoL G b L xs i pc st h := by
  intro p e s m below meth c H locs lsA C0 hN hK hP hD hS hl
  exact lv_goto C0.1 C0.2.1 hd ht (k p e s m below meth c H locs lsA C0 hN hK hP hD hS hl)
/-- '!= 0' as a value -/
theorem L_ne0 {x : Int} (hd : decode code pc = .ok (.ifCond .eq 7, 3)) (hd1 : decode code (pc + 3) = .ok (.iconst 1, 1)) (hd2 : decode code (pc + 4) = .ok (.goto 4, 3)) (hd3 : decode code (pc + 7) = .ok (.iconst 0, 1)) (k : GoL G b L xs i (pc + 8) (vI (if wI x = 0 then 0 else 1) :: st) h) : GoL G b L xs i pc (vI x :: st) h := by
  intro p e s m below meth c H locs lsA C0 hN hK hP hD hS hl
  have k1 := k p e s m below meth c H locs lsA C0 hN hK hP hD hS hl
  refine lv_if_eq (tgt := pc + 7) C0.1 C0.2.1 hd (by omega) (fun q => ?_) (fun q => ?_)
  · rw [if_pos ((z_eq x).mp q)] at k1
    exact lv_iconst C0.1 C0.2.1 hd3 rfl k1
  · rw [if_neg (fun r => q ((z_eq x).mpr r))] at k1
    refine lv_iconst C0.1 C0.2.1 hd1 rfl ?_
    exact lv_goto (tgt := pc + 8) C0.1 C0.2.1 hd2 (by omega) k1
theorem L_ieq {x y z : Int} {t : Nat} (hd : decode code pc = .ok (.if_icmp .eq z, 3)) (ht : (pc : Int) + z = t) (he : wI x = wI y) (k : GoL G b L xs i t st h) : GoL G b L xs i pc (vI y :: vI x :: st) h := by
  intro p e s m below meth c H locs lsA C0 hN hK hP hD hS hl
  exact lv_icmp_eq C0.1 C0.2.1 hd ht (fun _ => k p e s m below meth c H locs lsA C0 hN hK hP hD hS hl) (fun q => absurd (iZ_inj.mpr he) q)
theorem L_leq {x y z : Int} {t : Nat} (hd0 : decode code pc = .ok (.lcmp, 1)) (hd : decode code (pc + 1) = .ok (.ifCond .eq z, 3)) (ht : ((pc + 1 : Nat) : Int) + z = t) (he : wL x = wL y) (k : GoL G b L xs i t st h) : GoL G b L xs i pc (vL y :: vL x :: st) h := by
  intro p e s m below meth c H locs lsA C0 hN hK hP hD hS hl
  refine W.lcmp C0.1 C0.2.1 hd0 ?_
  exact lv_if_eq C0.1 C0.2.1 hd ht (fun _ => k p e s m below meth c H locs lsA C0 hN hK hP hD hS hl) (fun q => absurd ((lg_cmp_eq _ _).mpr (lZ_inj.mpr he)) q)
theorem callL {post : Option AV → AH → Prop} {p : Program} {e : Env} {R : Room} {s : State} {m : MethodId} {args : Array Value} {below : List Frame} {meth : Method} {cd : Code} {H : Heap} {locs : List Loc} {cells slots : Nat} {lsA : Array Slot} {st0 rest : List Value} {as : Array Value} {Q : State → Prop}
    (hr : va_Run p G.1 e R s m args below meth cd H locs cells slots 0 0 (F0 m pc lsA st0) rest (gQ G post as) (gA G)) (hS : va_S (gAt s) s.heap H locs) (hA : ∀ q, gA G q → gAt s q)
    (kk : ∀ (r : Option AV) (h' : AH) (H1 : Heap) (locs1 : List Loc), post r h' → va_P (gD G) vwCl (gW G h') H1 → va_D (gA G) (gW G h') → va_S (gAt s) s.heap H1 locs1 → W p G.1 e R s m args below meth cd H1 locs1 cells slots Q (F0 m (pc + 3) lsA ((r.toList.map (gc G)) ++ rest))) :
    W p G.1 e R s m args below meth cd H locs cells slots Q (F0 m pc lsA st0) := by
  intro T hT X
  obtain ⟨v, st₀, t, T', L, h0, X', hL, e1, e2, ⟨⟨r, h', hv, hp, hP1, hK1, hD1⟩, hz, hk⟩, st⟩ := hr T hT X
  cases hv
  rw [h0] at hz hk
  obtain ⟨t2, a1, b1⟩ := kk r h' T'.heap (locs ++ L) hp (by rw [e1]; exact hP1) hD1
    ⟨Nat.le_trans hS.1 (by rw [e1]; exact hz), fun q h1 h2 => by rw [e1, hk q (Nat.lt_of_lt_of_le h1 hS.1) (fun z => h2 (hA q z))]; exact hS.2.1 q h1 h2, fun q hq => by
      rcases List.mem_append.mp hq with h | h
      · exact hS.2.2 q h
      · exact hA _ (hL q h)⟩ T' rfl X'
  refine ⟨t2, st t2 ?_, b1⟩
  have e3 : (r.map (gc G)).toList = r.toList.map (gc G) := by cases r <;> rfl
  show Steps p.tables e below (T'.setTop { (F0 m pc lsA st0) with pc := pc + 3, stack := (r.map (gc G)).toList ++ rest }) t2
  rw [e3]
  exact a1
theorem L_call {post : Option AV → AH → Prop} {a n ix o : Nat} {as r : List AV} (hd : decode code pc = .ok (.invokevirtual ix, 3)) (hl : Cond.methodLink R_law ix (mN a) ∈ lw_tbl) (ha : a < 278) (hpd : (parseMethodDescriptor (mN a).desc).map (fun d => d.parameters.length) = some n) (hn : as.length = n)
    (hins : Cond.instanceMethod (mN a) ∈ lw_tbl) (hsel : Cond.selects (mN a).cls (mN a) (mN a) ∈ lw_tbl) (hfr : mF a + 1 ≤ 12) (hlo : 8 + (mL a + 11) + mO a ≤ 468) (hst : st = as.reverse ++ vR o :: r) (hkd : ob_kd o = mK a) (hk13 : mK a + 1 ≤ 13) (hdep : (r.map catN).sum ≤ 8)
    (hr : Runs G a (vR o :: as) h post) (k : ∀ r' h', post r' h' → GoL G b L xs i (pc + 3) (r'.toList ++ r) h') : GoL G b L xs i pc st h := by
  intro p e s m below meth c H locs lsA C0 hN hK hP hD hS hll
  obtain ⟨hx, hb, hrr, hml, hown, hts, -, -, -, -⟩ := id C0
  obtain ⟨t1, t2, t3, t4, t5, t6⟩ := mt_ok ha
  obtain ⟨C, T, N, hc, hC⟩ := cls_at hk13
  have hC : C = (mN a).cls := by rw [hC]; exact t6.symm
  have hA : ∀ q, gA G q → gAt s q := by
    rintro q ⟨o', ho', rfl⟩
    exact hD.2 o' _ (wd_get ho')
  have hDG : va_D (gA G) (gW G h) := ⟨hD.1, fun k q hq => by
    have hk : k < 60 := by
      have := (List.getElem?_eq_some_iff.mp hq).1
      simpa [wd] using this
    rw [wd_get hk] at hq
    cases hq
    exact ⟨k, hk, rfl⟩⟩
  have hGood : GoodIn gtb (wsV R_law ix (mN a).cls (mN a) (mW a :: gtb)) := by
    intro w hw
    have hmem : w ∈ gtb := by
      unfold wsV at hw
      simp only [List.mem_append, List.mem_cons, List.not_mem_nil, or_false] at hw
      rcases hw with (rfl | rfl | rfl | rfl) | rfl | hw
      · exact inG hl rfl
      · exact inG hins rfl
      · exact inG hsel rfl
      · exact inG t2 rfl
      · exact inG t1 rfl
      · exact hw
    exact ⟨hmem, good_of_word (List.mem_filter.mp hmem).2⟩
  have htg : ∀ w ∈ gtb, w.before #[Value.ref b] s = true := fun w hw => hts w (List.mem_filter.mp hw).1
  have hPc := cell_ob (G := G) (h := h) hkd (show mK a < 13 by omega)
  have hrun := va_runV (C := (mN a).cls) (b := G.2.2.2.2 o) (As := as.map (gc G)) (rest := r.map (gc G)) (n := n) (mc := 0) (ms := 0) (cells := 60) (slots := 60202) (locs := locs) (e := e) (below := below) (meth := meth) (H := H) (R := room_1) (g := F0 m pc lsA (st.map (gc G)))
    ⟨hx, hb, hml, hown, htg⟩ hr (cwV n htg hGood rfl rfl rfl ⟨rfl, t4, t5, hpd⟩ ⟨hfr, hlo⟩)
    ⟨blind (as := vR o :: as), by rw [← hC]; exact va_recv hK hP hc hPc, fun U hU hW => ⟨rfl, ⟨by rw [hU]; exact hP, va_K.moved hW.alike hK, hDG⟩, nW_warm hW hN⟩⟩
    rfl (by rw [List.length_map, hn]) hll.1 (by
      show st.map (gc G) = _
      rw [hst, List.map_append, List.map_reverse]
      rfl) (by
      show 2 * 0 + _ ≤ 8
      rw [catN_eq]
      omega) hd ⟨Nat.le_refl _, Nat.le_refl _⟩
  refine callL hrun hS hA (fun r' h' H1 locs1 hp hP hD1 hS => ?_)
  rw [← List.map_append]
  have hD2 : va_D (gAt s) (gW G h') := ⟨hD1.1, fun k q hq => hA _ (hD1.2 k q hq)⟩
  exact k r' h' hp p e s m below meth c H1 locs1 lsA C0 hN hK hP hD2 hS hll
end LAW
/-- what each call of the class does, then the reference's: the answers are alike, and the states agree again -/
def okI (G : GG) (Inv : AH → Prop) (i j : Nat) (as : List AV) (h : AH) : Prop := RunsI G i (vR 0 :: as) h (fun r h1 => RunsI G j (vR 34 :: as) h1 (fun r2 h2 => wI r = wI r2 ∧ Inv h2))
def okL (G : GG) (Inv : AH → Prop) (i j : Nat) (as : List AV) (h : AH) : Prop := RunsL G i (vR 0 :: as) h (fun r h1 => RunsL G j (vR 34 :: as) h1 (fun r2 h2 => wL r = wL r2 ∧ Inv h2))
def okV (G : GG) (Inv : AH → Prop) (i j : Nat) (as : List AV) (h : AH) : Prop := RunsV G i (vR 0 :: as) h (fun h1 => RunsV G j (vR 34 :: as) h1 (fun h2 => Inv h2))
def in32 (z : Int) : Prop := -2147483648 ≤ z ∧ z < 2147483648
def OPS (G : GG) (Inv : AH → Prop) (h : AH) : Prop :=
  (∀ z1 z2 : Int, in32 z1 → in32 z2 → okI G Inv 139 180 [vI z1, vI z2] h)   ∧
  (∀ z1 z2 : Int, in32 z1 → in32 z2 → okI G Inv 140 185 [vI z1, vI z2] h)   ∧
  (∀ z1 z2 z3 : Int, in32 z1 → in32 z2 → in32 z3 → okI G Inv 141 186 [vI z1, vI z2, vI z3] h)   ∧
  (∀ z1 : Int, in32 z1 → okI G Inv 142 187 [vI z1] h)   ∧
  okI G Inv 143 227 [] h   ∧
  (∀ z1 : Int, in32 z1 → okI G Inv 144 189 [vI z1] h)   ∧
  okI G Inv 145 228 [] h   ∧
  okI G Inv 146 229 [] h   ∧
  (∀ z1 z2 : Int, in32 z1 → in32 z2 → okI G Inv 147 230 [vL (bOL (sLL (wI z1) 32) (bAL (wI z2) 4294967295))] h)   ∧
  okI G Inv 148 231 [] h   ∧
  (∀ z1 : Int, in32 z1 → okV G Inv 149 232 [vI z1] h)   ∧
  (∀ z1 : Int, in32 z1 → okI G Inv 150 235 [vI z1] h)   ∧
  (∀ z1 z2 : Int, in32 z1 → in32 z2 → okI G Inv 151 236 [vI z1, vI z2] h)   ∧
  (∀ z1 z2 : Int, in32 z1 → in32 z2 → okI G Inv 152 263 [vI z1, vI (if wI z2 = 0 then 0 else 1)] h)   ∧
  (∀ z1 z2 z3 z4 : Int, in32 z1 → in32 z2 → in32 z3 → in32 z4 → okI G Inv 153 264 [vI z1, vI z2, vI z3, vI z4] h)   ∧
  (∀ z1 z2 : Int, in32 z1 → in32 z2 → okI G Inv 154 266 [vI z1, vI z2] h)   ∧
  (∀ z1 : Int, in32 z1 → okI G Inv 155 267 [vI z1] h)   ∧
  (∀ z1 z2 : Int, in32 z1 → in32 z2 → okI G Inv 156 269 [vI z1, vI z2] h)   ∧
  (∀ z1 z2 : Int, in32 z1 → in32 z2 → okI G Inv 157 270 [vI z1, vI (if wI z2 = 0 then 0 else 1)] h)   ∧
  (∀ z1 z2 : Int, in32 z1 → in32 z2 → okL G Inv 158 271 [vI z1, vI z2] h)   ∧
  (∀ z1 z2 : Int, in32 z1 → in32 z2 → okI G Inv 159 272 [vI z1, vI z2] h)   ∧
  (∀ z1 z2 : Int, in32 z1 → in32 z2 → okI G Inv 160 273 [vI z1, vI z2] h)   ∧
  (∀ z1 z2 : Int, in32 z1 → in32 z2 → okI G Inv 161 274 [vI z1, vI z2] h)   ∧
  (∀ z1 : Int, in32 z1 → okI G Inv 162 276 [vI z1] h)  
theorem zs_in (xs : Nat → Int32) (j : Nat) : in32 (zs xs j) := ⟨Int32.le_toInt _, Int32.toInt_lt _⟩
section LAW2
variable {G : GG} {b L : Nat} {xs : Nat → Int32} {i : Nat} {h : AH} {Inv : AH → Prop}
set_option maxRecDepth 100000 in
theorem lc_format (hi : i + 5 ≤ L) (hL : L ≤ 1000000) (hop : okI G Inv 139 180 [vI (zs xs (i + 1)), vI (zs xs (i + 2))] h) (k : ∀ h', Inv h' → GoL G b L xs i 877 [] h') : GoL G b L xs i 144 [] h := by
  refine L_al1 (show decode code 144 = .ok (.aload_n 1, 1) by decide +kernel) ?_
  refine L_scr (q := 1) (by decide) rfl hi hL (show decode code 145 = .ok (.aload_n 0, 1) by decide +kernel) (show decode code 146 = .ok (.iload_n 3, 1) by decide +kernel) (show decode code 147 = .ok (.iconst 1, 1) by decide +kernel) (show decode code 148 = .ok (.iadd, 1) by decide +kernel) (show decode code 149 = .ok (.iaload, 1) by decide +kernel) ?_
  refine L_scr (q := 2) (by decide) rfl hi hL (show decode code 150 = .ok (.aload_n 0, 1) by decide +kernel) (show decode code 151 = .ok (.iload_n 3, 1) by decide +kernel) (show decode code 152 = .ok (.iconst 2, 1) by decide +kernel) (show decode code 153 = .ok (.iadd, 1) by decide +kernel) (show decode code 154 = .ok (.iaload, 1) by decide +kernel) ?_
  refine L_call (a := 139) (n := 2) (o := 0) (as := [vI (zs xs (i + 1)), vI (zs xs (i + 2))]) (r := []) (show decode code 155 = .ok (.invokevirtual 13, 3) by decide +kernel) (tb2 _ (List.mem_of_getElem? (i := 106) rfl)) (by decide) rfl rfl (tb2 _ (List.mem_of_getElem? (i := 107) rfl)) (tb2 _ (List.mem_of_getElem? (i := 108) rfl)) (by decide) (by decide) rfl rfl (by decide) (Nat.le_of_ble_eq_true rfl) hop (fun r' h' hp => ?_)
  unfold pI at hp
  split at hp
  case h_2 => exact hp.elim
  rename_i x1
  refine L_al2 (show decode code 158 = .ok (.aload_n 2, 1) by decide +kernel) ?_
  refine L_scr (q := 1) (by decide) rfl hi hL (show decode code 159 = .ok (.aload_n 0, 1) by decide +kernel) (show decode code 160 = .ok (.iload_n 3, 1) by decide +kernel) (show decode code 161 = .ok (.iconst 1, 1) by decide +kernel) (show decode code 162 = .ok (.iadd, 1) by decide +kernel) (show decode code 163 = .ok (.iaload, 1) by decide +kernel) ?_
  refine L_scr (q := 2) (by decide) rfl hi hL (show decode code 164 = .ok (.aload_n 0, 1) by decide +kernel) (show decode code 165 = .ok (.iload_n 3, 1) by decide +kernel) (show decode code 166 = .ok (.iconst 2, 1) by decide +kernel) (show decode code 167 = .ok (.iadd, 1) by decide +kernel) (show decode code 168 = .ok (.iaload, 1) by decide +kernel) ?_
  refine L_call (a := 180) (n := 2) (o := 34) (as := [vI (zs xs (i + 1)), vI (zs xs (i + 2))]) (r := [vI x1]) (show decode code 169 = .ok (.invokevirtual 17, 3) by decide +kernel) (tb6 _ (List.mem_of_getElem? (i := 69) rfl)) (by decide) rfl rfl (tb6 _ (List.mem_of_getElem? (i := 70) rfl)) (tb6 _ (List.mem_of_getElem? (i := 71) rfl)) (by decide) (by decide) rfl rfl (by decide) (Nat.le_of_ble_eq_true rfl) hp (fun r' h' hp => ?_)
  unfold pI at hp
  split at hp
  case h_2 => exact hp.elim
  rename_i x2
  exact L_ieq (t := 877) (show decode code 172 = .ok (.if_icmp .eq 705, 3) by decide +kernel) (by decide) hp.1 (k _ hp.2)
set_option maxRecDepth 100000 in
theorem lc_octet (hi : i + 5 ≤ L) (hL : L ≤ 1000000) (hop : okI G Inv 140 185 [vI (zs xs (i + 1)), vI (zs xs (i + 2))] h) (k : ∀ h', Inv h' → GoL G b L xs i 877 [] h') : GoL G b L xs i 177 [] h := by
  refine L_al1 (show decode code 177 = .ok (.aload_n 1, 1) by decide +kernel) ?_
  refine L_scr (q := 1) (by decide) rfl hi hL (show decode code 178 = .ok (.aload_n 0, 1) by decide +kernel) (show decode code 179 = .ok (.iload_n 3, 1) by decide +kernel) (show decode code 180 = .ok (.iconst 1, 1) by decide +kernel) (show decode code 181 = .ok (.iadd, 1) by decide +kernel) (show decode code 182 = .ok (.iaload, 1) by decide +kernel) ?_
  refine L_scr (q := 2) (by decide) rfl hi hL (show decode code 183 = .ok (.aload_n 0, 1) by decide +kernel) (show decode code 184 = .ok (.iload_n 3, 1) by decide +kernel) (show decode code 185 = .ok (.iconst 2, 1) by decide +kernel) (show decode code 186 = .ok (.iadd, 1) by decide +kernel) (show decode code 187 = .ok (.iaload, 1) by decide +kernel) ?_
  refine L_call (a := 140) (n := 2) (o := 0) (as := [vI (zs xs (i + 1)), vI (zs xs (i + 2))]) (r := []) (show decode code 188 = .ok (.invokevirtual 18, 3) by decide +kernel) (tb2 _ (List.mem_of_getElem? (i := 178) rfl)) (by decide) rfl rfl (tb2 _ (List.mem_of_getElem? (i := 179) rfl)) (tb2 _ (List.mem_of_getElem? (i := 180) rfl)) (by decide) (by decide) rfl rfl (by decide) (Nat.le_of_ble_eq_true rfl) hop (fun r' h' hp => ?_)
  unfold pI at hp
  split at hp
  case h_2 => exact hp.elim
  rename_i x1
  refine L_al2 (show decode code 191 = .ok (.aload_n 2, 1) by decide +kernel) ?_
  refine L_scr (q := 1) (by decide) rfl hi hL (show decode code 192 = .ok (.aload_n 0, 1) by decide +kernel) (show decode code 193 = .ok (.iload_n 3, 1) by decide +kernel) (show decode code 194 = .ok (.iconst 1, 1) by decide +kernel) (show decode code 195 = .ok (.iadd, 1) by decide +kernel) (show decode code 196 = .ok (.iaload, 1) by decide +kernel) ?_
  refine L_scr (q := 2) (by decide) rfl hi hL (show decode code 197 = .ok (.aload_n 0, 1) by decide +kernel) (show decode code 198 = .ok (.iload_n 3, 1) by decide +kernel) (show decode code 199 = .ok (.iconst 2, 1) by decide +kernel) (show decode code 200 = .ok (.iadd, 1) by decide +kernel) (show decode code 201 = .ok (.iaload, 1) by decide +kernel) ?_
  refine L_call (a := 185) (n := 2) (o := 34) (as := [vI (zs xs (i + 1)), vI (zs xs (i + 2))]) (r := [vI x1]) (show decode code 202 = .ok (.invokevirtual 21, 3) by decide +kernel) (tb6 _ (List.mem_of_getElem? (i := 116) rfl)) (by decide) rfl rfl (tb6 _ (List.mem_of_getElem? (i := 117) rfl)) (tb6 _ (List.mem_of_getElem? (i := 118) rfl)) (by decide) (by decide) rfl rfl (by decide) (Nat.le_of_ble_eq_true rfl) hp (fun r' h' hp => ?_)
  unfold pI at hp
  split at hp
  case h_2 => exact hp.elim
  rename_i x2
  exact L_ieq (t := 877) (show decode code 205 = .ok (.if_icmp .eq 672, 3) by decide +kernel) (by decide) hp.1 (k _ hp.2)
set_option maxRecDepth 100000 in
theorem lc_spoil (hi : i + 5 ≤ L) (hL : L ≤ 1000000) (hop : okI G Inv 141 186 [vI (zs xs (i + 1)), vI (zs xs (i + 2)), vI (zs xs (i + 3))] h) (k : ∀ h', Inv h' → GoL G b L xs i 877 [] h') : GoL G b L xs i 210 [] h := by
  refine L_al1 (show decode code 210 = .ok (.aload_n 1, 1) by decide +kernel) ?_
  refine L_scr (q := 1) (by decide) rfl hi hL (show decode code 211 = .ok (.aload_n 0, 1) by decide +kernel) (show decode code 212 = .ok (.iload_n 3, 1) by decide +kernel) (show decode code 213 = .ok (.iconst 1, 1) by decide +kernel) (show decode code 214 = .ok (.iadd, 1) by decide +kernel) (show decode code 215 = .ok (.iaload, 1) by decide +kernel) ?_
  refine L_scr (q := 2) (by decide) rfl hi hL (show decode code 216 = .ok (.aload_n 0, 1) by decide +kernel) (show decode code 217 = .ok (.iload_n 3, 1) by decide +kernel) (show decode code 218 = .ok (.iconst 2, 1) by decide +kernel) (show decode code 219 = .ok (.iadd, 1) by decide +kernel) (show decode code 220 = .ok (.iaload, 1) by decide +kernel) ?_
  refine L_scr (q := 3) (by decide) rfl hi hL (show decode code 221 = .ok (.aload_n 0, 1) by decide +kernel) (show decode code 222 = .ok (.iload_n 3, 1) by decide +kernel) (show decode code 223 = .ok (.iconst 3, 1) by decide +kernel) (show decode code 224 = .ok (.iadd, 1) by decide +kernel) (show decode code 225 = .ok (.iaload, 1) by decide +kernel) ?_
  refine L_call (a := 141) (n := 3) (o := 0) (as := [vI (zs xs (i + 1)), vI (zs xs (i + 2)), vI (zs xs (i + 3))]) (r := []) (show decode code 226 = .ok (.invokevirtual 22, 3) by decide +kernel) (tb2 _ (List.mem_of_getElem? (i := 186) rfl)) (by decide) rfl rfl (tb2 _ (List.mem_of_getElem? (i := 187) rfl)) (tb2 _ (List.mem_of_getElem? (i := 188) rfl)) (by decide) (by decide) rfl rfl (by decide) (Nat.le_of_ble_eq_true rfl) hop (fun r' h' hp => ?_)
  unfold pI at hp
  split at hp
  case h_2 => exact hp.elim
  rename_i x1
  refine L_al2 (show decode code 229 = .ok (.aload_n 2, 1) by decide +kernel) ?_
  refine L_scr (q := 1) (by decide) rfl hi hL (show decode code 230 = .ok (.aload_n 0, 1) by decide +kernel) (show decode code 231 = .ok (.iload_n 3, 1) by decide +kernel) (show decode code 232 = .ok (.iconst 1, 1) by decide +kernel) (show decode code 233 = .ok (.iadd, 1) by decide +kernel) (show decode code 234 = .ok (.iaload, 1) by decide +kernel) ?_
  refine L_scr (q := 2) (by decide) rfl hi hL (show decode code 235 = .ok (.aload_n 0, 1) by decide +kernel) (show decode code 236 = .ok (.iload_n 3, 1) by decide +kernel) (show decode code 237 = .ok (.iconst 2, 1) by decide +kernel) (show decode code 238 = .ok (.iadd, 1) by decide +kernel) (show decode code 239 = .ok (.iaload, 1) by decide +kernel) ?_
  refine L_scr (q := 3) (by decide) rfl hi hL (show decode code 240 = .ok (.aload_n 0, 1) by decide +kernel) (show decode code 241 = .ok (.iload_n 3, 1) by decide +kernel) (show decode code 242 = .ok (.iconst 3, 1) by decide +kernel) (show decode code 243 = .ok (.iadd, 1) by decide +kernel) (show decode code 244 = .ok (.iaload, 1) by decide +kernel) ?_
  refine L_call (a := 186) (n := 3) (o := 34) (as := [vI (zs xs (i + 1)), vI (zs xs (i + 2)), vI (zs xs (i + 3))]) (r := [vI x1]) (show decode code 245 = .ok (.invokevirtual 26, 3) by decide +kernel) (tb6 _ (List.mem_of_getElem? (i := 122) rfl)) (by decide) rfl rfl (tb6 _ (List.mem_of_getElem? (i := 123) rfl)) (tb6 _ (List.mem_of_getElem? (i := 124) rfl)) (by decide) (by decide) rfl rfl (by decide) (Nat.le_of_ble_eq_true rfl) hp (fun r' h' hp => ?_)
  unfold pI at hp
  split at hp
  case h_2 => exact hp.elim
  rename_i x2
  exact L_ieq (t := 877) (show decode code 248 = .ok (.if_icmp .eq 629, 3) by decide +kernel) (by decide) hp.1 (k _ hp.2)
set_option maxRecDepth 100000 in
theorem lc_fail (hi : i + 5 ≤ L) (hL : L ≤ 1000000) (hop : okI G Inv 142 187 [vI (zs xs (i + 1))] h) (k : ∀ h', Inv h' → GoL G b L xs i 877 [] h') : GoL G b L xs i 253 [] h := by
  refine L_al1 (show decode code 253 = .ok (.aload_n 1, 1) by decide +kernel) ?_
  refine L_scr (q := 1) (by decide) rfl hi hL (show decode code 254 = .ok (.aload_n 0, 1) by decide +kernel) (show decode code 255 = .ok (.iload_n 3, 1) by decide +kernel) (show decode code 256 = .ok (.iconst 1, 1) by decide +kernel) (show decode code 257 = .ok (.iadd, 1) by decide +kernel) (show decode code 258 = .ok (.iaload, 1) by decide +kernel) ?_
  refine L_call (a := 142) (n := 1) (o := 0) (as := [vI (zs xs (i + 1))]) (r := []) (show decode code 259 = .ok (.invokevirtual 27, 3) by decide +kernel) (tb2 _ (List.mem_of_getElem? (i := 190) rfl)) (by decide) rfl rfl (tb2 _ (List.mem_of_getElem? (i := 191) rfl)) (tb2 _ (List.mem_of_getElem? (i := 192) rfl)) (by decide) (by decide) rfl rfl (by decide) (Nat.le_of_ble_eq_true rfl) hop (fun r' h' hp => ?_)
  unfold pI at hp
  split at hp
  case h_2 => exact hp.elim
  rename_i x1
  refine L_al2 (show decode code 262 = .ok (.aload_n 2, 1) by decide +kernel) ?_
  refine L_scr (q := 1) (by decide) rfl hi hL (show decode code 263 = .ok (.aload_n 0, 1) by decide +kernel) (show decode code 264 = .ok (.iload_n 3, 1) by decide +kernel) (show decode code 265 = .ok (.iconst 1, 1) by decide +kernel) (show decode code 266 = .ok (.iadd, 1) by decide +kernel) (show decode code 267 = .ok (.iaload, 1) by decide +kernel) ?_
  refine L_call (a := 187) (n := 1) (o := 34) (as := [vI (zs xs (i + 1))]) (r := [vI x1]) (show decode code 268 = .ok (.invokevirtual 31, 3) by decide +kernel) (tb6 _ (List.mem_of_getElem? (i := 127) rfl)) (by decide) rfl rfl (tb6 _ (List.mem_of_getElem? (i := 128) rfl)) (tb6 _ (List.mem_of_getElem? (i := 129) rfl)) (by decide) (by decide) rfl rfl (by decide) (Nat.le_of_ble_eq_true rfl) hp (fun r' h' hp => ?_)
  unfold pI at hp
  split at hp
  case h_2 => exact hp.elim
  rename_i x2
  exact L_ieq (t := 877) (show decode code 271 = .ok (.if_icmp .eq 606, 3) by decide +kernel) (by decide) hp.1 (k _ hp.2)
set_option maxRecDepth 100000 in
theorem lc_mount (hi : i + 5 ≤ L) (hL : L ≤ 1000000) (hop : okI G Inv 143 227 [] h) (k : ∀ h', Inv h' → GoL G b L xs i 877 [] h') : GoL G b L xs i 276 [] h := by
  refine L_al1 (show decode code 276 = .ok (.aload_n 1, 1) by decide +kernel) ?_
  refine L_call (a := 143) (n := 0) (o := 0) (as := []) (r := []) (show decode code 277 = .ok (.invokevirtual 32, 3) by decide +kernel) (tb2 _ (List.mem_of_getElem? (i := 194) rfl)) (by decide) rfl rfl (tb2 _ (List.mem_of_getElem? (i := 195) rfl)) (tb2 _ (List.mem_of_getElem? (i := 196) rfl)) (by decide) (by decide) rfl rfl (by decide) (Nat.le_of_ble_eq_true rfl) hop (fun r' h' hp => ?_)
  unfold pI at hp
  split at hp
  case h_2 => exact hp.elim
  rename_i x1
  refine L_al2 (show decode code 280 = .ok (.aload_n 2, 1) by decide +kernel) ?_
  refine L_call (a := 227) (n := 0) (o := 34) (as := []) (r := [vI x1]) (show decode code 281 = .ok (.invokevirtual 36, 3) by decide +kernel) (tb6 _ (List.mem_of_getElem? (i := 136) rfl)) (by decide) rfl rfl (tb6 _ (List.mem_of_getElem? (i := 137) rfl)) (tb6 _ (List.mem_of_getElem? (i := 138) rfl)) (by decide) (by decide) rfl rfl (by decide) (Nat.le_of_ble_eq_true rfl) hp (fun r' h' hp => ?_)
  unfold pI at hp
  split at hp
  case h_2 => exact hp.elim
  rename_i x2
  exact L_ieq (t := 877) (show decode code 284 = .ok (.if_icmp .eq 593, 3) by decide +kernel) (by decide) hp.1 (k _ hp.2)
set_option maxRecDepth 100000 in
theorem lc_fault (hi : i + 5 ≤ L) (hL : L ≤ 1000000) (hop : okI G Inv 144 189 [vI (zs xs (i + 1))] h) (k : ∀ h', Inv h' → GoL G b L xs i 877 [] h') : GoL G b L xs i 289 [] h := by
  refine L_al1 (show decode code 289 = .ok (.aload_n 1, 1) by decide +kernel) ?_
  refine L_scr (q := 1) (by decide) rfl hi hL (show decode code 290 = .ok (.aload_n 0, 1) by decide +kernel) (show decode code 291 = .ok (.iload_n 3, 1) by decide +kernel) (show decode code 292 = .ok (.iconst 1, 1) by decide +kernel) (show decode code 293 = .ok (.iadd, 1) by decide +kernel) (show decode code 294 = .ok (.iaload, 1) by decide +kernel) ?_
  refine L_call (a := 144) (n := 1) (o := 0) (as := [vI (zs xs (i + 1))]) (r := []) (show decode code 295 = .ok (.invokevirtual 37, 3) by decide +kernel) (tb4 _ (List.mem_of_getElem? (i := 15) rfl)) (by decide) rfl rfl (tb4 _ (List.mem_of_getElem? (i := 16) rfl)) (tb4 _ (List.mem_of_getElem? (i := 17) rfl)) (by decide) (by decide) rfl rfl (by decide) (Nat.le_of_ble_eq_true rfl) hop (fun r' h' hp => ?_)
  unfold pI at hp
  split at hp
  case h_2 => exact hp.elim
  rename_i x1
  refine L_al2 (show decode code 298 = .ok (.aload_n 2, 1) by decide +kernel) ?_
  refine L_scr (q := 1) (by decide) rfl hi hL (show decode code 299 = .ok (.aload_n 0, 1) by decide +kernel) (show decode code 300 = .ok (.iload_n 3, 1) by decide +kernel) (show decode code 301 = .ok (.iconst 1, 1) by decide +kernel) (show decode code 302 = .ok (.iadd, 1) by decide +kernel) (show decode code 303 = .ok (.iaload, 1) by decide +kernel) ?_
  refine L_call (a := 189) (n := 1) (o := 34) (as := [vI (zs xs (i + 1))]) (r := [vI x1]) (show decode code 304 = .ok (.invokevirtual 40, 3) by decide +kernel) (tb6 _ (List.mem_of_getElem? (i := 132) rfl)) (by decide) rfl rfl (tb6 _ (List.mem_of_getElem? (i := 133) rfl)) (tb6 _ (List.mem_of_getElem? (i := 134) rfl)) (by decide) (by decide) rfl rfl (by decide) (Nat.le_of_ble_eq_true rfl) hp (fun r' h' hp => ?_)
  unfold pI at hp
  split at hp
  case h_2 => exact hp.elim
  rename_i x2
  exact L_ieq (t := 877) (show decode code 307 = .ok (.if_icmp .eq 570, 3) by decide +kernel) (by decide) hp.1 (k _ hp.2)
set_option maxRecDepth 100000 in
theorem lc_unmount (hi : i + 5 ≤ L) (hL : L ≤ 1000000) (hop : okI G Inv 145 228 [] h) (k : ∀ h', Inv h' → GoL G b L xs i 877 [] h') : GoL G b L xs i 312 [] h := by
  refine L_al1 (show decode code 312 = .ok (.aload_n 1, 1) by decide +kernel) ?_
  refine L_call (a := 145) (n := 0) (o := 0) (as := []) (r := []) (show decode code 313 = .ok (.invokevirtual 41, 3) by decide +kernel) (tb4 _ (List.mem_of_getElem? (i := 19) rfl)) (by decide) rfl rfl (tb4 _ (List.mem_of_getElem? (i := 20) rfl)) (tb4 _ (List.mem_of_getElem? (i := 21) rfl)) (by decide) (by decide) rfl rfl (by decide) (Nat.le_of_ble_eq_true rfl) hop (fun r' h' hp => ?_)
  unfold pI at hp
  split at hp
  case h_2 => exact hp.elim
  rename_i x1
  refine L_al2 (show decode code 316 = .ok (.aload_n 2, 1) by decide +kernel) ?_
  refine L_call (a := 228) (n := 0) (o := 34) (as := []) (r := [vI x1]) (show decode code 317 = .ok (.invokevirtual 44, 3) by decide +kernel) (tb7 _ (List.mem_of_getElem? (i := 58) rfl)) (by decide) rfl rfl (tb7 _ (List.mem_of_getElem? (i := 59) rfl)) (tb7 _ (List.mem_of_getElem? (i := 60) rfl)) (by decide) (by decide) rfl rfl (by decide) (Nat.le_of_ble_eq_true rfl) hp (fun r' h' hp => ?_)
  unfold pI at hp
  split at hp
  case h_2 => exact hp.elim
  rename_i x2
  exact L_ieq (t := 877) (show decode code 320 = .ok (.if_icmp .eq 557, 3) by decide +kernel) (by decide) hp.1 (k _ hp.2)
set_option maxRecDepth 100000 in
theorem lc_mend (hi : i + 5 ≤ L) (hL : L ≤ 1000000) (hop : okI G Inv 146 229 [] h) (k : ∀ h', Inv h' → GoL G b L xs i 877 [] h') : GoL G b L xs i 325 [] h := by
  refine L_al1 (show decode code 325 = .ok (.aload_n 1, 1) by decide +kernel) ?_
  refine L_call (a := 146) (n := 0) (o := 0) (as := []) (r := []) (show decode code 326 = .ok (.invokevirtual 45, 3) by decide +kernel) (tb4 _ (List.mem_of_getElem? (i := 54) rfl)) (by decide) rfl rfl (tb4 _ (List.mem_of_getElem? (i := 55) rfl)) (tb4 _ (List.mem_of_getElem? (i := 56) rfl)) (by decide) (by decide) rfl rfl (by decide) (Nat.le_of_ble_eq_true rfl) hop (fun r' h' hp => ?_)
  unfold pI at hp
  split at hp
  case h_2 => exact hp.elim
  rename_i x1
  refine L_al2 (show decode code 329 = .ok (.aload_n 2, 1) by decide +kernel) ?_
  refine L_call (a := 229) (n := 0) (o := 34) (as := []) (r := [vI x1]) (show decode code 330 = .ok (.invokevirtual 48, 3) by decide +kernel) (tb7 _ (List.mem_of_getElem? (i := 78) rfl)) (by decide) rfl rfl (tb7 _ (List.mem_of_getElem? (i := 79) rfl)) (tb7 _ (List.mem_of_getElem? (i := 80) rfl)) (by decide) (by decide) rfl rfl (by decide) (Nat.le_of_ble_eq_true rfl) hp (fun r' h' hp => ?_)
  unfold pI at hp
  split at hp
  case h_2 => exact hp.elim
  rename_i x2
  exact L_ieq (t := 877) (show decode code 333 = .ok (.if_icmp .eq 544, 3) by decide +kernel) (by decide) hp.1 (k _ hp.2)
set_option maxRecDepth 100000 in
theorem lc_letters (hi : i + 5 ≤ L) (hL : L ≤ 1000000) (hop : okI G Inv 147 230 [vL (bOL (sLL (wI (zs xs (i + 1))) 32) (bAL (wI (zs xs (i + 2))) 4294967295))] h) (k : ∀ h', Inv h' → GoL G b L xs i 877 [] h') : GoL G b L xs i 338 [] h := by
  refine L_al1 (show decode code 338 = .ok (.aload_n 1, 1) by decide +kernel) ?_
  refine L_scr (q := 1) (by decide) rfl hi hL (show decode code 339 = .ok (.aload_n 0, 1) by decide +kernel) (show decode code 340 = .ok (.iload_n 3, 1) by decide +kernel) (show decode code 341 = .ok (.iconst 1, 1) by decide +kernel) (show decode code 342 = .ok (.iadd, 1) by decide +kernel) (show decode code 343 = .ok (.iaload, 1) by decide +kernel) ?_
  refine L_i2l (show decode code 344 = .ok (.i2l, 1) by decide +kernel) ?_
  refine L_bi (show decode code 345 = .ok (.bipush 32, 2) by decide +kernel) (by decide) ?_
  refine L_shl (show decode code 347 = .ok (.lshl, 1) by decide +kernel) ?_
  refine L_scr (q := 2) (by decide) rfl hi hL (show decode code 348 = .ok (.aload_n 0, 1) by decide +kernel) (show decode code 349 = .ok (.iload_n 3, 1) by decide +kernel) (show decode code 350 = .ok (.iconst 2, 1) by decide +kernel) (show decode code 351 = .ok (.iadd, 1) by decide +kernel) (show decode code 352 = .ok (.iaload, 1) by decide +kernel) ?_
  refine L_i2l (show decode code 353 = .ok (.i2l, 1) by decide +kernel) ?_
  refine L_ldc2 (z := 4294967295) (show decode code 354 = .ok (.ldc2_w 49, 3) by decide +kernel) (tb8 _ (List.mem_of_getElem? (i := 58) rfl)) ?_
  refine L_land (show decode code 357 = .ok (.land, 1) by decide +kernel) ?_
  refine L_lor (show decode code 358 = .ok (.lor, 1) by decide +kernel) ?_
  refine L_call (a := 147) (n := 1) (o := 0) (as := [vL (bOL (sLL (wI (zs xs (i + 1))) 32) (bAL (wI (zs xs (i + 2))) 4294967295))]) (r := []) (show decode code 359 = .ok (.invokevirtual 51, 3) by decide +kernel) (tb4 _ (List.mem_of_getElem? (i := 72) rfl)) (by decide) rfl rfl (tb4 _ (List.mem_of_getElem? (i := 73) rfl)) (tb4 _ (List.mem_of_getElem? (i := 74) rfl)) (by decide) (by decide) rfl rfl (by decide) (Nat.le_of_ble_eq_true rfl) hop (fun r' h' hp => ?_)
  unfold pI at hp
  split at hp
  case h_2 => exact hp.elim
  rename_i x1
  refine L_al2 (show decode code 362 = .ok (.aload_n 2, 1) by decide +kernel) ?_
  refine L_scr (q := 1) (by decide) rfl hi hL (show decode code 363 = .ok (.aload_n 0, 1) by decide +kernel) (show decode code 364 = .ok (.iload_n 3, 1) by decide +kernel) (show decode code 365 = .ok (.iconst 1, 1) by decide +kernel) (show decode code 366 = .ok (.iadd, 1) by decide +kernel) (show decode code 367 = .ok (.iaload, 1) by decide +kernel) ?_
  refine L_i2l (show decode code 368 = .ok (.i2l, 1) by decide +kernel) ?_
  refine L_bi (show decode code 369 = .ok (.bipush 32, 2) by decide +kernel) (by decide) ?_
  refine L_shl (show decode code 371 = .ok (.lshl, 1) by decide +kernel) ?_
  refine L_scr (q := 2) (by decide) rfl hi hL (show decode code 372 = .ok (.aload_n 0, 1) by decide +kernel) (show decode code 373 = .ok (.iload_n 3, 1) by decide +kernel) (show decode code 374 = .ok (.iconst 2, 1) by decide +kernel) (show decode code 375 = .ok (.iadd, 1) by decide +kernel) (show decode code 376 = .ok (.iaload, 1) by decide +kernel) ?_
  refine L_i2l (show decode code 377 = .ok (.i2l, 1) by decide +kernel) ?_
  refine L_ldc2 (z := 4294967295) (show decode code 378 = .ok (.ldc2_w 49, 3) by decide +kernel) (tb8 _ (List.mem_of_getElem? (i := 58) rfl)) ?_
  refine L_land (show decode code 381 = .ok (.land, 1) by decide +kernel) ?_
  refine L_lor (show decode code 382 = .ok (.lor, 1) by decide +kernel) ?_
  refine L_call (a := 230) (n := 1) (o := 34) (as := [vL (bOL (sLL (wI (zs xs (i + 1))) 32) (bAL (wI (zs xs (i + 2))) 4294967295))]) (r := [vI x1]) (show decode code 383 = .ok (.invokevirtual 55, 3) by decide +kernel) (tb7 _ (List.mem_of_getElem? (i := 82) rfl)) (by decide) rfl rfl (tb7 _ (List.mem_of_getElem? (i := 83) rfl)) (tb7 _ (List.mem_of_getElem? (i := 84) rfl)) (by decide) (by decide) rfl rfl (by decide) (Nat.le_of_ble_eq_true rfl) hp (fun r' h' hp => ?_)
  unfold pI at hp
  split at hp
  case h_2 => exact hp.elim
  rename_i x2
  exact L_ieq (t := 877) (show decode code 386 = .ok (.if_icmp .eq 491, 3) by decide +kernel) (by decide) hp.1 (k _ hp.2)
set_option maxRecDepth 100000 in
theorem lc_clear (hi : i + 5 ≤ L) (hL : L ≤ 1000000) (hop : okI G Inv 148 231 [] h) (k : ∀ h', Inv h' → GoL G b L xs i 877 [] h') : GoL G b L xs i 391 [] h := by
  refine L_al1 (show decode code 391 = .ok (.aload_n 1, 1) by decide +kernel) ?_
  refine L_call (a := 148) (n := 0) (o := 0) (as := []) (r := []) (show decode code 392 = .ok (.invokevirtual 56, 3) by decide +kernel) (tb4 _ (List.mem_of_getElem? (i := 85) rfl)) (by decide) rfl rfl (tb4 _ (List.mem_of_getElem? (i := 86) rfl)) (tb4 _ (List.mem_of_getElem? (i := 87) rfl)) (by decide) (by decide) rfl rfl (by decide) (Nat.le_of_ble_eq_true rfl) hop (fun r' h' hp => ?_)
  unfold pI at hp
  split at hp
  case h_2 => exact hp.elim
  rename_i x1
  refine L_al2 (show decode code 395 = .ok (.aload_n 2, 1) by decide +kernel) ?_
  refine L_call (a := 231) (n := 0) (o := 34) (as := []) (r := [vI x1]) (show decode code 396 = .ok (.invokevirtual 59, 3) by decide +kernel) (tb7 _ (List.mem_of_getElem? (i := 86) rfl)) (by decide) rfl rfl (tb7 _ (List.mem_of_getElem? (i := 87) rfl)) (tb7 _ (List.mem_of_getElem? (i := 88) rfl)) (by decide) (by decide) rfl rfl (by decide) (Nat.le_of_ble_eq_true rfl) hp (fun r' h' hp => ?_)
  unfold pI at hp
  split at hp
  case h_2 => exact hp.elim
  rename_i x2
  exact L_ieq (t := 877) (show decode code 399 = .ok (.if_icmp .eq 478, 3) by decide +kernel) (by decide) hp.1 (k _ hp.2)
set_option maxRecDepth 100000 in
theorem lc_clock (hi : i + 5 ≤ L) (hL : L ≤ 1000000) (hop : okV G Inv 149 232 [vI (zs xs (i + 1))] h) (k : ∀ h', Inv h' → GoL G b L xs i 877 [] h') : GoL G b L xs i 404 [] h := by
  refine L_al1 (show decode code 404 = .ok (.aload_n 1, 1) by decide +kernel) ?_
  refine L_scr (q := 1) (by decide) rfl hi hL (show decode code 405 = .ok (.aload_n 0, 1) by decide +kernel) (show decode code 406 = .ok (.iload_n 3, 1) by decide +kernel) (show decode code 407 = .ok (.iconst 1, 1) by decide +kernel) (show decode code 408 = .ok (.iadd, 1) by decide +kernel) (show decode code 409 = .ok (.iaload, 1) by decide +kernel) ?_
  refine L_call (a := 149) (n := 1) (o := 0) (as := [vI (zs xs (i + 1))]) (r := []) (show decode code 410 = .ok (.invokevirtual 60, 3) by decide +kernel) (tb4 _ (List.mem_of_getElem? (i := 89) rfl)) (by decide) rfl rfl (tb4 _ (List.mem_of_getElem? (i := 90) rfl)) (tb4 _ (List.mem_of_getElem? (i := 91) rfl)) (by decide) (by decide) rfl rfl (by decide) (Nat.le_of_ble_eq_true rfl) hop (fun r' h' hp => ?_)
  unfold pV at hp
  split at hp
  case h_2 => exact hp.elim
  refine L_al2 (show decode code 413 = .ok (.aload_n 2, 1) by decide +kernel) ?_
  refine L_scr (q := 1) (by decide) rfl hi hL (show decode code 414 = .ok (.aload_n 0, 1) by decide +kernel) (show decode code 415 = .ok (.iload_n 3, 1) by decide +kernel) (show decode code 416 = .ok (.iconst 1, 1) by decide +kernel) (show decode code 417 = .ok (.iadd, 1) by decide +kernel) (show decode code 418 = .ok (.iaload, 1) by decide +kernel) ?_
  refine L_call (a := 232) (n := 1) (o := 34) (as := [vI (zs xs (i + 1))]) (r := []) (show decode code 419 = .ok (.invokevirtual 64, 3) by decide +kernel) (tb7 _ (List.mem_of_getElem? (i := 90) rfl)) (by decide) rfl rfl (tb7 _ (List.mem_of_getElem? (i := 91) rfl)) (tb7 _ (List.mem_of_getElem? (i := 92) rfl)) (by decide) (by decide) rfl rfl (by decide) (Nat.le_of_ble_eq_true rfl) hp (fun r' h' hp => ?_)
  unfold pV at hp
  split at hp
  case h_2 => exact hp.elim
  exact L_goto (t := 877) (show decode code 422 = .ok (.goto 455, 3) by decide +kernel) (by decide) (k _ hp)
set_option maxRecDepth 100000 in
theorem lc_look (hi : i + 5 ≤ L) (hL : L ≤ 1000000) (hop : okI G Inv 150 235 [vI (zs xs (i + 1))] h) (k : ∀ h', Inv h' → GoL G b L xs i 877 [] h') : GoL G b L xs i 425 [] h := by
  refine L_al1 (show decode code 425 = .ok (.aload_n 1, 1) by decide +kernel) ?_
  refine L_scr (q := 1) (by decide) rfl hi hL (show decode code 426 = .ok (.aload_n 0, 1) by decide +kernel) (show decode code 427 = .ok (.iload_n 3, 1) by decide +kernel) (show decode code 428 = .ok (.iconst 1, 1) by decide +kernel) (show decode code 429 = .ok (.iadd, 1) by decide +kernel) (show decode code 430 = .ok (.iaload, 1) by decide +kernel) ?_
  refine L_call (a := 150) (n := 1) (o := 0) (as := [vI (zs xs (i + 1))]) (r := []) (show decode code 431 = .ok (.invokevirtual 65, 3) by decide +kernel) (tb4 _ (List.mem_of_getElem? (i := 93) rfl)) (by decide) rfl rfl (tb4 _ (List.mem_of_getElem? (i := 94) rfl)) (tb4 _ (List.mem_of_getElem? (i := 95) rfl)) (by decide) (by decide) rfl rfl (by decide) (Nat.le_of_ble_eq_true rfl) hop (fun r' h' hp => ?_)
  unfold pI at hp
  split at hp
  case h_2 => exact hp.elim
  rename_i x1
  refine L_al2 (show decode code 434 = .ok (.aload_n 2, 1) by decide +kernel) ?_
  refine L_scr (q := 1) (by decide) rfl hi hL (show decode code 435 = .ok (.aload_n 0, 1) by decide +kernel) (show decode code 436 = .ok (.iload_n 3, 1) by decide +kernel) (show decode code 437 = .ok (.iconst 1, 1) by decide +kernel) (show decode code 438 = .ok (.iadd, 1) by decide +kernel) (show decode code 439 = .ok (.iaload, 1) by decide +kernel) ?_
  refine L_call (a := 235) (n := 1) (o := 34) (as := [vI (zs xs (i + 1))]) (r := [vI x1]) (show decode code 440 = .ok (.invokevirtual 68, 3) by decide +kernel) (tb7 _ (List.mem_of_getElem? (i := 94) rfl)) (by decide) rfl rfl (tb7 _ (List.mem_of_getElem? (i := 95) rfl)) (tb7 _ (List.mem_of_getElem? (i := 96) rfl)) (by decide) (by decide) rfl rfl (by decide) (Nat.le_of_ble_eq_true rfl) hp (fun r' h' hp => ?_)
  unfold pI at hp
  split at hp
  case h_2 => exact hp.elim
  rename_i x2
  exact L_ieq (t := 877) (show decode code 443 = .ok (.if_icmp .eq 434, 3) by decide +kernel) (by decide) hp.1 (k _ hp.2)
set_option maxRecDepth 100000 in
theorem lc_list (hi : i + 5 ≤ L) (hL : L ≤ 1000000) (hop : okI G Inv 151 236 [vI (zs xs (i + 1)), vI (zs xs (i + 2))] h) (k : ∀ h', Inv h' → GoL G b L xs i 877 [] h') : GoL G b L xs i 448 [] h := by
  refine L_al1 (show decode code 448 = .ok (.aload_n 1, 1) by decide +kernel) ?_
  refine L_scr (q := 1) (by decide) rfl hi hL (show decode code 449 = .ok (.aload_n 0, 1) by decide +kernel) (show decode code 450 = .ok (.iload_n 3, 1) by decide +kernel) (show decode code 451 = .ok (.iconst 1, 1) by decide +kernel) (show decode code 452 = .ok (.iadd, 1) by decide +kernel) (show decode code 453 = .ok (.iaload, 1) by decide +kernel) ?_
  refine L_scr (q := 2) (by decide) rfl hi hL (show decode code 454 = .ok (.aload_n 0, 1) by decide +kernel) (show decode code 455 = .ok (.iload_n 3, 1) by decide +kernel) (show decode code 456 = .ok (.iconst 2, 1) by decide +kernel) (show decode code 457 = .ok (.iadd, 1) by decide +kernel) (show decode code 458 = .ok (.iaload, 1) by decide +kernel) ?_
  refine L_call (a := 151) (n := 2) (o := 0) (as := [vI (zs xs (i + 1)), vI (zs xs (i + 2))]) (r := []) (show decode code 459 = .ok (.invokevirtual 69, 3) by decide +kernel) (tb4 _ (List.mem_of_getElem? (i := 119) rfl)) (by decide) rfl rfl (tb4 _ (List.mem_of_getElem? (i := 120) rfl)) (tb4 _ (List.mem_of_getElem? (i := 121) rfl)) (by decide) (by decide) rfl rfl (by decide) (Nat.le_of_ble_eq_true rfl) hop (fun r' h' hp => ?_)
  unfold pI at hp
  split at hp
  case h_2 => exact hp.elim
  rename_i x1
  refine L_al2 (show decode code 462 = .ok (.aload_n 2, 1) by decide +kernel) ?_
  refine L_scr (q := 1) (by decide) rfl hi hL (show decode code 463 = .ok (.aload_n 0, 1) by decide +kernel) (show decode code 464 = .ok (.iload_n 3, 1) by decide +kernel) (show decode code 465 = .ok (.iconst 1, 1) by decide +kernel) (show decode code 466 = .ok (.iadd, 1) by decide +kernel) (show decode code 467 = .ok (.iaload, 1) by decide +kernel) ?_
  refine L_scr (q := 2) (by decide) rfl hi hL (show decode code 468 = .ok (.aload_n 0, 1) by decide +kernel) (show decode code 469 = .ok (.iload_n 3, 1) by decide +kernel) (show decode code 470 = .ok (.iconst 2, 1) by decide +kernel) (show decode code 471 = .ok (.iadd, 1) by decide +kernel) (show decode code 472 = .ok (.iaload, 1) by decide +kernel) ?_
  refine L_call (a := 236) (n := 2) (o := 34) (as := [vI (zs xs (i + 1)), vI (zs xs (i + 2))]) (r := [vI x1]) (show decode code 473 = .ok (.invokevirtual 72, 3) by decide +kernel) (tb7 _ (List.mem_of_getElem? (i := 118) rfl)) (by decide) rfl rfl (tb7 _ (List.mem_of_getElem? (i := 119) rfl)) (tb7 _ (List.mem_of_getElem? (i := 120) rfl)) (by decide) (by decide) rfl rfl (by decide) (Nat.le_of_ble_eq_true rfl) hp (fun r' h' hp => ?_)
  unfold pI at hp
  split at hp
  case h_2 => exact hp.elim
  rename_i x2
  exact L_ieq (t := 877) (show decode code 476 = .ok (.if_icmp .eq 401, 3) by decide +kernel) (by decide) hp.1 (k _ hp.2)
set_option maxRecDepth 100000 in
theorem lc_make (hi : i + 5 ≤ L) (hL : L ≤ 1000000) (hop : okI G Inv 152 263 [vI (zs xs (i + 1)), vI (if wI (zs xs (i + 2)) = 0 then 0 else 1)] h) (k : ∀ h', Inv h' → GoL G b L xs i 877 [] h') : GoL G b L xs i 481 [] h := by
  refine L_al1 (show decode code 481 = .ok (.aload_n 1, 1) by decide +kernel) ?_
  refine L_scr (q := 1) (by decide) rfl hi hL (show decode code 482 = .ok (.aload_n 0, 1) by decide +kernel) (show decode code 483 = .ok (.iload_n 3, 1) by decide +kernel) (show decode code 484 = .ok (.iconst 1, 1) by decide +kernel) (show decode code 485 = .ok (.iadd, 1) by decide +kernel) (show decode code 486 = .ok (.iaload, 1) by decide +kernel) ?_
  refine L_scr (q := 2) (by decide) rfl hi hL (show decode code 487 = .ok (.aload_n 0, 1) by decide +kernel) (show decode code 488 = .ok (.iload_n 3, 1) by decide +kernel) (show decode code 489 = .ok (.iconst 2, 1) by decide +kernel) (show decode code 490 = .ok (.iadd, 1) by decide +kernel) (show decode code 491 = .ok (.iaload, 1) by decide +kernel) ?_
  refine L_ne0 (show decode code 492 = .ok (.ifCond .eq 7, 3) by decide +kernel) (show decode code 495 = .ok (.iconst 1, 1) by decide +kernel) (show decode code 496 = .ok (.goto 4, 3) by decide +kernel) (show decode code 499 = .ok (.iconst 0, 1) by decide +kernel) ?_
  refine L_call (a := 152) (n := 2) (o := 0) (as := [vI (zs xs (i + 1)), vI (if wI (zs xs (i + 2)) = 0 then 0 else 1)]) (r := []) (show decode code 500 = .ok (.invokevirtual 73, 3) by decide +kernel) (tb4 _ (List.mem_of_getElem? (i := 127) rfl)) (by decide) rfl rfl (tb4 _ (List.mem_of_getElem? (i := 128) rfl)) (tb4 _ (List.mem_of_getElem? (i := 129) rfl)) (by decide) (by decide) rfl rfl (by decide) (Nat.le_of_ble_eq_true rfl) hop (fun r' h' hp => ?_)
  unfold pI at hp
  split at hp
  case h_2 => exact hp.elim
  rename_i x1
  refine L_al2 (show decode code 503 = .ok (.aload_n 2, 1) by decide +kernel) ?_
  refine L_scr (q := 1) (by decide) rfl hi hL (show decode code 504 = .ok (.aload_n 0, 1) by decide +kernel) (show decode code 505 = .ok (.iload_n 3, 1) by decide +kernel) (show decode code 506 = .ok (.iconst 1, 1) by decide +kernel) (show decode code 507 = .ok (.iadd, 1) by decide +kernel) (show decode code 508 = .ok (.iaload, 1) by decide +kernel) ?_
  refine L_scr (q := 2) (by decide) rfl hi hL (show decode code 509 = .ok (.aload_n 0, 1) by decide +kernel) (show decode code 510 = .ok (.iload_n 3, 1) by decide +kernel) (show decode code 511 = .ok (.iconst 2, 1) by decide +kernel) (show decode code 512 = .ok (.iadd, 1) by decide +kernel) (show decode code 513 = .ok (.iaload, 1) by decide +kernel) ?_
  refine L_ne0 (show decode code 514 = .ok (.ifCond .eq 7, 3) by decide +kernel) (show decode code 517 = .ok (.iconst 1, 1) by decide +kernel) (show decode code 518 = .ok (.goto 4, 3) by decide +kernel) (show decode code 521 = .ok (.iconst 0, 1) by decide +kernel) ?_
  refine L_call (a := 263) (n := 2) (o := 34) (as := [vI (zs xs (i + 1)), vI (if wI (zs xs (i + 2)) = 0 then 0 else 1)]) (r := [vI x1]) (show decode code 522 = .ok (.invokevirtual 77, 3) by decide +kernel) (tb7 _ (List.mem_of_getElem? (i := 122) rfl)) (by decide) rfl rfl (tb7 _ (List.mem_of_getElem? (i := 123) rfl)) (tb7 _ (List.mem_of_getElem? (i := 124) rfl)) (by decide) (by decide) rfl rfl (by decide) (Nat.le_of_ble_eq_true rfl) hp (fun r' h' hp => ?_)
  unfold pI at hp
  split at hp
  case h_2 => exact hp.elim
  rename_i x2
  exact L_ieq (t := 877) (show decode code 525 = .ok (.if_icmp .eq 352, 3) by decide +kernel) (by decide) hp.1 (k _ hp.2)
set_option maxRecDepth 100000 in
theorem lc_write (hi : i + 5 ≤ L) (hL : L ≤ 1000000) (hop : okI G Inv 153 264 [vI (zs xs (i + 1)), vI (zs xs (i + 2)), vI (zs xs (i + 3)), vI (zs xs (i + 4))] h) (k : ∀ h', Inv h' → GoL G b L xs i 877 [] h') : GoL G b L xs i 530 [] h := by
  refine L_al1 (show decode code 530 = .ok (.aload_n 1, 1) by decide +kernel) ?_
  refine L_scr (q := 1) (by decide) rfl hi hL (show decode code 531 = .ok (.aload_n 0, 1) by decide +kernel) (show decode code 532 = .ok (.iload_n 3, 1) by decide +kernel) (show decode code 533 = .ok (.iconst 1, 1) by decide +kernel) (show decode code 534 = .ok (.iadd, 1) by decide +kernel) (show decode code 535 = .ok (.iaload, 1) by decide +kernel) ?_
  refine L_scr (q := 2) (by decide) rfl hi hL (show decode code 536 = .ok (.aload_n 0, 1) by decide +kernel) (show decode code 537 = .ok (.iload_n 3, 1) by decide +kernel) (show decode code 538 = .ok (.iconst 2, 1) by decide +kernel) (show decode code 539 = .ok (.iadd, 1) by decide +kernel) (show decode code 540 = .ok (.iaload, 1) by decide +kernel) ?_
  refine L_scr (q := 3) (by decide) rfl hi hL (show decode code 541 = .ok (.aload_n 0, 1) by decide +kernel) (show decode code 542 = .ok (.iload_n 3, 1) by decide +kernel) (show decode code 543 = .ok (.iconst 3, 1) by decide +kernel) (show decode code 544 = .ok (.iadd, 1) by decide +kernel) (show decode code 545 = .ok (.iaload, 1) by decide +kernel) ?_
  refine L_scr (q := 4) (by decide) rfl hi hL (show decode code 546 = .ok (.aload_n 0, 1) by decide +kernel) (show decode code 547 = .ok (.iload_n 3, 1) by decide +kernel) (show decode code 548 = .ok (.iconst 4, 1) by decide +kernel) (show decode code 549 = .ok (.iadd, 1) by decide +kernel) (show decode code 550 = .ok (.iaload, 1) by decide +kernel) ?_
  refine L_call (a := 153) (n := 4) (o := 0) (as := [vI (zs xs (i + 1)), vI (zs xs (i + 2)), vI (zs xs (i + 3)), vI (zs xs (i + 4))]) (r := []) (show decode code 551 = .ok (.invokevirtual 78, 3) by decide +kernel) (tb5 _ (List.mem_of_getElem? (i := 21) rfl)) (by decide) rfl rfl (tb5 _ (List.mem_of_getElem? (i := 22) rfl)) (tb5 _ (List.mem_of_getElem? (i := 23) rfl)) (by decide) (by decide) rfl rfl (by decide) (Nat.le_of_ble_eq_true rfl) hop (fun r' h' hp => ?_)
  unfold pI at hp
  split at hp
  case h_2 => exact hp.elim
  rename_i x1
  refine L_al2 (show decode code 554 = .ok (.aload_n 2, 1) by decide +kernel) ?_
  refine L_scr (q := 1) (by decide) rfl hi hL (show decode code 555 = .ok (.aload_n 0, 1) by decide +kernel) (show decode code 556 = .ok (.iload_n 3, 1) by decide +kernel) (show decode code 557 = .ok (.iconst 1, 1) by decide +kernel) (show decode code 558 = .ok (.iadd, 1) by decide +kernel) (show decode code 559 = .ok (.iaload, 1) by decide +kernel) ?_
  refine L_scr (q := 2) (by decide) rfl hi hL (show decode code 560 = .ok (.aload_n 0, 1) by decide +kernel) (show decode code 561 = .ok (.iload_n 3, 1) by decide +kernel) (show decode code 562 = .ok (.iconst 2, 1) by decide +kernel) (show decode code 563 = .ok (.iadd, 1) by decide +kernel) (show decode code 564 = .ok (.iaload, 1) by decide +kernel) ?_
  refine L_scr (q := 3) (by decide) rfl hi hL (show decode code 565 = .ok (.aload_n 0, 1) by decide +kernel) (show decode code 566 = .ok (.iload_n 3, 1) by decide +kernel) (show decode code 567 = .ok (.iconst 3, 1) by decide +kernel) (show decode code 568 = .ok (.iadd, 1) by decide +kernel) (show decode code 569 = .ok (.iaload, 1) by decide +kernel) ?_
  refine L_scr (q := 4) (by decide) rfl hi hL (show decode code 570 = .ok (.aload_n 0, 1) by decide +kernel) (show decode code 571 = .ok (.iload_n 3, 1) by decide +kernel) (show decode code 572 = .ok (.iconst 4, 1) by decide +kernel) (show decode code 573 = .ok (.iadd, 1) by decide +kernel) (show decode code 574 = .ok (.iaload, 1) by decide +kernel) ?_
  refine L_call (a := 264) (n := 4) (o := 34) (as := [vI (zs xs (i + 1)), vI (zs xs (i + 2)), vI (zs xs (i + 3)), vI (zs xs (i + 4))]) (r := [vI x1]) (show decode code 575 = .ok (.invokevirtual 82, 3) by decide +kernel) (tb7 _ (List.mem_of_getElem? (i := 233) rfl)) (by decide) rfl rfl (tb7 _ (List.mem_of_getElem? (i := 234) rfl)) (tb7 _ (List.mem_of_getElem? (i := 235) rfl)) (by decide) (by decide) rfl rfl (by decide) (Nat.le_of_ble_eq_true rfl) hp (fun r' h' hp => ?_)
  unfold pI at hp
  split at hp
  case h_2 => exact hp.elim
  rename_i x2
  exact L_ieq (t := 877) (show decode code 578 = .ok (.if_icmp .eq 299, 3) by decide +kernel) (by decide) hp.1 (k _ hp.2)
set_option maxRecDepth 100000 in
theorem lc_cut (hi : i + 5 ≤ L) (hL : L ≤ 1000000) (hop : okI G Inv 154 266 [vI (zs xs (i + 1)), vI (zs xs (i + 2))] h) (k : ∀ h', Inv h' → GoL G b L xs i 877 [] h') : GoL G b L xs i 583 [] h := by
  refine L_al1 (show decode code 583 = .ok (.aload_n 1, 1) by decide +kernel) ?_
  refine L_scr (q := 1) (by decide) rfl hi hL (show decode code 584 = .ok (.aload_n 0, 1) by decide +kernel) (show decode code 585 = .ok (.iload_n 3, 1) by decide +kernel) (show decode code 586 = .ok (.iconst 1, 1) by decide +kernel) (show decode code 587 = .ok (.iadd, 1) by decide +kernel) (show decode code 588 = .ok (.iaload, 1) by decide +kernel) ?_
  refine L_scr (q := 2) (by decide) rfl hi hL (show decode code 589 = .ok (.aload_n 0, 1) by decide +kernel) (show decode code 590 = .ok (.iload_n 3, 1) by decide +kernel) (show decode code 591 = .ok (.iconst 2, 1) by decide +kernel) (show decode code 592 = .ok (.iadd, 1) by decide +kernel) (show decode code 593 = .ok (.iaload, 1) by decide +kernel) ?_
  refine L_call (a := 154) (n := 2) (o := 0) (as := [vI (zs xs (i + 1)), vI (zs xs (i + 2))]) (r := []) (show decode code 594 = .ok (.invokevirtual 83, 3) by decide +kernel) (tb5 _ (List.mem_of_getElem? (i := 46) rfl)) (by decide) rfl rfl (tb5 _ (List.mem_of_getElem? (i := 47) rfl)) (tb5 _ (List.mem_of_getElem? (i := 48) rfl)) (by decide) (by decide) rfl rfl (by decide) (Nat.le_of_ble_eq_true rfl) hop (fun r' h' hp => ?_)
  unfold pI at hp
  split at hp
  case h_2 => exact hp.elim
  rename_i x1
  refine L_al2 (show decode code 597 = .ok (.aload_n 2, 1) by decide +kernel) ?_
  refine L_scr (q := 1) (by decide) rfl hi hL (show decode code 598 = .ok (.aload_n 0, 1) by decide +kernel) (show decode code 599 = .ok (.iload_n 3, 1) by decide +kernel) (show decode code 600 = .ok (.iconst 1, 1) by decide +kernel) (show decode code 601 = .ok (.iadd, 1) by decide +kernel) (show decode code 602 = .ok (.iaload, 1) by decide +kernel) ?_
  refine L_scr (q := 2) (by decide) rfl hi hL (show decode code 603 = .ok (.aload_n 0, 1) by decide +kernel) (show decode code 604 = .ok (.iload_n 3, 1) by decide +kernel) (show decode code 605 = .ok (.iconst 2, 1) by decide +kernel) (show decode code 606 = .ok (.iadd, 1) by decide +kernel) (show decode code 607 = .ok (.iaload, 1) by decide +kernel) ?_
  refine L_call (a := 266) (n := 2) (o := 34) (as := [vI (zs xs (i + 1)), vI (zs xs (i + 2))]) (r := [vI x1]) (show decode code 608 = .ok (.invokevirtual 86, 3) by decide +kernel) (tb8 _ (List.mem_of_getElem? (i := 5) rfl)) (by decide) rfl rfl (tb8 _ (List.mem_of_getElem? (i := 6) rfl)) (tb8 _ (List.mem_of_getElem? (i := 7) rfl)) (by decide) (by decide) rfl rfl (by decide) (Nat.le_of_ble_eq_true rfl) hp (fun r' h' hp => ?_)
  unfold pI at hp
  split at hp
  case h_2 => exact hp.elim
  rename_i x2
  exact L_ieq (t := 877) (show decode code 611 = .ok (.if_icmp .eq 266, 3) by decide +kernel) (by decide) hp.1 (k _ hp.2)
set_option maxRecDepth 100000 in
theorem lc_drop (hi : i + 5 ≤ L) (hL : L ≤ 1000000) (hop : okI G Inv 155 267 [vI (zs xs (i + 1))] h) (k : ∀ h', Inv h' → GoL G b L xs i 877 [] h') : GoL G b L xs i 616 [] h := by
  refine L_al1 (show decode code 616 = .ok (.aload_n 1, 1) by decide +kernel) ?_
  refine L_scr (q := 1) (by decide) rfl hi hL (show decode code 617 = .ok (.aload_n 0, 1) by decide +kernel) (show decode code 618 = .ok (.iload_n 3, 1) by decide +kernel) (show decode code 619 = .ok (.iconst 1, 1) by decide +kernel) (show decode code 620 = .ok (.iadd, 1) by decide +kernel) (show decode code 621 = .ok (.iaload, 1) by decide +kernel) ?_
  refine L_call (a := 155) (n := 1) (o := 0) (as := [vI (zs xs (i + 1))]) (r := []) (show decode code 622 = .ok (.invokevirtual 87, 3) by decide +kernel) (tb5 _ (List.mem_of_getElem? (i := 58) rfl)) (by decide) rfl rfl (tb5 _ (List.mem_of_getElem? (i := 59) rfl)) (tb5 _ (List.mem_of_getElem? (i := 60) rfl)) (by decide) (by decide) rfl rfl (by decide) (Nat.le_of_ble_eq_true rfl) hop (fun r' h' hp => ?_)
  unfold pI at hp
  split at hp
  case h_2 => exact hp.elim
  rename_i x1
  refine L_al2 (show decode code 625 = .ok (.aload_n 2, 1) by decide +kernel) ?_
  refine L_scr (q := 1) (by decide) rfl hi hL (show decode code 626 = .ok (.aload_n 0, 1) by decide +kernel) (show decode code 627 = .ok (.iload_n 3, 1) by decide +kernel) (show decode code 628 = .ok (.iconst 1, 1) by decide +kernel) (show decode code 629 = .ok (.iadd, 1) by decide +kernel) (show decode code 630 = .ok (.iaload, 1) by decide +kernel) ?_
  refine L_call (a := 267) (n := 1) (o := 34) (as := [vI (zs xs (i + 1))]) (r := [vI x1]) (show decode code 631 = .ok (.invokevirtual 90, 3) by decide +kernel) (tb8 _ (List.mem_of_getElem? (i := 13) rfl)) (by decide) rfl rfl (tb8 _ (List.mem_of_getElem? (i := 14) rfl)) (tb8 _ (List.mem_of_getElem? (i := 15) rfl)) (by decide) (by decide) rfl rfl (by decide) (Nat.le_of_ble_eq_true rfl) hp (fun r' h' hp => ?_)
  unfold pI at hp
  split at hp
  case h_2 => exact hp.elim
  rename_i x2
  exact L_ieq (t := 877) (show decode code 634 = .ok (.if_icmp .eq 243, 3) by decide +kernel) (by decide) hp.1 (k _ hp.2)
set_option maxRecDepth 100000 in
theorem lc_move (hi : i + 5 ≤ L) (hL : L ≤ 1000000) (hop : okI G Inv 156 269 [vI (zs xs (i + 1)), vI (zs xs (i + 2))] h) (k : ∀ h', Inv h' → GoL G b L xs i 877 [] h') : GoL G b L xs i 639 [] h := by
  refine L_al1 (show decode code 639 = .ok (.aload_n 1, 1) by decide +kernel) ?_
  refine L_scr (q := 1) (by decide) rfl hi hL (show decode code 640 = .ok (.aload_n 0, 1) by decide +kernel) (show decode code 641 = .ok (.iload_n 3, 1) by decide +kernel) (show decode code 642 = .ok (.iconst 1, 1) by decide +kernel) (show decode code 643 = .ok (.iadd, 1) by decide +kernel) (show decode code 644 = .ok (.iaload, 1) by decide +kernel) ?_
  refine L_scr (q := 2) (by decide) rfl hi hL (show decode code 645 = .ok (.aload_n 0, 1) by decide +kernel) (show decode code 646 = .ok (.iload_n 3, 1) by decide +kernel) (show decode code 647 = .ok (.iconst 2, 1) by decide +kernel) (show decode code 648 = .ok (.iadd, 1) by decide +kernel) (show decode code 649 = .ok (.iaload, 1) by decide +kernel) ?_
  refine L_call (a := 156) (n := 2) (o := 0) (as := [vI (zs xs (i + 1)), vI (zs xs (i + 2))]) (r := []) (show decode code 650 = .ok (.invokevirtual 91, 3) by decide +kernel) (tb5 _ (List.mem_of_getElem? (i := 70) rfl)) (by decide) rfl rfl (tb5 _ (List.mem_of_getElem? (i := 71) rfl)) (tb5 _ (List.mem_of_getElem? (i := 72) rfl)) (by decide) (by decide) rfl rfl (by decide) (Nat.le_of_ble_eq_true rfl) hop (fun r' h' hp => ?_)
  unfold pI at hp
  split at hp
  case h_2 => exact hp.elim
  rename_i x1
  refine L_al2 (show decode code 653 = .ok (.aload_n 2, 1) by decide +kernel) ?_
  refine L_scr (q := 1) (by decide) rfl hi hL (show decode code 654 = .ok (.aload_n 0, 1) by decide +kernel) (show decode code 655 = .ok (.iload_n 3, 1) by decide +kernel) (show decode code 656 = .ok (.iconst 1, 1) by decide +kernel) (show decode code 657 = .ok (.iadd, 1) by decide +kernel) (show decode code 658 = .ok (.iaload, 1) by decide +kernel) ?_
  refine L_scr (q := 2) (by decide) rfl hi hL (show decode code 659 = .ok (.aload_n 0, 1) by decide +kernel) (show decode code 660 = .ok (.iload_n 3, 1) by decide +kernel) (show decode code 661 = .ok (.iconst 2, 1) by decide +kernel) (show decode code 662 = .ok (.iadd, 1) by decide +kernel) (show decode code 663 = .ok (.iaload, 1) by decide +kernel) ?_
  refine L_call (a := 269) (n := 2) (o := 34) (as := [vI (zs xs (i + 1)), vI (zs xs (i + 2))]) (r := [vI x1]) (show decode code 664 = .ok (.invokevirtual 94, 3) by decide +kernel) (tb8 _ (List.mem_of_getElem? (i := 21) rfl)) (by decide) rfl rfl (tb8 _ (List.mem_of_getElem? (i := 22) rfl)) (tb8 _ (List.mem_of_getElem? (i := 23) rfl)) (by decide) (by decide) rfl rfl (by decide) (Nat.le_of_ble_eq_true rfl) hp (fun r' h' hp => ?_)
  unfold pI at hp
  split at hp
  case h_2 => exact hp.elim
  rename_i x2
  exact L_ieq (t := 877) (show decode code 667 = .ok (.if_icmp .eq 210, 3) by decide +kernel) (by decide) hp.1 (k _ hp.2)
set_option maxRecDepth 100000 in
theorem lc_bar (hi : i + 5 ≤ L) (hL : L ≤ 1000000) (hop : okI G Inv 157 270 [vI (zs xs (i + 1)), vI (if wI (zs xs (i + 2)) = 0 then 0 else 1)] h) (k : ∀ h', Inv h' → GoL G b L xs i 877 [] h') : GoL G b L xs i 672 [] h := by
  refine L_al1 (show decode code 672 = .ok (.aload_n 1, 1) by decide +kernel) ?_
  refine L_scr (q := 1) (by decide) rfl hi hL (show decode code 673 = .ok (.aload_n 0, 1) by decide +kernel) (show decode code 674 = .ok (.iload_n 3, 1) by decide +kernel) (show decode code 675 = .ok (.iconst 1, 1) by decide +kernel) (show decode code 676 = .ok (.iadd, 1) by decide +kernel) (show decode code 677 = .ok (.iaload, 1) by decide +kernel) ?_
  refine L_scr (q := 2) (by decide) rfl hi hL (show decode code 678 = .ok (.aload_n 0, 1) by decide +kernel) (show decode code 679 = .ok (.iload_n 3, 1) by decide +kernel) (show decode code 680 = .ok (.iconst 2, 1) by decide +kernel) (show decode code 681 = .ok (.iadd, 1) by decide +kernel) (show decode code 682 = .ok (.iaload, 1) by decide +kernel) ?_
  refine L_ne0 (show decode code 683 = .ok (.ifCond .eq 7, 3) by decide +kernel) (show decode code 686 = .ok (.iconst 1, 1) by decide +kernel) (show decode code 687 = .ok (.goto 4, 3) by decide +kernel) (show decode code 690 = .ok (.iconst 0, 1) by decide +kernel) ?_
  refine L_call (a := 157) (n := 2) (o := 0) (as := [vI (zs xs (i + 1)), vI (if wI (zs xs (i + 2)) = 0 then 0 else 1)]) (r := []) (show decode code 691 = .ok (.invokevirtual 95, 3) by decide +kernel) (tb5 _ (List.mem_of_getElem? (i := 91) rfl)) (by decide) rfl rfl (tb5 _ (List.mem_of_getElem? (i := 92) rfl)) (tb5 _ (List.mem_of_getElem? (i := 93) rfl)) (by decide) (by decide) rfl rfl (by decide) (Nat.le_of_ble_eq_true rfl) hop (fun r' h' hp => ?_)
  unfold pI at hp
  split at hp
  case h_2 => exact hp.elim
  rename_i x1
  refine L_al2 (show decode code 694 = .ok (.aload_n 2, 1) by decide +kernel) ?_
  refine L_scr (q := 1) (by decide) rfl hi hL (show decode code 695 = .ok (.aload_n 0, 1) by decide +kernel) (show decode code 696 = .ok (.iload_n 3, 1) by decide +kernel) (show decode code 697 = .ok (.iconst 1, 1) by decide +kernel) (show decode code 698 = .ok (.iadd, 1) by decide +kernel) (show decode code 699 = .ok (.iaload, 1) by decide +kernel) ?_
  refine L_scr (q := 2) (by decide) rfl hi hL (show decode code 700 = .ok (.aload_n 0, 1) by decide +kernel) (show decode code 701 = .ok (.iload_n 3, 1) by decide +kernel) (show decode code 702 = .ok (.iconst 2, 1) by decide +kernel) (show decode code 703 = .ok (.iadd, 1) by decide +kernel) (show decode code 704 = .ok (.iaload, 1) by decide +kernel) ?_
  refine L_ne0 (show decode code 705 = .ok (.ifCond .eq 7, 3) by decide +kernel) (show decode code 708 = .ok (.iconst 1, 1) by decide +kernel) (show decode code 709 = .ok (.goto 4, 3) by decide +kernel) (show decode code 712 = .ok (.iconst 0, 1) by decide +kernel) ?_
  refine L_call (a := 270) (n := 2) (o := 34) (as := [vI (zs xs (i + 1)), vI (if wI (zs xs (i + 2)) = 0 then 0 else 1)]) (r := [vI x1]) (show decode code 713 = .ok (.invokevirtual 98, 3) by decide +kernel) (tb8 _ (List.mem_of_getElem? (i := 29) rfl)) (by decide) rfl rfl (tb8 _ (List.mem_of_getElem? (i := 30) rfl)) (tb8 _ (List.mem_of_getElem? (i := 31) rfl)) (by decide) (by decide) rfl rfl (by decide) (Nat.le_of_ble_eq_true rfl) hp (fun r' h' hp => ?_)
  unfold pI at hp
  split at hp
  case h_2 => exact hp.elim
  rename_i x2
  exact L_ieq (t := 877) (show decode code 716 = .ok (.if_icmp .eq 161, 3) by decide +kernel) (by decide) hp.1 (k _ hp.2)
set_option maxRecDepth 100000 in
theorem lc_read (hi : i + 5 ≤ L) (hL : L ≤ 1000000) (hop : okL G Inv 158 271 [vI (zs xs (i + 1)), vI (zs xs (i + 2))] h) (k : ∀ h', Inv h' → GoL G b L xs i 877 [] h') : GoL G b L xs i 721 [] h := by
  refine L_al1 (show decode code 721 = .ok (.aload_n 1, 1) by decide +kernel) ?_
  refine L_scr (q := 1) (by decide) rfl hi hL (show decode code 722 = .ok (.aload_n 0, 1) by decide +kernel) (show decode code 723 = .ok (.iload_n 3, 1) by decide +kernel) (show decode code 724 = .ok (.iconst 1, 1) by decide +kernel) (show decode code 725 = .ok (.iadd, 1) by decide +kernel) (show decode code 726 = .ok (.iaload, 1) by decide +kernel) ?_
  refine L_scr (q := 2) (by decide) rfl hi hL (show decode code 727 = .ok (.aload_n 0, 1) by decide +kernel) (show decode code 728 = .ok (.iload_n 3, 1) by decide +kernel) (show decode code 729 = .ok (.iconst 2, 1) by decide +kernel) (show decode code 730 = .ok (.iadd, 1) by decide +kernel) (show decode code 731 = .ok (.iaload, 1) by decide +kernel) ?_
  refine L_call (a := 158) (n := 2) (o := 0) (as := [vI (zs xs (i + 1)), vI (zs xs (i + 2))]) (r := []) (show decode code 732 = .ok (.invokevirtual 99, 3) by decide +kernel) (tb5 _ (List.mem_of_getElem? (i := 100) rfl)) (by decide) rfl rfl (tb5 _ (List.mem_of_getElem? (i := 101) rfl)) (tb5 _ (List.mem_of_getElem? (i := 102) rfl)) (by decide) (by decide) rfl rfl (by decide) (Nat.le_of_ble_eq_true rfl) hop (fun r' h' hp => ?_)
  unfold pL at hp
  split at hp
  case h_2 => exact hp.elim
  rename_i x1
  refine L_al2 (show decode code 735 = .ok (.aload_n 2, 1) by decide +kernel) ?_
  refine L_scr (q := 1) (by decide) rfl hi hL (show decode code 736 = .ok (.aload_n 0, 1) by decide +kernel) (show decode code 737 = .ok (.iload_n 3, 1) by decide +kernel) (show decode code 738 = .ok (.iconst 1, 1) by decide +kernel) (show decode code 739 = .ok (.iadd, 1) by decide +kernel) (show decode code 740 = .ok (.iaload, 1) by decide +kernel) ?_
  refine L_scr (q := 2) (by decide) rfl hi hL (show decode code 741 = .ok (.aload_n 0, 1) by decide +kernel) (show decode code 742 = .ok (.iload_n 3, 1) by decide +kernel) (show decode code 743 = .ok (.iconst 2, 1) by decide +kernel) (show decode code 744 = .ok (.iadd, 1) by decide +kernel) (show decode code 745 = .ok (.iaload, 1) by decide +kernel) ?_
  refine L_call (a := 271) (n := 2) (o := 34) (as := [vI (zs xs (i + 1)), vI (zs xs (i + 2))]) (r := [vL x1]) (show decode code 746 = .ok (.invokevirtual 103, 3) by decide +kernel) (tb8 _ (List.mem_of_getElem? (i := 33) rfl)) (by decide) rfl rfl (tb8 _ (List.mem_of_getElem? (i := 34) rfl)) (tb8 _ (List.mem_of_getElem? (i := 35) rfl)) (by decide) (by decide) rfl rfl (by decide) (Nat.le_of_ble_eq_true rfl) hp (fun r' h' hp => ?_)
  unfold pL at hp
  split at hp
  case h_2 => exact hp.elim
  rename_i x2
  exact L_leq (t := 877) (show decode code 749 = .ok (.lcmp, 1) by decide +kernel) (show decode code 750 = .ok (.ifCond .eq 127, 3) by decide +kernel) (by decide) hp.1 (k _ hp.2)
set_option maxRecDepth 100000 in
theorem lc_told (hi : i + 5 ≤ L) (hL : L ≤ 1000000) (hop : okI G Inv 159 272 [vI (zs xs (i + 1)), vI (zs xs (i + 2))] h) (k : ∀ h', Inv h' → GoL G b L xs i 877 [] h') : GoL G b L xs i 755 [] h := by
  refine L_al1 (show decode code 755 = .ok (.aload_n 1, 1) by decide +kernel) ?_
  refine L_scr (q := 1) (by decide) rfl hi hL (show decode code 756 = .ok (.aload_n 0, 1) by decide +kernel) (show decode code 757 = .ok (.iload_n 3, 1) by decide +kernel) (show decode code 758 = .ok (.iconst 1, 1) by decide +kernel) (show decode code 759 = .ok (.iadd, 1) by decide +kernel) (show decode code 760 = .ok (.iaload, 1) by decide +kernel) ?_
  refine L_scr (q := 2) (by decide) rfl hi hL (show decode code 761 = .ok (.aload_n 0, 1) by decide +kernel) (show decode code 762 = .ok (.iload_n 3, 1) by decide +kernel) (show decode code 763 = .ok (.iconst 2, 1) by decide +kernel) (show decode code 764 = .ok (.iadd, 1) by decide +kernel) (show decode code 765 = .ok (.iaload, 1) by decide +kernel) ?_
  refine L_call (a := 159) (n := 2) (o := 0) (as := [vI (zs xs (i + 1)), vI (zs xs (i + 2))]) (r := []) (show decode code 766 = .ok (.invokevirtual 104, 3) by decide +kernel) (tb5 _ (List.mem_of_getElem? (i := 110) rfl)) (by decide) rfl rfl (tb5 _ (List.mem_of_getElem? (i := 111) rfl)) (tb5 _ (List.mem_of_getElem? (i := 112) rfl)) (by decide) (by decide) rfl rfl (by decide) (Nat.le_of_ble_eq_true rfl) hop (fun r' h' hp => ?_)
  unfold pI at hp
  split at hp
  case h_2 => exact hp.elim
  rename_i x1
  refine L_al2 (show decode code 769 = .ok (.aload_n 2, 1) by decide +kernel) ?_
  refine L_scr (q := 1) (by decide) rfl hi hL (show decode code 770 = .ok (.aload_n 0, 1) by decide +kernel) (show decode code 771 = .ok (.iload_n 3, 1) by decide +kernel) (show decode code 772 = .ok (.iconst 1, 1) by decide +kernel) (show decode code 773 = .ok (.iadd, 1) by decide +kernel) (show decode code 774 = .ok (.iaload, 1) by decide +kernel) ?_
  refine L_scr (q := 2) (by decide) rfl hi hL (show decode code 775 = .ok (.aload_n 0, 1) by decide +kernel) (show decode code 776 = .ok (.iload_n 3, 1) by decide +kernel) (show decode code 777 = .ok (.iconst 2, 1) by decide +kernel) (show decode code 778 = .ok (.iadd, 1) by decide +kernel) (show decode code 779 = .ok (.iaload, 1) by decide +kernel) ?_
  refine L_call (a := 272) (n := 2) (o := 34) (as := [vI (zs xs (i + 1)), vI (zs xs (i + 2))]) (r := [vI x1]) (show decode code 780 = .ok (.invokevirtual 107, 3) by decide +kernel) (tb8 _ (List.mem_of_getElem? (i := 37) rfl)) (by decide) rfl rfl (tb8 _ (List.mem_of_getElem? (i := 38) rfl)) (tb8 _ (List.mem_of_getElem? (i := 39) rfl)) (by decide) (by decide) rfl rfl (by decide) (Nat.le_of_ble_eq_true rfl) hp (fun r' h' hp => ?_)
  unfold pI at hp
  split at hp
  case h_2 => exact hp.elim
  rename_i x2
  exact L_ieq (t := 877) (show decode code 783 = .ok (.if_icmp .eq 94, 3) by decide +kernel) (by decide) hp.1 (k _ hp.2)
set_option maxRecDepth 100000 in
theorem lc_letter (hi : i + 5 ≤ L) (hL : L ≤ 1000000) (hop : okI G Inv 160 273 [vI (zs xs (i + 1)), vI (zs xs (i + 2))] h) (k : ∀ h', Inv h' → GoL G b L xs i 877 [] h') : GoL G b L xs i 788 [] h := by
  refine L_al1 (show decode code 788 = .ok (.aload_n 1, 1) by decide +kernel) ?_
  refine L_scr (q := 1) (by decide) rfl hi hL (show decode code 789 = .ok (.aload_n 0, 1) by decide +kernel) (show decode code 790 = .ok (.iload_n 3, 1) by decide +kernel) (show decode code 791 = .ok (.iconst 1, 1) by decide +kernel) (show decode code 792 = .ok (.iadd, 1) by decide +kernel) (show decode code 793 = .ok (.iaload, 1) by decide +kernel) ?_
  refine L_scr (q := 2) (by decide) rfl hi hL (show decode code 794 = .ok (.aload_n 0, 1) by decide +kernel) (show decode code 795 = .ok (.iload_n 3, 1) by decide +kernel) (show decode code 796 = .ok (.iconst 2, 1) by decide +kernel) (show decode code 797 = .ok (.iadd, 1) by decide +kernel) (show decode code 798 = .ok (.iaload, 1) by decide +kernel) ?_
  refine L_call (a := 160) (n := 2) (o := 0) (as := [vI (zs xs (i + 1)), vI (zs xs (i + 2))]) (r := []) (show decode code 799 = .ok (.invokevirtual 108, 3) by decide +kernel) (tb5 _ (List.mem_of_getElem? (i := 127) rfl)) (by decide) rfl rfl (tb5 _ (List.mem_of_getElem? (i := 128) rfl)) (tb5 _ (List.mem_of_getElem? (i := 129) rfl)) (by decide) (by decide) rfl rfl (by decide) (Nat.le_of_ble_eq_true rfl) hop (fun r' h' hp => ?_)
  unfold pI at hp
  split at hp
  case h_2 => exact hp.elim
  rename_i x1
  refine L_al2 (show decode code 802 = .ok (.aload_n 2, 1) by decide +kernel) ?_
  refine L_scr (q := 1) (by decide) rfl hi hL (show decode code 803 = .ok (.aload_n 0, 1) by decide +kernel) (show decode code 804 = .ok (.iload_n 3, 1) by decide +kernel) (show decode code 805 = .ok (.iconst 1, 1) by decide +kernel) (show decode code 806 = .ok (.iadd, 1) by decide +kernel) (show decode code 807 = .ok (.iaload, 1) by decide +kernel) ?_
  refine L_scr (q := 2) (by decide) rfl hi hL (show decode code 808 = .ok (.aload_n 0, 1) by decide +kernel) (show decode code 809 = .ok (.iload_n 3, 1) by decide +kernel) (show decode code 810 = .ok (.iconst 2, 1) by decide +kernel) (show decode code 811 = .ok (.iadd, 1) by decide +kernel) (show decode code 812 = .ok (.iaload, 1) by decide +kernel) ?_
  refine L_call (a := 273) (n := 2) (o := 34) (as := [vI (zs xs (i + 1)), vI (zs xs (i + 2))]) (r := [vI x1]) (show decode code 813 = .ok (.invokevirtual 111, 3) by decide +kernel) (tb8 _ (List.mem_of_getElem? (i := 41) rfl)) (by decide) rfl rfl (tb8 _ (List.mem_of_getElem? (i := 42) rfl)) (tb8 _ (List.mem_of_getElem? (i := 43) rfl)) (by decide) (by decide) rfl rfl (by decide) (Nat.le_of_ble_eq_true rfl) hp (fun r' h' hp => ?_)
  unfold pI at hp
  split at hp
  case h_2 => exact hp.elim
  rename_i x2
  exact L_ieq (t := 877) (show decode code 816 = .ok (.if_icmp .eq 61, 3) by decide +kernel) (by decide) hp.1 (k _ hp.2)
set_option maxRecDepth 100000 in
theorem lc_cluster (hi : i + 5 ≤ L) (hL : L ≤ 1000000) (hop : okI G Inv 161 274 [vI (zs xs (i + 1)), vI (zs xs (i + 2))] h) (k : ∀ h', Inv h' → GoL G b L xs i 877 [] h') : GoL G b L xs i 821 [] h := by
  refine L_al1 (show decode code 821 = .ok (.aload_n 1, 1) by decide +kernel) ?_
  refine L_scr (q := 1) (by decide) rfl hi hL (show decode code 822 = .ok (.aload_n 0, 1) by decide +kernel) (show decode code 823 = .ok (.iload_n 3, 1) by decide +kernel) (show decode code 824 = .ok (.iconst 1, 1) by decide +kernel) (show decode code 825 = .ok (.iadd, 1) by decide +kernel) (show decode code 826 = .ok (.iaload, 1) by decide +kernel) ?_
  refine L_scr (q := 2) (by decide) rfl hi hL (show decode code 827 = .ok (.aload_n 0, 1) by decide +kernel) (show decode code 828 = .ok (.iload_n 3, 1) by decide +kernel) (show decode code 829 = .ok (.iconst 2, 1) by decide +kernel) (show decode code 830 = .ok (.iadd, 1) by decide +kernel) (show decode code 831 = .ok (.iaload, 1) by decide +kernel) ?_
  refine L_call (a := 161) (n := 2) (o := 0) (as := [vI (zs xs (i + 1)), vI (zs xs (i + 2))]) (r := []) (show decode code 832 = .ok (.invokevirtual 112, 3) by decide +kernel) (tb5 _ (List.mem_of_getElem? (i := 135) rfl)) (by decide) rfl rfl (tb5 _ (List.mem_of_getElem? (i := 136) rfl)) (tb5 _ (List.mem_of_getElem? (i := 137) rfl)) (by decide) (by decide) rfl rfl (by decide) (Nat.le_of_ble_eq_true rfl) hop (fun r' h' hp => ?_)
  unfold pI at hp
  split at hp
  case h_2 => exact hp.elim
  rename_i x1
  refine L_al2 (show decode code 835 = .ok (.aload_n 2, 1) by decide +kernel) ?_
  refine L_scr (q := 1) (by decide) rfl hi hL (show decode code 836 = .ok (.aload_n 0, 1) by decide +kernel) (show decode code 837 = .ok (.iload_n 3, 1) by decide +kernel) (show decode code 838 = .ok (.iconst 1, 1) by decide +kernel) (show decode code 839 = .ok (.iadd, 1) by decide +kernel) (show decode code 840 = .ok (.iaload, 1) by decide +kernel) ?_
  refine L_scr (q := 2) (by decide) rfl hi hL (show decode code 841 = .ok (.aload_n 0, 1) by decide +kernel) (show decode code 842 = .ok (.iload_n 3, 1) by decide +kernel) (show decode code 843 = .ok (.iconst 2, 1) by decide +kernel) (show decode code 844 = .ok (.iadd, 1) by decide +kernel) (show decode code 845 = .ok (.iaload, 1) by decide +kernel) ?_
  refine L_call (a := 274) (n := 2) (o := 34) (as := [vI (zs xs (i + 1)), vI (zs xs (i + 2))]) (r := [vI x1]) (show decode code 846 = .ok (.invokevirtual 115, 3) by decide +kernel) (tb8 _ (List.mem_of_getElem? (i := 45) rfl)) (by decide) rfl rfl (tb8 _ (List.mem_of_getElem? (i := 46) rfl)) (tb8 _ (List.mem_of_getElem? (i := 47) rfl)) (by decide) (by decide) rfl rfl (by decide) (Nat.le_of_ble_eq_true rfl) hp (fun r' h' hp => ?_)
  unfold pI at hp
  split at hp
  case h_2 => exact hp.elim
  rename_i x2
  exact L_ieq (t := 877) (show decode code 849 = .ok (.if_icmp .eq 28, 3) by decide +kernel) (by decide) hp.1 (k _ hp.2)
set_option maxRecDepth 100000 in
theorem lc_count (hi : i + 5 ≤ L) (hL : L ≤ 1000000) (hop : okI G Inv 162 276 [vI (zs xs (i + 1))] h) (k : ∀ h', Inv h' → GoL G b L xs i 877 [] h') : GoL G b L xs i 854 [] h := by
  refine L_al1 (show decode code 854 = .ok (.aload_n 1, 1) by decide +kernel) ?_
  refine L_scr (q := 1) (by decide) rfl hi hL (show decode code 855 = .ok (.aload_n 0, 1) by decide +kernel) (show decode code 856 = .ok (.iload_n 3, 1) by decide +kernel) (show decode code 857 = .ok (.iconst 1, 1) by decide +kernel) (show decode code 858 = .ok (.iadd, 1) by decide +kernel) (show decode code 859 = .ok (.iaload, 1) by decide +kernel) ?_
  refine L_call (a := 162) (n := 1) (o := 0) (as := [vI (zs xs (i + 1))]) (r := []) (show decode code 860 = .ok (.invokevirtual 116, 3) by decide +kernel) (tb5 _ (List.mem_of_getElem? (i := 143) rfl)) (by decide) rfl rfl (tb5 _ (List.mem_of_getElem? (i := 144) rfl)) (tb5 _ (List.mem_of_getElem? (i := 145) rfl)) (by decide) (by decide) rfl rfl (by decide) (Nat.le_of_ble_eq_true rfl) hop (fun r' h' hp => ?_)
  unfold pI at hp
  split at hp
  case h_2 => exact hp.elim
  rename_i x1
  refine L_al2 (show decode code 863 = .ok (.aload_n 2, 1) by decide +kernel) ?_
  refine L_scr (q := 1) (by decide) rfl hi hL (show decode code 864 = .ok (.aload_n 0, 1) by decide +kernel) (show decode code 865 = .ok (.iload_n 3, 1) by decide +kernel) (show decode code 866 = .ok (.iconst 1, 1) by decide +kernel) (show decode code 867 = .ok (.iadd, 1) by decide +kernel) (show decode code 868 = .ok (.iaload, 1) by decide +kernel) ?_
  refine L_call (a := 276) (n := 1) (o := 34) (as := [vI (zs xs (i + 1))]) (r := [vI x1]) (show decode code 869 = .ok (.invokevirtual 119, 3) by decide +kernel) (tb8 _ (List.mem_of_getElem? (i := 49) rfl)) (by decide) rfl rfl (tb8 _ (List.mem_of_getElem? (i := 50) rfl)) (tb8 _ (List.mem_of_getElem? (i := 51) rfl)) (by decide) (by decide) rfl rfl (by decide) (Nat.le_of_ble_eq_true rfl) hp (fun r' h' hp => ?_)
  unfold pI at hp
  split at hp
  case h_2 => exact hp.elim
  rename_i x2
  exact L_ieq (t := 877) (show decode code 872 = .ok (.if_icmp .eq 5, 3) by decide +kernel) (by decide) hp.1 (k _ hp.2)
end LAW2
section LAW3
variable {G : GG} {b L : Nat} {xs : Nat → Int32} {i : Nat} {h : AH}
theorem nI_sub5 (L : Nat) : nI L - 5 = Int32.ofInt ((L : Int) - 5) := by
  rw [Int32.ofInt_sub, ← iZ_nat]; rfl
theorem law_head (hi : i + 5 ≤ L) (hL : L ≤ 1000000) (k : GoL G b L xs i 26 [] h) : GoL G b L xs i 18 [] h := by
  intro p e s m below meth c H locs lsA C0 hN hK hP hD hS hl
  have hbA : ¬ gAt s b := Nat.not_le.mpr C0.2.2.2.2.2.2.2.1
  refine lv_iload_n C0.1 C0.2.1 (show decode code 18 = .ok (.iload_n 3, 1) by decide +kernel) rfl (lv_at hl 3 rfl) ?_
  refine lv_aload_n C0.1 C0.2.1 (show decode code 19 = .ok (.aload_n 0, 1) by decide +kernel) rfl (lv_at hl 0 rfl) ?_
  refine va_slen C0.1 C0.2.1 C0.2.2.2.2.2.2.1 C0.2.2.2.2.2.2.2.1 hbA hS (show decode code 20 = .ok (.arraylength, 1) by decide +kernel) ?_
  refine lv_iconst (v := 5) C0.1 C0.2.1 (show decode code 21 = .ok (.iconst 5, 1) by decide +kernel) (by decide) ?_
  refine lv_isub C0.1 C0.2.1 (show decode code 22 = .ok (.isub, 1) by decide +kernel) ?_
  refine lv_icmp_gt (tgt := 883) C0.1 C0.2.1 (show decode code 23 = .ok (.if_icmp .gt 860, 3) by decide +kernel) (by decide) (fun q => ?_) (fun q => k p e s m below meth c H locs lsA C0 hN hK hP hD hS hl)
  exfalso
  have e1 : nI L - 5 = Int32.ofInt ((L : Int) - 5) := nI_sub5 L
  have q2 : nI L - 5 < nI i := q
  rw [e1, show nI i = Int32.ofInt (i : Int) from iZ_nat i, iZ_lt, wI_id (by omega) (by omega), wI_id (by omega) (by omega)] at q2
  omega
theorem law_end (hi : ¬ i + 5 ≤ L) (hL : L ≤ 1000000 ∧ i ≤ 1000010) : GoL G b L xs i 18 [] h := by
  intro p e s m below meth c H locs lsA C0 hN hK hP hD hS hl
  obtain ⟨hx, hb, hr, hml, hown, hts, hX, hbl, hlocks, hgv⟩ := id C0
  have hbA : ¬ gAt s b := Nat.not_le.mpr hbl
  refine lv_iload_n hx hb (show decode code 18 = .ok (.iload_n 3, 1) by decide +kernel) rfl (lv_at hl 3 rfl) ?_
  refine lv_aload_n hx hb (show decode code 19 = .ok (.aload_n 0, 1) by decide +kernel) rfl (lv_at hl 0 rfl) ?_
  refine va_slen hx hb hX hbl hbA hS (show decode code 20 = .ok (.arraylength, 1) by decide +kernel) ?_
  refine lv_iconst (v := 5) hx hb (show decode code 21 = .ok (.iconst 5, 1) by decide +kernel) (by decide) ?_
  refine lv_isub hx hb (show decode code 22 = .ok (.isub, 1) by decide +kernel) ?_
  refine lv_icmp_gt (tgt := 883) hx hb (show decode code 23 = .ok (.if_icmp .gt 860, 3) by decide +kernel) (by decide) (fun q => ?_) (fun q => ?_)
  · refine lv_iconst (v := 1) hx hb (show decode code 883 = .ok (.iconst 1, 1) by decide +kernel) (by decide) ?_
    refine va_forget (fun q hq => hS.2.2 q hq) ?_
    exact lw_ret hx hb hr hlocks (show decode code 884 = .ok (.ireturn, 1) by decide +kernel)
  · exfalso
    apply q
    have e1 : nI L - 5 = Int32.ofInt ((L : Int) - 5) := nI_sub5 L
    show nI L - 5 < nI i
    rw [e1, show nI i = Int32.ofInt (i : Int) from iZ_nat i, iZ_lt, wI_id (by omega) (by omega), wI_id (by omega) (by omega)]
    omega
theorem law_next (k : GoL G b L xs (i + 5) 18 [] h) : GoL G b L xs i 877 [] h := by
  intro p e s m below meth c H locs lsA C0 hN hK hP hD hS hl
  refine lv_iinc (v := nI (i + 5)) (lv' := [(3, .int (nI (i + 5))), (0, .ref b), (1, .ref (G.2.2.2.2 0)), (2, .ref (G.2.2.2.2 34))]) C0.1 C0.2.1 (show decode code 877 = .ok (.iinc 3 5, 3) by decide +kernel) hl (k := 3) rfl (by rw [show Int32.ofInt 5 = nI 5 from rfl, nI_add]) (by decide) rfl (fun ls hl => ?_)
  refine lv_goto (tgt := 18) C0.1 C0.2.1 (show decode code 880 = .ok (.goto (-862), 3) by decide +kernel) (by decide) ?_
  exact k p e s m below meth c H locs ls C0 hN hK hP hD hS (lv_sub hl [1, 2, 3, 0] rfl)
end LAW3
theorem bA31 (x : Int) : bA x 31 = x % 32 := by
  unfold bA
  rw [pk_and _ 5 rfl]
  have h1 : ((Int32.ofInt x).toBitVec.toNat % 2 ^ 5 : Nat) < 32 := Nat.mod_lt _ (by decide)
  rw [nI_toInt (by omega)]
  simp only [Int32.toBitVec_ofInt, BitVec.toNat_ofInt]
  omega
set_option maxHeartbeats 4000000 in
set_option maxRecDepth 100000 in
theorem law_loop {G : GG} {b L : Nat} {xs : Nat → Int32} {Inv : AH → Prop} (hL : L ≤ 2560) (hops : ∀ h, Inv h → OPS G Inv h) : ∀ (n i : Nat) (h : AH), L < i + n → i ≤ L + 5 → Inv h → GoL G b L xs i 18 [] h := by
  intro n
  induction n with
  | zero =>
    intro i h hn hi hI p e s m below meth c H locs lsA C0 hN hK hP hD hS hl
    exact law_end (by omega) ⟨by omega, by omega⟩ p e s m below meth c H locs lsA C0 hN hK hP hD hS hl
  | succ n ih =>
    intro i h hn hi hI
    by_cases hlt : i + 5 ≤ L
    · have nxt : ∀ h', Inv h' → GoL G b L xs i 877 [] h' := fun h' hI' => law_next (ih (i + 5) h' (by omega) (by omega) hI')
      have ops := hops h hI
      unfold OPS at ops
      refine law_head hlt (by omega) ?_
      refine L_scr0 hlt (by omega) (show decode code 26 = .ok (.aload_n 0, 1) by decide +kernel) (show decode code 27 = .ok (.iload_n 3, 1) by decide +kernel) (show decode code 28 = .ok (.iaload, 1) by decide +kernel) ?_
      refine L_bi (show decode code 29 = .ok (.bipush 31, 2) by decide +kernel) (by decide) ?_
      refine L_and (show decode code 31 = .ok (.iand, 1) by decide +kernel) ?_
      rw [bA31]
      intro p e s m below meth c H locs lsA C0 hN hK hP hD hS hl
      have hx32 : (Int32.ofInt (zs xs i % 32)).toInt = zs xs i % 32 := by rw [wI_eq]; exact wI_id (by omega) (by omega)
      have hd32 : decode code 32 = .ok (.tableswitch 845 0 23 #[112, 145, 178, 221, 244, 257, 280, 293, 306, 359, 372, 393, 416, 449, 498, 551, 584, 607, 640, 689, 723, 756, 789, 822], 112) := by decide +kernel
      obtain ⟨o0, o1, o2, o3, o4, o5, o6, o7, o8, o9, o10, o11, o12, o13, o14, o15, o16, o17, o18, o19, o20, o21, o22, o23⟩ := ops
      by_cases h24 : zs xs i % 32 < 24
      · have hsel : zs xs i % 32 = 0 ∨ zs xs i % 32 = 1 ∨ zs xs i % 32 = 2 ∨ zs xs i % 32 = 3 ∨ zs xs i % 32 = 4 ∨ zs xs i % 32 = 5 ∨ zs xs i % 32 = 6 ∨ zs xs i % 32 = 7 ∨ zs xs i % 32 = 8 ∨ zs xs i % 32 = 9 ∨ zs xs i % 32 = 10 ∨ zs xs i % 32 = 11 ∨ zs xs i % 32 = 12 ∨ zs xs i % 32 = 13 ∨ zs xs i % 32 = 14 ∨ zs xs i % 32 = 15 ∨ zs xs i % 32 = 16 ∨ zs xs i % 32 = 17 ∨ zs xs i % 32 = 18 ∨ zs xs i % 32 = 19 ∨ zs xs i % 32 = 20 ∨ zs xs i % 32 = 21 ∨ zs xs i % 32 = 22 ∨ zs xs i % 32 = 23 := by omega
        rcases hsel with q0 | q1 | q2 | q3 | q4 | q5 | q6 | q7 | q8 | q9 | q10 | q11 | q12 | q13 | q14 | q15 | q16 | q17 | q18 | q19 | q20 | q21 | q22 | q23
        · exact lv_tableIn (off := 112) (tgt := 144) C0.1 C0.2.1 hd32 (by rw [hx32]; omega) (by rw [hx32]; omega) (by rw [hx32, q0]; rfl) (by decide) (lc_format hlt (by omega) (o0 _ _ (zs_in xs _) (zs_in xs _)) nxt p e s m below meth c H locs lsA C0 hN hK hP hD hS hl)
        · exact lv_tableIn (off := 145) (tgt := 177) C0.1 C0.2.1 hd32 (by rw [hx32]; omega) (by rw [hx32]; omega) (by rw [hx32, q1]; rfl) (by decide) (lc_octet hlt (by omega) (o1 _ _ (zs_in xs _) (zs_in xs _)) nxt p e s m below meth c H locs lsA C0 hN hK hP hD hS hl)
        · exact lv_tableIn (off := 178) (tgt := 210) C0.1 C0.2.1 hd32 (by rw [hx32]; omega) (by rw [hx32]; omega) (by rw [hx32, q2]; rfl) (by decide) (lc_spoil hlt (by omega) (o2 _ _ _ (zs_in xs _) (zs_in xs _) (zs_in xs _)) nxt p e s m below meth c H locs lsA C0 hN hK hP hD hS hl)
        · exact lv_tableIn (off := 221) (tgt := 253) C0.1 C0.2.1 hd32 (by rw [hx32]; omega) (by rw [hx32]; omega) (by rw [hx32, q3]; rfl) (by decide) (lc_fail hlt (by omega) (o3 _ (zs_in xs _)) nxt p e s m below meth c H locs lsA C0 hN hK hP hD hS hl)
        · exact lv_tableIn (off := 244) (tgt := 276) C0.1 C0.2.1 hd32 (by rw [hx32]; omega) (by rw [hx32]; omega) (by rw [hx32, q4]; rfl) (by decide) (lc_mount hlt (by omega) o4 nxt p e s m below meth c H locs lsA C0 hN hK hP hD hS hl)
        · exact lv_tableIn (off := 257) (tgt := 289) C0.1 C0.2.1 hd32 (by rw [hx32]; omega) (by rw [hx32]; omega) (by rw [hx32, q5]; rfl) (by decide) (lc_fault hlt (by omega) (o5 _ (zs_in xs _)) nxt p e s m below meth c H locs lsA C0 hN hK hP hD hS hl)
        · exact lv_tableIn (off := 280) (tgt := 312) C0.1 C0.2.1 hd32 (by rw [hx32]; omega) (by rw [hx32]; omega) (by rw [hx32, q6]; rfl) (by decide) (lc_unmount hlt (by omega) o6 nxt p e s m below meth c H locs lsA C0 hN hK hP hD hS hl)
        · exact lv_tableIn (off := 293) (tgt := 325) C0.1 C0.2.1 hd32 (by rw [hx32]; omega) (by rw [hx32]; omega) (by rw [hx32, q7]; rfl) (by decide) (lc_mend hlt (by omega) o7 nxt p e s m below meth c H locs lsA C0 hN hK hP hD hS hl)
        · exact lv_tableIn (off := 306) (tgt := 338) C0.1 C0.2.1 hd32 (by rw [hx32]; omega) (by rw [hx32]; omega) (by rw [hx32, q8]; rfl) (by decide) (lc_letters hlt (by omega) (o8 _ _ (zs_in xs _) (zs_in xs _)) nxt p e s m below meth c H locs lsA C0 hN hK hP hD hS hl)
        · exact lv_tableIn (off := 359) (tgt := 391) C0.1 C0.2.1 hd32 (by rw [hx32]; omega) (by rw [hx32]; omega) (by rw [hx32, q9]; rfl) (by decide) (lc_clear hlt (by omega) o9 nxt p e s m below meth c H locs lsA C0 hN hK hP hD hS hl)
        · exact lv_tableIn (off := 372) (tgt := 404) C0.1 C0.2.1 hd32 (by rw [hx32]; omega) (by rw [hx32]; omega) (by rw [hx32, q10]; rfl) (by decide) (lc_clock hlt (by omega) (o10 _ (zs_in xs _)) nxt p e s m below meth c H locs lsA C0 hN hK hP hD hS hl)
        · exact lv_tableIn (off := 393) (tgt := 425) C0.1 C0.2.1 hd32 (by rw [hx32]; omega) (by rw [hx32]; omega) (by rw [hx32, q11]; rfl) (by decide) (lc_look hlt (by omega) (o11 _ (zs_in xs _)) nxt p e s m below meth c H locs lsA C0 hN hK hP hD hS hl)
        · exact lv_tableIn (off := 416) (tgt := 448) C0.1 C0.2.1 hd32 (by rw [hx32]; omega) (by rw [hx32]; omega) (by rw [hx32, q12]; rfl) (by decide) (lc_list hlt (by omega) (o12 _ _ (zs_in xs _) (zs_in xs _)) nxt p e s m below meth c H locs lsA C0 hN hK hP hD hS hl)
        · exact lv_tableIn (off := 449) (tgt := 481) C0.1 C0.2.1 hd32 (by rw [hx32]; omega) (by rw [hx32]; omega) (by rw [hx32, q13]; rfl) (by decide) (lc_make hlt (by omega) (o13 _ _ (zs_in xs _) (zs_in xs _)) nxt p e s m below meth c H locs lsA C0 hN hK hP hD hS hl)
        · exact lv_tableIn (off := 498) (tgt := 530) C0.1 C0.2.1 hd32 (by rw [hx32]; omega) (by rw [hx32]; omega) (by rw [hx32, q14]; rfl) (by decide) (lc_write hlt (by omega) (o14 _ _ _ _ (zs_in xs _) (zs_in xs _) (zs_in xs _) (zs_in xs _)) nxt p e s m below meth c H locs lsA C0 hN hK hP hD hS hl)
        · exact lv_tableIn (off := 551) (tgt := 583) C0.1 C0.2.1 hd32 (by rw [hx32]; omega) (by rw [hx32]; omega) (by rw [hx32, q15]; rfl) (by decide) (lc_cut hlt (by omega) (o15 _ _ (zs_in xs _) (zs_in xs _)) nxt p e s m below meth c H locs lsA C0 hN hK hP hD hS hl)
        · exact lv_tableIn (off := 584) (tgt := 616) C0.1 C0.2.1 hd32 (by rw [hx32]; omega) (by rw [hx32]; omega) (by rw [hx32, q16]; rfl) (by decide) (lc_drop hlt (by omega) (o16 _ (zs_in xs _)) nxt p e s m below meth c H locs lsA C0 hN hK hP hD hS hl)
        · exact lv_tableIn (off := 607) (tgt := 639) C0.1 C0.2.1 hd32 (by rw [hx32]; omega) (by rw [hx32]; omega) (by rw [hx32, q17]; rfl) (by decide) (lc_move hlt (by omega) (o17 _ _ (zs_in xs _) (zs_in xs _)) nxt p e s m below meth c H locs lsA C0 hN hK hP hD hS hl)
        · exact lv_tableIn (off := 640) (tgt := 672) C0.1 C0.2.1 hd32 (by rw [hx32]; omega) (by rw [hx32]; omega) (by rw [hx32, q18]; rfl) (by decide) (lc_bar hlt (by omega) (o18 _ _ (zs_in xs _) (zs_in xs _)) nxt p e s m below meth c H locs lsA C0 hN hK hP hD hS hl)
        · exact lv_tableIn (off := 689) (tgt := 721) C0.1 C0.2.1 hd32 (by rw [hx32]; omega) (by rw [hx32]; omega) (by rw [hx32, q19]; rfl) (by decide) (lc_read hlt (by omega) (o19 _ _ (zs_in xs _) (zs_in xs _)) nxt p e s m below meth c H locs lsA C0 hN hK hP hD hS hl)
        · exact lv_tableIn (off := 723) (tgt := 755) C0.1 C0.2.1 hd32 (by rw [hx32]; omega) (by rw [hx32]; omega) (by rw [hx32, q20]; rfl) (by decide) (lc_told hlt (by omega) (o20 _ _ (zs_in xs _) (zs_in xs _)) nxt p e s m below meth c H locs lsA C0 hN hK hP hD hS hl)
        · exact lv_tableIn (off := 756) (tgt := 788) C0.1 C0.2.1 hd32 (by rw [hx32]; omega) (by rw [hx32]; omega) (by rw [hx32, q21]; rfl) (by decide) (lc_letter hlt (by omega) (o21 _ _ (zs_in xs _) (zs_in xs _)) nxt p e s m below meth c H locs lsA C0 hN hK hP hD hS hl)
        · exact lv_tableIn (off := 789) (tgt := 821) C0.1 C0.2.1 hd32 (by rw [hx32]; omega) (by rw [hx32]; omega) (by rw [hx32, q22]; rfl) (by decide) (lc_cluster hlt (by omega) (o22 _ _ (zs_in xs _) (zs_in xs _)) nxt p e s m below meth c H locs lsA C0 hN hK hP hD hS hl)
        · exact lv_tableIn (off := 822) (tgt := 854) C0.1 C0.2.1 hd32 (by rw [hx32]; omega) (by rw [hx32]; omega) (by rw [hx32, q23]; rfl) (by decide) (lc_count hlt (by omega) (o23 _ (zs_in xs _)) nxt p e s m below meth c H locs lsA C0 hN hK hP hD hS hl)
      · exact lv_tableOut (tgt := 877) C0.1 C0.2.1 hd32 (by rw [hx32]; omega) (by decide) (nxt h hI p e s m below meth c H locs lsA C0 hN hK hP hD hS hl)
    · intro p e s m below meth c H locs lsA C0 hN hK hP hD hS hl
      exact law_end (by omega) ⟨by omega, by omega⟩ p e s m below meth c H locs lsA C0 hN hK hP hD hS hl
