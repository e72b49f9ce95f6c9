/-! what an instruction of the table does (stp), when the table tells the bytes truly (okE), and that it is so (stp_ok) -/
abbrev EM : Type := List Bool × Nat × Nat × Nat × Nat × Nat × Int × Nat
def lnOk (b o : Nat) : Bool := match b with
  | 0 => true
  | n + 1 => Nat.beq (ob_ln o) (n + 1)
def lnV (b o : Nat) : Int := match b with
  | 0 => (ob_ln o : Int)
  | n + 1 => ((n + 1 : Nat) : Int)
theorem lnV_eq {b o : Nat} (h : lnOk b o = true) : lnV b o = (ob_ln o : Int) := by
  unfold lnOk at h
  unfold lnV
  split at h
  · rfl
  · rw [Nat.eq_of_beq_eq_true h]
/-- the list is made whole first -/
def nrm {α : Type} : List α → (List α → Prop) → Prop
  | [], k => k []
  | v :: r, k => nrm r (fun r' => k (v :: r'))
theorem nrm_of {α : Type} : ∀ {l : List α} {k : List α → Prop}, nrm l k → k l
  | [], _, h => h
  | v :: r, k, h => nrm_of (l := r) (k := fun r' => k (v :: r')) h
def hcp (h : AH) (a0 a1 sp dp n : Nat) : AH := fun o => if o = a1 then (fun k => if dp ≤ k ∧ k < dp + n then h a0 (sp + (k - dp)) else h a1 k) else h o
def catN : AV → Nat
  | .inr (.inl _) => 2
  | _ => 1
def depOk (st : List AV) : Bool := Nat.ble (st.map catN).sum 8
def mm (a : Nat) (x y : Int) : Int := match a with
  | 0 => if wI x < wI y then y else x
  | _ => if wI y < wI x then y else x
def callC (G : GG) (a : Nat) (as : List AV) (h : AH) (K : List AV → AH → Prop) : Prop := match mR a with
  | none => RunsV G a as h (fun h' => K [] h')
  | some .long => RunsL G a as h (fun x h' => K [vL x] h')
  | _ => RunsI G a as h (fun x h' => K [vI x] h')
def swt (c : Nat) : List (Int × Nat) × Nat := SWT.getD c ([], 0)
def g20 (K : List AV → AH → Prop) (a b : Nat) (st : List AV) (h : AH) : Prop := match st with
  | .inl x :: .inr (.inr o) :: st => (match Nat.beq (ob_kd o) a with | true => (match fd_k a b with | 0 => K st (hs h o b x) | 1 => (x = 0 ∨ x = 1) ∧ K st (hs h o b x) | _ => False) | false => False)
  | .inr (.inl x) :: .inr (.inr o) :: st => (match Nat.beq (ob_kd o) a with | true => (match fd_k a b with | 2 => K st (hs h o b x) | _ => False) | false => False)
  | _ => False
def g22 (K : List AV → AH → Prop) (a b : Nat) (st : List AV) (h : AH) : Prop := match st with
  | .inl x :: .inr (.inr o) :: st => (match akOk a (ob_kd o) && lnOk b o with | true => (0 ≤ wI x ∧ wI x < lnV b o) ∧ (match a with | 2 => K (vL (h o (wI x).toNat) :: st) h | _ => K (vI (h o (wI x).toNat) :: st) h) | false => False)
  | _ => False
def g23 (K : List AV → AH → Prop) (a b : Nat) (st : List AV) (h : AH) : Prop := match st with
  | .inl v :: .inl x :: .inr (.inr o) :: st => (match lnOk b o with
    | true => (match a, ob_kd o with
      | 0, 14 => (0 ≤ wI x ∧ wI x < lnV b o) ∧ K st (hs h o (wI x).toNat v)
      | 1, 13 => (0 ≤ wI x ∧ wI x < lnV b o) ∧ K st (hs h o (wI x).toNat (w8 v))
      | 1, 16 => (0 ≤ wI x ∧ wI x < lnV b o) ∧ (v = 0 ∨ v = 1) ∧ K st (hs h o (wI x).toNat v)
      | _, _ => False)
    | false => False)
  | .inr (.inl v) :: .inl x :: .inr (.inr o) :: st => (match lnOk b o with
    | true => (match a, ob_kd o with
      | 2, 15 => (0 ≤ wI x ∧ wI x < lnV b o) ∧ K st (hs h o (wI x).toNat v)
      | _, _ => False)
    | false => False)
  | _ => False
def g33 (K : List AV → AH → Prop) (b : Nat) (st : List AV) (h : AH) : Prop := match st with
  | .inl n :: .inl dp :: .inr (.inr a1) :: .inl sp :: .inr (.inr a0) :: st => (match Nat.beq (ob_kd a0) 14 && (Nat.beq (ob_kd a1) 14 && (lnOk b a0 && (lnOk b a1 && depOk st))) with
    | true => (0 ≤ wI sp ∧ 0 ≤ wI dp ∧ 0 ≤ wI n ∧ wI sp + wI n ≤ lnV b a0 ∧ wI dp + wI n ≤ lnV b a1) ∧ K st (hcp h a0 a1 (wI sp).toNat (wI dp).toNat (wI n).toNat)
    | false => False)
  | _ => False
def stp (G : GG) (post : Option AV → AH → Prop) (K : KT) (e : EM) (ls : List (Option AV)) (st : List AV) (h : AH) : Prop :=
  match e with
  | (_, op, a, b, c, d, z, nx) => match op with
    | 0 => K nx ls (vI z :: st) h
    | 1 => K nx ls (vL z :: st) h
    | 2 => (match ls.getD a none with | some (.inl x) => K nx ls (vI x :: st) h | _ => False)
    | 3 => (match ls.getD a none with | some (.inr (.inl x)) => K nx ls (vL x :: st) h | _ => False)
    | 4 => (match ls.getD a none with | some (.inr (.inr x)) => K nx ls (vR x :: st) h | _ => False)
    | 5 => (match st with | .inl x :: st => nrm (st1 ls a (vI x)) (fun ls => K nx ls st h) | _ => False)
    | 6 => (match st with | .inr (.inl x) :: st => nrm (st2 ls a (vL x)) (fun ls => K nx ls st h) | _ => False)
    | 7 => (match st with | .inr (.inr x) :: st => nrm (st1 ls a (vR x)) (fun ls => K nx ls st h) | _ => False)
    | 8 => (match ls.getD a none with | some (.inl x) => nrm (st1 ls a (vI (x + z))) (fun ls => K nx ls st h) | _ => False)
    | 9 => (match st with | .inl y :: .inl x :: st => K nx ls (vI (ibin a x y) :: st) h | _ => False)
    | 10 => (match st with | .inl y :: .inl x :: st => wI y ≠ 0 ∧ K nx ls (vI (match a with | 0 => Int.tdiv (wI x) (wI y) | _ => Int.tmod (wI x) (wI y)) :: st) h | _ => False)
    | 11 => (match st with | .inr (.inl y) :: .inr (.inl x) :: st => K nx ls (vL (lbin a x y) :: st) h | _ => False)
    | 12 => (match st with | .inr (.inl y) :: .inr (.inl x) :: st => wL y ≠ 0 ∧ K nx ls (vL (match a with | 0 => Int.tdiv (wL x) (wL y) | _ => Int.tmod (wL x) (wL y)) :: st) h | _ => False)
    | 13 => (match st with | .inl y :: .inr (.inl x) :: st => K nx ls (vL (lsh a x y) :: st) h | _ => False)
    | 14 => (match a, st with | 0, .inl x :: st => K nx ls (vL (wI x) :: st) h | 1, .inr (.inl x) :: st => K nx ls (vI x :: st) h | 2, .inl x :: st => K nx ls (vI (w8 x) :: st) h | _, _ => False)
    | 15 => (match st with | .inl x :: st => brC a (wI x) 0 (K b ls st h) (K nx ls st h) | _ => False)
    | 16 => (match st with | .inl y :: .inl x :: st => brC a (wI x) (wI y) (K b ls st h) (K nx ls st h) | _ => False)
    | 17 => K b ls st h
    | 18 => (match st with | .inr (.inl y) :: .inr (.inl x) :: st => brC a (wL x) (wL y) (K b ls st h) (K nx ls st h) | _ => False)
    | 19 => (match st with | .inr (.inr o) :: st => (match Nat.beq (ob_kd o) a with | true => (match fd_k a b with | 3 => frc (ob_rf o b) (fun q => K nx ls (vR q :: st) h) | 2 => K nx ls (vL (h o b) :: st) h | _ => K nx ls (vI (h o b) :: st) h) | false => False) | _ => False)
    | 20 => g20 (K nx ls) a b st h
    | 21 => (match st with | .inr (.inr o) :: st => (match Nat.ble 13 (ob_kd o) && (Nat.ble (ob_kd o) 16 && lnOk b o) with | true => K nx ls (vI (lnV b o) :: st) h | false => False) | _ => False)
    | 22 => g22 (K nx ls) a b st h
    | 23 => g23 (K nx ls) a b st h
    | 24 => (match st with | .inl x :: st => K nx ls (vI x :: vI x :: st) h | .inr (.inr x) :: st => K nx ls (vR x :: vR x :: st) h | _ => False)
    | 25 => (match st with | .inl x :: .inr (.inr y) :: st => K nx ls (vI x :: vR y :: vI x :: st) h | .inl x :: .inl y :: st => K nx ls (vI x :: vI y :: vI x :: st) h | _ => False)
    | 26 => (match st with | .inl _ :: st => K nx ls st h | .inr (.inr _) :: st => K nx ls st h | _ => False)
    | 27 => (match st.drop b with | .inr (.inr o) :: r => (match Nat.beq (ob_kd o) d && depOk r with | true => callC G a (vR o :: (st.take b).reverse) h (fun v h' => nrm (v ++ r) (fun st => K nx ls st h')) | false => False) | _ => False)
    | 28 => (match Nat.ble b st.length && depOk (st.drop b) with | true => callC G a (st.take b).reverse h (fun v h' => nrm (v ++ st.drop b) (fun st => K nx ls st h')) | false => False)
    | 29 => (match st with | [.inl x] => (match d with | 1 => (x = 0 ∨ x = 1) ∧ post (some (vI x)) h | _ => post (some (vI x)) h) | _ => False)
    | 30 => (match st with | [.inr (.inl x)] => post (some (vL x)) h | _ => False)
    | 31 => (match st with | [] => post none h | _ => False)
    | 32 => (match st with | .inl x :: st => swC (fun t => K t ls st h) (wI x) (swt c).2 (swt c).1 | _ => False)
    | 33 => g33 (K nx ls) b st h
    | 35 => (match st with | .inl x :: .inr (.inr o) :: st => K nx ls (vI x :: vR o :: vI x :: vR o :: st) h | _ => False)
    | 34 => (match st with | .inl y :: .inl x :: st => (match depOk st with | true => K nx ls (vI (mm a x y) :: st) h | false => False) | _ => False)
    | _ => False
def dk (i pc : Nat) (ins : Instr) (len nx : Nat) : Bool := decide (decode (mC i) pc = .ok (ins, len)) && Nat.beq nx (pc + len)
theorem dk_of {i pc : Nat} {ins : Instr} {len nx : Nat} (h : dk i pc ins len nx = true) : decode (mC i) pc = .ok (ins, len) ∧ nx = pc + len := by
  simp only [dk, Bool.and_eq_true, decide_eq_true_eq] at h
  exact ⟨h.1, Nat.eq_of_beq_eq_true h.2⟩
def ld4 (n_ : Fin 4 → Instr) (w_ : Nat → Instr) (i pc a b nx : Nat) : Bool := match b, a with
  | 0, 0 => dk i pc (n_ 0) 1 nx
  | 0, 1 => dk i pc (n_ 1) 1 nx
  | 0, 2 => dk i pc (n_ 2) 1 nx
  | 0, 3 => dk i pc (n_ 3) 1 nx
  | 1, a => dk i pc (w_ a) 2 nx
  | _, _ => false
theorem ld4_of {n_ : Fin 4 → Instr} {w_ : Nat → Instr} {i pc a b nx : Nat} (h : ld4 n_ w_ i pc a b nx = true) : (∃ k : Fin 4, (k : Nat) = a ∧ decode (mC i) pc = .ok (n_ k, 1) ∧ nx = pc + 1) ∨ (decode (mC i) pc = .ok (w_ a, 2) ∧ nx = pc + 2) := by
  unfold ld4 at h
  split at h
  · exact Or.inl ⟨0, rfl, dk_of h⟩
  · exact Or.inl ⟨1, rfl, dk_of h⟩
  · exact Or.inl ⟨2, rfl, dk_of h⟩
  · exact Or.inl ⟨3, rfl, dk_of h⟩
  · exact Or.inr (dk_of h)
  · cases h
def ibI (a : Nat) : Instr := match a with
  | 0 => .iadd | 1 => .isub | 2 => .imul | 3 => .iand | 4 => .ior | 5 => .ixor | 6 => .ishl | 7 => .ishr | _ => .iushr
def lbI (a : Nat) : Instr := match a with
  | 0 => .ladd | 1 => .lsub | 2 => .lmul | 3 => .land | 4 => .lor | _ => .lxor
def lsI (a : Nat) : Instr := match a with
  | 0 => .lshl | 1 => .lshr | _ => .lushr
def cvI (a : Nat) : Instr := match a with
  | 0 => .i2l | 1 => .l2i | _ => .i2b
def cnd (a : Nat) : Jvm.ClassFile.Cond := match a with
  | 0 => .eq | 1 => .ne | 2 => .lt | 3 => .ge | 4 => .gt | _ => .le
def ctz (z : Int) : Jvm.ClassFile.Instr := .iconst z
def okE (i pc : Nat) (e : EM) : Bool := match e with
  | (_, op, a, b, c, d, z, nx) => match op with
    | 0 => (match a with
      | 0 => dk i pc (.iconst z) 1 nx
      | 1 => dk i pc (.bipush z) 2 nx && decide (-128 ≤ z ∧ z ≤ 127)
      | 2 => dk i pc (.sipush z) 3 nx && decide (-32768 ≤ z ∧ z ≤ 32767)
      | _ => (match klt_0[c]? with | some (k, ix, z', false) => dk i pc (.ldc ix) 2 nx && (Nat.beq k (mK i) && decide (z' = z)) | _ => false))
    | 1 => (match a with
      | 0 => dk i pc (.lconst 0) 1 nx && decide (z = 0)
      | 1 => dk i pc (.lconst 1) 1 nx && decide (z = 1)
      | _ => (match klt_0[c]? with | some (k, ix, z', true) => dk i pc (.ldc2_w ix) 3 nx && (Nat.beq k (mK i) && decide (z' = z)) | _ => false))
    | 2 => ld4 .iload_n .iload i pc a b nx
    | 3 => ld4 .lload_n .lload i pc a b nx
    | 4 => ld4 .aload_n .aload i pc a b nx
    | 5 => ld4 .istore_n .istore i pc a b nx && Nat.ble (a + 1) (mL i)
    | 6 => ld4 .lstore_n .lstore i pc a b nx && Nat.ble (a + 2) (mL i)
    | 7 => ld4 .astore_n .astore i pc a b nx && Nat.ble (a + 1) (mL i)
    | 8 => dk i pc (.iinc a z) 3 nx && Nat.ble (a + 1) (mL i)
    | 9 => dk i pc (ibI a) 1 nx
    | 10 => (match a with | 0 => dk i pc .idiv 1 nx | _ => dk i pc .irem 1 nx)
    | 11 => dk i pc (lbI a) 1 nx && Nat.ble a 5
    | 12 => (match a with | 0 => dk i pc .ldiv 1 nx | _ => dk i pc .lrem 1 nx)
    | 13 => dk i pc (lsI a) 1 nx
    | 14 => dk i pc (cvI a) 1 nx
    | 15 => dk i pc (.ifCond (cnd a) ((b : Int) - pc)) 3 nx
    | 16 => dk i pc (.if_icmp (cnd a) ((b : Int) - pc)) 3 nx
    | 17 => dk i pc (.goto ((b : Int) - pc)) 3 (pc + 3)
    | 18 => dk i pc .lcmp 1 (pc + 1) && dk i (pc + 1) (.ifCond (cnd a) ((b : Int) - (pc + 1 : Nat))) 3 nx
    | 19 => (match (flb.getD (c / 20) [])[c % 20]? with | some (k, ix, a', b', _) => dk i pc (.getfield ix) 3 nx && (Nat.beq k (mK i) && (Nat.beq a' a && (Nat.beq b' b && Nat.ble (b + 1) (fd_n a)))) | none => false)
    | 20 => (match (flb.getD (c / 20) [])[c % 20]? with | some (k, ix, a', b', _) => dk i pc (.putfield ix) 3 nx && (Nat.beq k (mK i) && (Nat.beq a' a && (Nat.beq b' b && (Nat.ble (b + 1) (fd_n a) && (match vwCl[a]? with | some (_, T, _) => !(T b).2.2.2 | none => false))))) | none => false)
    | 21 => dk i pc .arraylength 1 nx
    | 22 => dk i pc (match a with | 0 => .iaload | 1 => .baload | _ => .laload) 1 nx
    | 23 => dk i pc (match a with | 0 => .iastore | 1 => .bastore | _ => .lastore) 1 nx
    | 24 => dk i pc .dup 1 nx
    | 25 => dk i pc .dup_x1 1 nx
    | 26 => dk i pc .pop 1 nx
    | 27 => (match (mlb.getD (c / 20) [])[c % 20]? with | some (k, ix, a', false, n) => dk i pc (.invokevirtual ix) 3 nx && (Nat.beq k (mK i) && (Nat.beq a' a && (Nat.beq n b && (Nat.beq d (mK a) && (Nat.ble (d + 1) 13 && (Nat.ble (a + 1) 278 && (Nat.ble (mF a + 1) (mF i) && Nat.ble (8 + (mL a + 11) + mO a) (mO i)))))))) | _ => false)
    | 28 => (match (mlb.getD (c / 20) [])[c % 20]? with | some (k, ix, a', true, n) => dk i pc (.invokestatic ix) 3 nx && (Nat.beq k (mK i) && (Nat.beq a' a && (Nat.beq n b && (Nat.ble (a + 1) 278 && (Nat.ble (mF a + 1) (mF i) && Nat.ble (8 + (mL a + 11) + mO a) (mO i)))))) | _ => false)
    | 29 => dk i pc .ireturn 1 (pc + 1) && (match d with | 1 => decide (mR i = some .boolean) | _ => decide (mR i = some .int))
    | 30 => dk i pc .lreturn 1 (pc + 1) && decide (mR i = some .long)
    | 31 => dk i pc .return_ 1 (pc + 1) && decide (mR i = none)
    | 32 => (match decode (mC i) pc with
      | .ok (.tableswitch df lo hi offs, _) => decide ((swt c).1.map (fun q => (q.1, ((q.2 : Int) - pc))) = offs.toList.zipIdx.map (fun q => (lo + (q.2 : Int), q.1))) && (decide (hi = lo + (offs.size : Int) - 1) && decide (((swt c).2 : Int) = pc + df))
      | .ok (.lookupswitch df ps, _) => decide ((swt c).1.map (fun q => (q.1, ((q.2 : Int) - pc))) = ps.toList) && (decide (((swt c).2 : Int) = pc + df) && (ps.toList.zip (ps.toList.drop 1)).all (fun (a, next) => a.1 < next.1))
      | _ => false)
    | 33 => dk i pc (.invokestatic acI) 3 nx && (Nat.beq (mK i) acO && (Nat.ble 1 (mF i) && Nat.ble 26 (mO i)))
    | 35 => dk i pc .dup2 1 nx
    | 34 => (match mxt_0[c]? with | some (k, ix, q) => dk i pc (.invokestatic ix) 3 nx && (Nat.beq k (mK i) && (q == (match a with | 0 => false | _ => true) && (Nat.ble 1 (mF i) && Nat.ble 21 (mO i)))) | none => false)
    | _ => true
