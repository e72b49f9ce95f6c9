/-! the world of the 60 things, and what an instruction does with it -/
def fv (o : Nat) (f : Nat → Int) (k : Nat) : AV := match fd_k (ob_kd o) k with
  | 3 => vR (ob_rf o k)
  | 2 => vL (f k)
  | _ => vI (f k)
def ob_cell (cy : Nat → ClassId) (ad : Nat → Nat) (o : Nat) (f : Nat → Int) : va_E :=
  if ob_kd o < 13 then .inr (ob_kd o, (List.range (fd_n (ob_kd o))).map (fun k => cv ad (fv o f k)))
  else if ob_kd o = 15 then .inl (cy 15, ob_ln o, .inr (.inl (fun k => Int64.ofInt (f k))))
  else .inl (cy (ob_kd o), ob_ln o, .inl (fun k => Int32.ofInt (f k)))
def wd (cy : Nat → ClassId) (ad : Nat → Nat) (h : AH) : va_W := (List.range 60).map (fun o => (ad o, ob_cell cy ad o (h o)))
def wtys (cy : Nat → ClassId) : List (ClassId × FieldType) := [(cy 13, .byte), (cy 14, .int), (cy 15, .long), (cy 16, .boolean)]
def hs (h : AH) (o k : Nat) (z : Int) : AH := fun o' => if o' = o then (fun k' => if k' = k then z else h o k') else h o'
theorem wd_get {cy : Nat → ClassId} {ad : Nat → Nat} {h : AH} {o : Nat} (ho : o < 60) : (wd cy ad h)[o]? = some (ad o, ob_cell cy ad o (h o)) := by
  simp [wd, ho]
theorem wd_set {cy : Nat → ClassId} {ad : Nat → Nat} {h h' : AH} {o : Nat} {e : va_E} (he : e = ob_cell cy ad o (h' o)) (hh : ∀ q, q ≠ o → h' q = h q) : (wd cy ad h).set o (ad o, e) = wd cy ad h' := by
  apply List.ext_getElem?
  intro i
  by_cases hi : i < 60
  · rw [List.getElem?_set]
    by_cases hq : o = i
    · subst hq
      rw [if_pos rfl, wd_get hi, he]
      simp [wd, hi]
    · rw [if_neg hq, wd_get hi, wd_get hi, hh i (fun q => hq q.symm)]
  · rw [List.getElem?_eq_none (by simp [wd]; omega), List.getElem?_eq_none (by simp [wd]; omega)]
theorem hs_ne (h : AH) (o k : Nat) (z : Int) (q : Nat) (hq : q ≠ o) : hs h o k z q = h q := if_neg hq
theorem hs_eq (h : AH) (o k : Nat) (z : Int) : hs h o k z o = fun k' => if k' = k then z else h o k' := if_pos rfl
/-- launch, classes' numbers, slots, array classes, addresses -/
abbrev GG : Type := Launch × (Nat → ClassId) × (Nat → Nat → Nat) × (Nat → ClassId) × (Nat → Nat)
def gA (G : GG) : Nat → Prop := fun q => ∃ o, o < 60 ∧ q = G.2.2.2.2 o
abbrev gW (G : GG) (h : AH) : va_W := wd G.2.2.2.1 G.2.2.2.2 h
abbrev gc (G : GG) : AV → Value := cv G.2.2.2.2
abbrev gD (G : GG) : va_G := (G.2.1, G.2.2.1)
def gB (G : GG) (h : AH) (t : State) : Prop := va_P (gD G) vwCl (gW G h) t.heap ∧ va_K (gD G) vwCl (wtys G.2.2.2.1) t ∧ va_D (gA G) (gW G h)
def gQ (G : GG) (post : Option AV → AH → Prop) : Array Value → State → Outcome → State → Prop := fun _ st oc t =>
  (∃ (r : Option AV) (h : AH), oc = .returned (r.map (gc G)) ∧ post r h ∧ gB G h t) ∧ va_F (gA G) st t
/-- the words of the tables that go through a call -/
def gtb : List Cond := lw_tbl.filter goodWord
theorem inG {w : Cond} (h : w ∈ lw_tbl) (hg : goodWord w = true) : w ∈ gtb := List.mem_filter.mpr ⟨h, hg⟩
def isNst : Cond → Bool
  | .fieldLinkNest .. => true
  | _ => false
/-- the links to a nest mate's private fields -/
def nwt : List Cond := lw_tbl.filter isNst
def nW (U : State) : Prop := ∀ w ∈ nwt, va_Nw w U
theorem inN {w : Cond} (h : w ∈ lw_tbl) (hg : isNst w = true) : w ∈ nwt := List.mem_filter.mpr ⟨h, hg⟩
theorem nW_warm {s U : State} (hW : s.WarmedH U.vm) (h : nW s) : nW U := by
  intro w hw
  have h2 := (List.mem_filter.mp hw).2
  have h3 := h w hw
  cases w <;> first | exact va_Nw.warmF hW h3 | exact absurd h2 (by simp [isNst])
theorem nW_same {u U : State} (hv : u.vm = U.vm) (h : nW u) : nW U := by
  intro w hw
  have h2 := (List.mem_filter.mp hw).2
  have h3 := h w hw
  cases w <;> first | exact va_Nw.same rfl hv h3 | exact absurd h2 (by simp [isNst])
abbrev mRm (i : Nat) : Room := { frames := mF i, cells := 0, slots := 0, locals := mO i }
/-- method i, called with these arguments over h, comes back with 'post' -/
def Runs (G : GG) (i : Nat) (as : List AV) (h : AH) (post : Option AV → AH → Prop) : Prop :=
  Met G.1 (mN i) (mW i :: gtb) (mRm i) (va_Pc (as.map (gc G)) (fun U => gB G h U ∧ nW U)) (gQ G post) 0 0 (gA G)
def pI (P : Int → AH → Prop) (r : Option AV) (h : AH) : Prop := match r with
  | some (.inl x) => P x h
  | _ => False
def pL (P : Int → AH → Prop) (r : Option AV) (h : AH) : Prop := match r with
  | some (.inr (.inl x)) => P x h
  | _ => False
def pV (P : AH → Prop) (r : Option AV) (h : AH) : Prop := match r with
  | none => P h
  | _ => False
def RunsI (G : GG) (i : Nat) (as : List AV) (h : AH) (P : Int → AH → Prop) : Prop := Runs G i as h (pI P)
def RunsL (G : GG) (i : Nat) (as : List AV) (h : AH) (P : Int → AH → Prop) : Prop := Runs G i as h (pL P)
def RunsV (G : GG) (i : Nat) (as : List AV) (h : AH) (P : AH → Prop) : Prop := Runs G i as h (pV P)
def LH (G : GG) (ls : List (Option AV)) (lsA : Array Slot) (n : Nat) : Prop := lsA.size = n ∧ lv_wf lsA ∧ ∀ (i : Nat) (v : AV), ls[i]? = some (some v) → lsA[i]? = some (Slot.val (gc G v))
def Cx (p : Program) (s : State) (m : MethodId) (args : Array Value) (meth : Method) (c : Code) (i : Nat) : Prop :=
  p.tables.exec = Jvm.exec ∧ c.code = mC i ∧ meth.sig.returnType = mR i ∧ c.maxLocals = mL i ∧ s.vm.findClass (mN i).cls = some m.cls ∧ (∀ w ∈ gtb, w.before args s = true) ∧ meth.locks = false ∧ i < 278 ∧ nW s
/-- method i at pc, with these locals and this stack over h, comes to its end with 'post' -/
def Go (G : GG) (post : Option AV → AH → Prop) (i pc : Nat) (ls : List (Option AV)) (st : List AV) (h : AH) : Prop :=
  ∀ (p : Program) (e : Env) (s : State) (m : MethodId) (args : Array Value) (below : List Frame) (meth : Method) (c : Code) (H : Heap) (locs : List Loc) (lsA : Array Slot),
    Cx p s m args meth c i → va_K (gD G) vwCl (wtys G.2.2.2.1) s → va_P (gD G) vwCl (gW G h) H → va_D (gA G) (gW G h) → va_S (gA G) s.heap H locs → LH G ls lsA (mL i) →
    W p G.1 e (mRm i) s m args below meth c H locs 0 0 (MQ below (gQ G post) args s 0 0 (gA G)) (F0 m pc lsA (st.map (gc G)))
def isLg : Option AV → Bool
  | some (.inr (.inl _)) => true
  | _ => false
/-- a long whose second half is at i is gone -/
def clr (ls : List (Option AV)) (i : Nat) : List (Option AV) := match i with
  | 0 => ls
  | j + 1 => match isLg (ls.getD j none) with
    | true => ls.set j none
    | false => ls
def st1 (ls : List (Option AV)) (i : Nat) (v : AV) : List (Option AV) := (clr ls i).set i (some v)
def st2 (ls : List (Option AV)) (i : Nat) (v : AV) : List (Option AV) := ((clr ls i).set i (some v)).set (i + 1) none
theorem clr_get {ls : List (Option AV)} {i j : Nat} {v : AV} (h : (clr ls i)[j]? = some (some v)) : ls[j]? = some (some v) ∧ ¬ (j + 1 = i ∧ isLg (some v) = true) := by
  unfold clr at h
  split at h
  · exact ⟨h, fun q => by omega⟩
  · rename_i k
    split at h
    · rename_i hk
      rw [List.getElem?_set] at h
      split at h
      · split at h <;> simp at h
      · exact ⟨h, fun q => by omega⟩
    · rename_i hk
      refine ⟨h, fun q => ?_⟩
      have hj : j = k := by omega
      subst hj
      rw [List.getD_eq_getElem?_getD, h] at hk
      simp [q.2] at hk
theorem st1_get {ls : List (Option AV)} {i j : Nat} {v w : AV} (h : (st1 ls i v)[j]? = some (some w)) : (j = i ∧ w = v) ∨ (j ≠ i ∧ ls[j]? = some (some w) ∧ ¬ (j + 1 = i ∧ isLg (some w) = true)) := by
  unfold st1 at h
  rw [List.getElem?_set] at h
  split at h
  · rename_i hij
    split at h
    · exact Or.inl ⟨hij.symm, by simpa using h.symm⟩
    · simp at h
  · have h2 := clr_get h
    right
    exact ⟨by omega, h2⟩
theorem st1_get' {ls : List (Option AV)} {i j : Nat} {v w : AV} (h : (st1 ls i v)[j]? = some (some w)) : (j = i ∧ w = v) ∨ (j ≠ i ∧ ls[j]? = some (some w) ∧ ¬ (j + 1 = i ∧ isLg (some w) = true)) := st1_get h
theorem st2_get {ls : List (Option AV)} {i j : Nat} {v w : AV} (h : (st2 ls i v)[j]? = some (some w)) : (j = i ∧ w = v) ∨ (j ≠ i ∧ j ≠ i + 1 ∧ ls[j]? = some (some w) ∧ ¬ (j + 1 = i ∧ isLg (some w) = true)) := by
  unfold st2 at h
  rw [List.getElem?_set] at h
  split at h
  · split at h <;> simp at h
  · rename_i h1
    rcases st1_get h with a | a
    · exact Or.inl a
    · exact Or.inr ⟨a.1, by omega, a.2⟩
/-- the pairs that the kit's rows take -/
def prs (G : GG) : Nat → List (Option AV) → List (Nat × Value)
  | _, [] => []
  | i, none :: r => prs G (i + 1) r
  | i, some v :: r => (i, gc G v) :: prs G (i + 1) r
theorem prs_mem {G : GG} : ∀ (ls : List (Option AV)) (n : Nat) (q : Nat × Value), q ∈ prs G n ls ↔ ∃ i v, ls[i]? = some (some v) ∧ q = (n + i, gc G v)
  | [], n, q => by simp [prs]
  | none :: r, n, q => by
    rw [prs, prs_mem r (n + 1) q]
    constructor
    · rintro ⟨i, v, a, b⟩
      exact ⟨i + 1, v, by simpa using a, by rw [b]; congr 1; omega⟩
    · rintro ⟨i, v, a, b⟩
      cases i with
      | zero => simp at a
      | succ i => exact ⟨i, v, by simpa using a, by rw [b]; congr 1; omega⟩
  | some w :: r, n, q => by
    rw [prs, List.mem_cons, prs_mem r (n + 1) q]
    constructor
    · rintro (a | ⟨i, v, a, b⟩)
      · exact ⟨0, w, by simp, by simpa using a⟩
      · exact ⟨i + 1, v, by simpa using a, by rw [b]; congr 1; omega⟩
    · rintro ⟨i, v, a, b⟩
      cases i with
      | zero => simp at a; subst a; exact Or.inl (by simpa using b)
      | succ i => exact Or.inr ⟨i, v, by simpa using a, by rw [b]; congr 1; omega⟩
theorem LH.has {G : GG} {ls : List (Option AV)} {lsA : Array Slot} {n : Nat} (h : LH G ls lsA n) : lv_has lsA n (prs G 0 ls) := by
  refine ⟨h.1, h.2.1, fun q hq => ?_⟩
  obtain ⟨i, v, a, rfl⟩ := (prs_mem ls 0 q).mp hq
  rw [Nat.zero_add]
  exact h.2.2 i v a
theorem cv_cat {ad : Nat → Nat} {v : AV} : (cv ad v).category = if isLg (some v) = true then 2 else 1 := by
  rcases v with z | z | o <;> rfl
theorem LH.st1 {G : GG} {ls : List (Option AV)} {lsA' : Array Slot} {n i : Nat} {v : AV} (h : lv_has lsA' n ((i, gc G v) :: (prs G 0 ls).filter (fun q => !(q.1 == i) && !(q.1 + 1 == i && q.2.category == 2)))) : LH G (st1 ls i v) lsA' n := by
  refine ⟨h.1, h.2.1, fun j w hj => ?_⟩
  rcases st1_get hj with ⟨rfl, rfl⟩ | ⟨a, b, c⟩
  · exact h.2.2 _ List.mem_cons_self
  · refine h.2.2 (j, gc G w) (List.mem_cons_of_mem _ (List.mem_filter.mpr ⟨(prs_mem ls 0 _).mpr ⟨j, w, b, by simp⟩, ?_⟩))
    have hc : (gc G w).category = if isLg (some w) = true then 2 else 1 := cv_cat
    simp only [hc]
    by_cases h2 : isLg (some w) = true
    · have : ¬ j + 1 = i := fun q => c ⟨q, h2⟩
      simp [a, this]
    · simp [a, h2]
theorem LH.st2 {G : GG} {ls : List (Option AV)} {lsA' : Array Slot} {n i : Nat} {v : AV} (h : lv_has lsA' n ((i, gc G v) :: (prs G 0 ls).filter (fun q => !(q.1 == i) && (!(q.1 == i + 1) && !(q.1 + 1 == i && q.2.category == 2))))) : LH G (st2 ls i v) lsA' n := by
  refine ⟨h.1, h.2.1, fun j w hj => ?_⟩
  rcases st2_get hj with ⟨rfl, rfl⟩ | ⟨a, a2, b, c⟩
  · exact h.2.2 _ List.mem_cons_self
  · refine h.2.2 (j, gc G w) (List.mem_cons_of_mem _ (List.mem_filter.mpr ⟨(prs_mem ls 0 _).mpr ⟨j, w, b, by simp⟩, ?_⟩))
    have hc : (gc G w).category = if isLg (some w) = true then 2 else 1 := cv_cat
    simp only [hc]
    by_cases h2 : isLg (some w) = true
    · have : ¬ j + 1 = i := fun q => c ⟨q, h2⟩
      simp [a, a2, this]
    · simp [a, a2, h2]
/-! code as a table: (cut, op, a, b, c, z, next) -/
abbrev KT : Type := Nat → List (Option AV) → List AV → AH → Prop
def br (c t f : Prop) : Prop := (c → t) ∧ (¬ c → f)
def brC (a : Nat) (x y : Int) (t f : Prop) : Prop := match a with
  | 0 => br (x = y) t f
  | 1 => br (x = y) f t
  | 2 => br (x < y) t f
  | 3 => br (y ≤ x) t f
  | 4 => br (y < x) t f
  | _ => br (x ≤ y) t f
def swC (K : Nat → Prop) (x : Int) (d : Nat) : List (Int × Nat) → Prop
  | [] => K d
  | (k, t) :: r => br (x = k) (K t) (swC K x d r)
def ibin (a : Nat) (x y : Int) : Int := match a with
  | 0 => x + y
  | 1 => x - y
  | 2 => x * y
  | 3 => bA x y
  | 4 => bO x y
  | 5 => bX x y
  | 6 => sLI x y
  | 7 => sRI x y
  | _ => sUI x y
def lbin (a : Nat) (x y : Int) : Int := match a with
  | 0 => x + y
  | 1 => x - y
  | 2 => x * y
  | 3 => bAL x y
  | 4 => bOL x y
  | _ => bXL x y
def lsh (a : Nat) (x y : Int) : Int := match a with
  | 0 => sLL x y
  | 1 => sRL x y
  | _ => sUL x y
/-- a number below 60 becomes a literal -/
def frc (n : Nat) (k : Nat → Prop) : Prop := match n with
  | 0 => k 0
  | 1 => k 1
  | 2 => k 2
  | 3 => k 3
  | 4 => k 4
  | 5 => k 5
  | 6 => k 6
  | 7 => k 7
  | 8 => k 8
  | 9 => k 9
  | 10 => k 10
  | 11 => k 11
  | 12 => k 12
  | 13 => k 13
  | 14 => k 14
  | 15 => k 15
  | 16 => k 16
  | 17 => k 17
  | 18 => k 18
  | 19 => k 19
  | 20 => k 20
  | 21 => k 21
  | 22 => k 22
  | 23 => k 23
  | 24 => k 24
  | 25 => k 25
  | 26 => k 26
  | 27 => k 27
  | 28 => k 28
  | 29 => k 29
  | 30 => k 30
  | 31 => k 31
  | 32 => k 32
  | 33 => k 33
  | 34 => k 34
  | 35 => k 35
  | 36 => k 36
  | 37 => k 37
  | 38 => k 38
  | 39 => k 39
  | 40 => k 40
  | 41 => k 41
  | 42 => k 42
  | 43 => k 43
  | 44 => k 44
  | 45 => k 45
  | 46 => k 46
  | 47 => k 47
  | 48 => k 48
  | 49 => k 49
  | 50 => k 50
  | 51 => k 51
  | 52 => k 52
  | 53 => k 53
  | 54 => k 54
  | 55 => k 55
  | 56 => k 56
  | 57 => k 57
  | 58 => k 58
  | 59 => k 59
  | _ => False
theorem frc_of {n : Nat} {k : Nat → Prop} (h : frc n k) : n < 60 ∧ k n := by
  unfold frc at h
  split at h
  all_goals first | exact ⟨by decide, h⟩ | exact h.elim
/-- which array an element instruction (0 iaload, 1 baload, 2 laload) goes with -/
def akOk (a k : Nat) : Bool := match a, k with
  | 0, 14 => true
  | 1, 13 => true
  | 1, 16 => true
  | 2, 15 => true
  | _, _ => false
