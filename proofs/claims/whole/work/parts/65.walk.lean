/-! the walk over the tree: what both do -/
def ha (P : Int) : Int := 768 + 32 * P
def bR (f : Nat → Int) (P : Int) : Int := if rd f (ha P + 33) = 3 then 1 else 0
def rwP (f : Nat → Int) (root P : Int) : Nat → Int := if P = 0 then tc f 0 root else tc f (bR f P) (u4 f (ha P + 52))
def rkP (f : Nat → Int) (K0 : Nat) (P : Int) : Nat := if P = 0 then K0 else ((u4 f (ha P + 56) + 127) / 128).toNat
def Lk (f g : Nat → Int) (hd tl hd' tl' : Int) : Prop := rd f (hd + 35) = rd f (hd' + 35) ∧ ∀ i : Nat, (i : Int) < rd f (hd + 35) → g (lt f tl i).toNat = g (lt f tl' i).toNat
def up (s : AH) (o : Nat) (F : Nat → Int) : AH := fun x => if x = o then F else s x
theorem up_s (s : AH) (o : Nat) (F : Nat → Int) : up s o F o = F := if_pos rfl
theorem up_n (s : AH) {o x : Nat} (F : Nat → Int) (h : x ≠ o) : up s o F x = s x := if_neg h
/-- one number of a row -/
def st (a : Nat → Int) (j : Nat) (v : Int) : Nat → Int := fun x => if x = j then v else a x
theorem st_s (a : Nat → Int) (j : Nat) (v : Int) : st a j v j = v := if_pos rfl
theorem st_n (a : Nat → Int) {j x : Nat} (v : Int) (h : x ≠ j) : st a j v x = a x := if_neg h
noncomputable def owr (a : Nat → Int) (K : Nat) (t : Nat → Int) (P : Int) : Nat → Int := fun c => @ite _ (∃ i, i < K ∧ t i = (c : Int)) (Classical.propDecidable _) P (a c)
theorem owr_y {a : Nat → Int} {K : Nat} {t : Nat → Int} {P : Int} {c : Nat} (h : ∃ i, i < K ∧ t i = (c : Int)) : owr a K t P c = P := if_pos h
theorem owr_n {a : Nat → Int} {K : Nat} {t : Nat → Int} {P : Int} {c : Nat} (h : ¬ ∃ i, i < K ∧ t i = (c : Int)) : owr a K t P c = a c := if_neg h
/-- a SET is taken: s 0 owners, 1 how many, 2 places, 3 parents, 4 ENTRIES, 5 what is wanted, 6 mended -/
noncomputable def acc (s : AH) (K : Nat) (t : Nat → Int) (P k e : Int) (w : Nat → Int) (m : Int) : AH := up (up (up (up (up (up (up s 0 (owr (s 0) K t P)) 1 (st (s 1) 0 (s 1 0 + 1))) 2 (st (s 2) (s 1 0).toNat P)) 3 (st (s 3) (s 1 0).toNat k)) 4 (st (s 4) (s 1 0).toNat e)) 5 w) 6 (st (s 6) 0 m)
def edt (s : AH) (w : Nat → Int) (m : Int) : AH := up (up s 5 w) 6 (st (s 6) 0 m)
def un (t : Int) : Int := if t = 128 then 1 else t - 128
def uns (w f : Nat → Int) (r : Nat → Int) (e : Int) : Nat → Nat → Int
  | 0 => w
  | i + 1 => wb (uns w f r e i) (ea r (e + i)) 1 (un (rd f (ea r (e + i))))
section WALK
variable (f g : Nat → Int) (n root : Int) (K0 : Nat) (md : Int)
def dirJ (s : AH) (j : Nat) : Prop := j = 0 ∨ isD f (ha (s 2 j))
def rwJ (s : AH) (j : Nat) : Nat → Int := rwP f root (s 2 j)
def rkJ (s : AH) (j : Nat) : Nat := rkP f K0 (s 2 j)
def I1 (s : AH) : Prop := 1 ≤ s 1 0 ∧ s 2 0 = 0 ∧ ∀ j : Nat, 1 ≤ j → (j : Int) < s 1 0 → 0 < s 2 j
def I2 (s : AH) : Prop := ∀ j : Nat, (j : Int) < s 1 0 → ∀ i, i < rkJ f K0 s j → clu n (rwJ f root s j i) ∧ s 0 (rwJ f root s j i).toNat = s 2 j
def I3 (s : AH) : Prop := ∀ j : Nat, (j : Int) < s 1 0 → ∀ i i', i < i' → i' < rkJ f K0 s j → rwJ f root s j i ≠ rwJ f root s j i'
def I4 (s : AH) : Prop := ∀ j : Nat, 1 ≤ j → (j : Int) < s 1 0 → (0 ≤ s 3 j ∧ s 3 j < s 1 0) ∧ dirJ f s (s 3 j).toNat ∧ (0 ≤ s 4 j ∧ s 4 j % 2 = 0) ∧ s 2 j = 4 * rwJ f root s (s 3 j).toNat (s 4 j / 4).toNat + s 4 j % 4 ∧ SetOK f g n (ea (rwJ f root s (s 3 j).toNat) (s 4 j)) (ea (rwJ f root s (s 3 j).toNat) (s 4 j + 2)) (4 * (rkJ f K0 s (s 3 j).toNat : Int) - s 4 j)
def I5 (s : AH) : Prop := ∀ j j' : Nat, j < j' → (j' : Int) < s 1 0 → s 2 j ≠ s 2 j'
def I6 (s : AH) : Prop := ∀ j : Nat, (j : Int) < s 1 0 → (md = 0 ∨ j = 0) → (j = 0 ∨ bR f (s 2 j) = 0) → 0 < rkJ f K0 s j → rwJ f root s j (rkJ f K0 s j) = 4294967295
def I7 (s : AH) : Prop := ∀ j j' : Nat, 1 ≤ j → j < j' → (j' : Int) < s 1 0 → s 3 j = s 3 j' → ¬ Lk f g (ea (rwJ f root s (s 3 j).toNat) (s 4 j)) (ea (rwJ f root s (s 3 j).toNat) (s 4 j + 2)) (ea (rwJ f root s (s 3 j).toNat) (s 4 j')) (ea (rwJ f root s (s 3 j).toNat) (s 4 j' + 2))
def inS (s : AH) (k : Nat) (q : Int) : Prop := ∃ j : Nat, 1 ≤ j ∧ (j : Int) < s 1 0 ∧ s 3 j = k ∧ s 4 j = q
def I8 (s : AH) (k : Nat) (e : Int) : Prop := (∀ q : Int, 0 ≤ q → q < e → (rd (s 5) (ea (rwJ f root s k) q) = 133 ↔ inS s k q)) ∧ (md = 0 → ∀ d : Nat, d < k → (d : Int) < s 1 0 → dirJ f s d → ∀ q : Int, 0 ≤ q → q < 4 * (rkJ f K0 s d : Int) → rd f (ea (rwJ f root s d) q) = 133 → inS s d q)
def I9 (s : AH) (k : Nat) (e : Int) : Prop := (md = 0 → s 5 = f) ∧ By (s 5) ∧ (∀ a : Nat, a < 512 ∨ (920 ≤ a ∧ a < 1024) → s 5 a = f a) ∧ (∀ c : Int, 0 ≤ c → c ≤ 101 → (∀ j : Int, 0 ≤ j → j < 4 → rd (s 5) (512 + 4 * c + j) = rd f (512 + 4 * c + j)) ∨ ∃ j : Nat, 1 ≤ j ∧ (j : Int) < s 1 0 ∧ bR f (s 2 j) = 0 ∧ 0 < rkJ f K0 s j ∧ c = rwJ f root s j (rkJ f K0 s j - 1)) ∧ (∀ a : Int, 1024 ≤ a → a < 13824 → a % 32 ≠ 0 → rd (s 5) a = rd f a) ∧ (∀ j : Nat, k ≤ j → (j : Int) < s 1 0 → dirJ f s j → ∀ q : Int, 0 ≤ q → q < 4 * (rkJ f K0 s j : Int) → (j = k → e ≤ q) → rd (s 5) (ea (rwJ f root s j) q) = rd f (ea (rwJ f root s j) q)) ∧ ∀ c : Int, clu n c → s 0 c.toNat = -1 → ∀ a : Int, ca c ≤ a → a < ca c + 128 → rd (s 5) a = rd f a
def I10 (s : AH) (k : Nat) (e : Int) : Prop := ∀ j : Nat, 1 ≤ j → (j : Int) < s 1 0 → s 3 j < k ∨ (s 3 j = k ∧ s 4 j + 3 ≤ e)
def SI (s : AH) (k : Nat) (e : Int) : Prop := I1 s ∧ I2 f n root K0 s ∧ I3 f root K0 s ∧ I4 f g n root K0 s ∧ I5 s ∧ I6 f root K0 md s ∧ I7 f g root s ∧ I8 f root K0 md s k e ∧ I9 f n root K0 md s k e ∧ I10 s k e
/-- the FAULT of a SET of P at ENTRY e of DIRECTORY k -/
def brk (P : Int) : Prop := ∃ i, i < rkP f K0 P ∧ ¬ clu n (rwP f root P i)
def opn (P : Int) : Prop := bR f P = 0 ∧ 0 < rkP f K0 P ∧ rwP f root P (rkP f K0 P) ≠ 4294967295
def mtd (s : AH) (P : Int) : Prop := ∃ i, i < rkP f K0 P ∧ s 0 (rwP f root P i).toNat ≠ -1
def dup (P : Int) : Prop := ∃ i i', i < i' ∧ i' < rkP f K0 P ∧ rwP f root P i = rwP f root P i'
def lik (s : AH) (k : Nat) (e : Int) : Prop := ∃ j : Nat, 1 ≤ j ∧ (j : Int) < s 1 0 ∧ s 3 j = k ∧ Lk f g (ea (rwJ f root s k) e) (ea (rwJ f root s k) (e + 2)) (ea (rwJ f root s k) (s 4 j)) (ea (rwJ f root s k) (s 4 j + 2))
def FC (s : AH) (k : Nat) (e P F : Int) : Prop := (F = 6 ∧ (brk f n root K0 P ∨ (opn f root K0 P ∧ md = 0))) ∨ (F = 7 ∧ ¬ (brk f n root K0 P ∨ (opn f root K0 P ∧ md = 0)) ∧ (mtd f root K0 s P ∨ (opn f root K0 P ∧ dup f root K0 P))) ∨ (¬ (brk f n root K0 P ∨ (opn f root K0 P ∧ md = 0)) ∧ ¬ (mtd f root K0 s P ∨ (opn f root K0 P ∧ dup f root K0 P)) ∧ ((F = 8 ∧ lik f g root s k e) ∨ (F = 0 ∧ ¬ lik f g root s k e)))
/-- one ENTRY: on it goes, or it is the FAULT -/
def DG (k : Nat) (e ov : Int) (s : AH) (e' ov' : Int) (s' : AH) : Prop :=
  e < 4 * (rkJ f K0 s k : Int) ∧ SI f g n root K0 md s k e ∧
  ((rd f (ea (rwJ f root s k) e) < 128 ∧ ¬ (ov = 1 ∧ rd f (ea (rwJ f root s k) e) ≠ 0) ∧ e' = e + 1 ∧ ov' = (if rd f (ea (rwJ f root s k) e) = 0 then 1 else ov) ∧ s' = s) ∨
   (ov = 1 ∧ rd f (ea (rwJ f root s k) e) ≠ 0 ∧ md = 1 ∧ e' = e + 1 ∧ ov' = 1 ∧ s' = edt s (wb (s 5) (ea (rwJ f root s k) e) 1 0) (s 6 0 + 1)) ∨
   (ov = 0 ∧ 128 ≤ rd f (ea (rwJ f root s k) e) ∧ ov' = 0 ∧
    ((¬ (e % 2 = 0 ∧ SetOK f g n (ea (rwJ f root s k) e) (ea (rwJ f root s k) (e + 2)) (4 * (rkJ f K0 s k : Int) - e)) ∧ md = 1 ∧ e' = e + 1 ∧ s' = edt s (wb (s 5) (ea (rwJ f root s k) e) 1 (un (rd f (ea (rwJ f root s k) e)))) (s 6 0 + 1)) ∨
     (e % 2 = 0 ∧ SetOK f g n (ea (rwJ f root s k) e) (ea (rwJ f root s k) (e + 2)) (4 * (rkJ f K0 s k : Int) - e) ∧ e' = e + (1 + rd f (ea (rwJ f root s k) e + 1)) ∧
      ∃ F, FC f g n root K0 md s k e (4 * rwJ f root s k (e / 4).toNat + e % 4) F ∧
      ((F ≠ 0 ∧ md = 1 ∧ s' = edt s (uns (s 5) f (rwJ f root s k) e (1 + rd f (ea (rwJ f root s k) e + 1)).toNat) (s 6 0 + 1)) ∨
       (F = 0 ∧ ¬ opn f root K0 (4 * rwJ f root s k (e / 4).toNat + e % 4) ∧ s' = acc s (rkP f K0 (4 * rwJ f root s k (e / 4).toNat + e % 4)) (rwP f root (4 * rwJ f root s k (e / 4).toNat + e % 4)) (4 * rwJ f root s k (e / 4).toNat + e % 4) k e (s 5) (s 6 0)) ∨
       (F = 0 ∧ opn f root K0 (4 * rwJ f root s k (e / 4).toNat + e % 4) ∧ s' = acc s (rkP f K0 (4 * rwJ f root s k (e / 4).toNat + e % 4)) (rwP f root (4 * rwJ f root s k (e / 4).toNat + e % 4)) (4 * rwJ f root s k (e / 4).toNat + e % 4) k e (wb (s 5) (512 + 4 * rwP f root (4 * rwJ f root s k (e / 4).toNat + e % 4) (rkP f K0 (4 * rwJ f root s k (e / 4).toNat + e % 4) - 1)) 4 4294967295) (s 6 0 + 1)))))))
def DN (k : Nat) (e ov : Int) (s : AH) (F : Int) : Prop :=
  e < 4 * (rkJ f K0 s k : Int) ∧ SI f g n root K0 md s k e ∧ md = 0 ∧
  ((ov = 1 ∧ rd f (ea (rwJ f root s k) e) ≠ 0 ∧ F = 5) ∨
   (ov = 0 ∧ 128 ≤ rd f (ea (rwJ f root s k) e) ∧
    ((¬ (e % 2 = 0 ∧ SetOK f g n (ea (rwJ f root s k) e) (ea (rwJ f root s k) (e + 2)) (4 * (rkJ f K0 s k : Int) - e)) ∧ F = 5) ∨
     (e % 2 = 0 ∧ SetOK f g n (ea (rwJ f root s k) e) (ea (rwJ f root s k) (e + 2)) (4 * (rkJ f K0 s k : Int) - e) ∧ FC f g n root K0 md s k e (4 * rwJ f root s k (e / 4).toNat + e % 4) F ∧ F ≠ 0))))
/-- one DIRECTORY: it ends well in z, or with the FAULT F x y -/
def DW (k : Nat) (F x y : Int) (z : AH) (e ov : Int) (s : AH) : Prop := ∀ Q : Int → Int → AH → Prop,
  (∀ e ov s, F = 0 → 4 * (rkJ f K0 s k : Int) ≤ e → SI f g n root K0 md s k e → s = z → Q e ov s) →
  (∀ e ov s, DN f g n root K0 md k e ov s F → F ≠ 0 → x = rwJ f root s k (e / 4).toNat → y = e % 4 → s = z → Q e ov s) →
  (∀ e ov s e' ov' s', DG f g n root K0 md k e ov s e' ov' s' → Q e' ov' s' → Q e ov s) → Q e ov s
/-- the tree -/
def TW (F x y : Int) (z : AH) (k : Nat) (s : AH) : Prop := ∀ Q : Nat → AH → Prop,
  (∀ (k : Nat) (s : AH), F = 0 → s 1 0 ≤ (k : Int) → SI f g n root K0 md s k 0 → s = z → Q k s) →
  (∀ (k : Nat) (s : AH), (k : Int) < s 1 0 → ¬ dirJ f s k → SI f g n root K0 md s k 0 → Q (k + 1) s → Q k s) →
  (∀ (k : Nat) (s : AH), (k : Int) < s 1 0 → dirJ f s k → DW f g n root K0 md k F x y z (if k = 0 then 2 else 0) 0 s → F ≠ 0 → Q k s) →
  (∀ (k : Nat) (s s' : AH), (k : Int) < s 1 0 → dirJ f s k → DW f g n root K0 md k 0 0 0 s' (if k = 0 then 2 else 0) 0 s → Q (k + 1) s' → Q k s) → Q k s
theorem DW_end {k : Nat} {z : AH} {e ov x y : Int} (h1 : 4 * (rkJ f K0 z k : Int) ≤ e) (h2 : SI f g n root K0 md z k e) : DW f g n root K0 md k 0 x y z e ov z := fun Q a _ _ => a e ov z rfl h1 h2 rfl
theorem DW_no {k : Nat} {z : AH} {e ov F : Int} (h1 : DN f g n root K0 md k e ov z F) (h2 : F ≠ 0) : DW f g n root K0 md k F (rwJ f root z k (e / 4).toNat) (e % 4) z e ov z := fun Q _ b _ => b e ov z h1 h2 rfl rfl rfl
theorem DW_go {k : Nat} {F x y : Int} {z : AH} {e ov e' ov' : Int} {s s' : AH} (h1 : DG f g n root K0 md k e ov s e' ov' s') (h2 : DW f g n root K0 md k F x y z e' ov' s') : DW f g n root K0 md k F x y z e ov s := fun Q a b c => c e ov s e' ov' s' h1 (h2 Q a b c)
theorem TW_end {k : Nat} {z : AH} {x y : Int} (h1 : z 1 0 ≤ (k : Int)) (h2 : SI f g n root K0 md z k 0) : TW f g n root K0 md 0 x y z k z := fun Q a _ _ _ => a k z rfl h1 h2 rfl
theorem TW_skip {k : Nat} {F x y : Int} {z s : AH} (h1 : (k : Int) < s 1 0) (h2 : ¬ dirJ f s k) (h3 : SI f g n root K0 md s k 0) (h4 : TW f g n root K0 md F x y z (k + 1) s) : TW f g n root K0 md F x y z k s := fun Q a b c d => b k s h1 h2 h3 (h4 Q a b c d)
theorem TW_no {k : Nat} {F x y : Int} {z s : AH} (h1 : (k : Int) < s 1 0) (h2 : dirJ f s k) (h3 : DW f g n root K0 md k F x y z (if k = 0 then 2 else 0) 0 s) (h4 : F ≠ 0) : TW f g n root K0 md F x y z k s := fun Q _ _ c _ => c k s h1 h2 h3 h4
theorem TW_dir {k : Nat} {F x y : Int} {z s s' : AH} (h1 : (k : Int) < s 1 0) (h2 : dirJ f s k) (h3 : DW f g n root K0 md k 0 0 0 s' (if k = 0 then 2 else 0) 0 s) (h4 : TW f g n root K0 md F x y z (k + 1) s') : TW f g n root K0 md F x y z k s := fun Q a b c d => d k s s' h1 h2 h3 (h4 Q a b c d)
end WALK
