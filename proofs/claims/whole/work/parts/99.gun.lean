/-! a SET goes: ENTRIES are unused -/
def uu (w : Nat → Int) (hd tl k : Int) : Nat → Int := if k = 3 then wb (wb (wb (wb w hd 1 5) (hd + 32) 1 64) tl 1 65) (tl + 32) 1 65 else wb (wb (wb w hd 1 5) (hd + 32) 1 64) tl 1 65
theorem By_un {w : Nat → Int} {hd tl k : Int} (h : By w) : By (uu w hd tl k) := by
  unfold uu
  split
  · exact By_wb (By_wb (By_wb (By_wb h)))
  · exact By_wb (By_wb (By_wb h))
theorem un_ne {w : Nat → Int} {hd tl k x : Int} (h0 : 0 ≤ hd) (t0 : 0 ≤ tl) (x0 : 0 ≤ x) (h : ¬ (x = hd ∨ x = hd + 32 ∨ x = tl ∨ (k = 3 ∧ x = tl + 32))) : rd (uu w hd tl k) x = rd w x := by
  unfold uu
  split
  · rw [rd_wb_ne (by omega) x0 (by omega), rd_wb_ne (by omega) x0 (by omega), rd_wb_ne (by omega) x0 (by omega), rd_wb_ne (by omega) x0 (by omega)]
  · rw [rd_wb_ne (by omega) x0 (by omega), rd_wb_ne (by omega) x0 (by omega), rd_wb_ne (by omega) x0 (by omega)]
theorem rd_wb1 {w : Nat → Int} {a v : Int} (a0 : 0 ≤ a) : rd (wb w a 1 v) a = v % 256 := by
  rw [rd_wb a0 a0, if_pos (by omega), show (a - a).toNat = 0 by omega, Int.pow_zero, Int.ediv_one]
theorem un_0 {w : Nat → Int} {hd tl k : Int} (h0 : 0 ≤ hd) (t0 : 0 ≤ tl) (ds : hd + 64 ≤ tl ∨ tl + 64 ≤ hd) : rd (uu w hd tl k) hd = 5 ∧ rd (uu w hd tl k) (hd + 32) = 64 ∧ rd (uu w hd tl k) tl = 65 ∧ (k = 3 → rd (uu w hd tl k) (tl + 32) = 65) := by
  unfold uu
  split
  · refine ⟨?_, ?_, ?_, fun _ => ?_⟩
    · rw [rd_wb_ne (by omega) (by omega) (by omega), rd_wb_ne (by omega) (by omega) (by omega), rd_wb_ne (by omega) (by omega) (by omega), rd_wb1 (by omega)]; rfl
    · rw [rd_wb_ne (by omega) (by omega) (by omega), rd_wb_ne (by omega) (by omega) (by omega), rd_wb1 (by omega)]; rfl
    · rw [rd_wb_ne (by omega) (by omega) (by omega), rd_wb1 (by omega)]; rfl
    · rw [rd_wb1 (by omega)]; rfl
  · rename_i c
    refine ⟨?_, ?_, ?_, fun z => absurd z c⟩
    · rw [rd_wb_ne (by omega) (by omega) (by omega), rd_wb_ne (by omega) (by omega) (by omega), rd_wb1 (by omega)]; rfl
    · rw [rd_wb_ne (by omega) (by omega) (by omega), rd_wb1 (by omega)]; rfl
    · rw [rd_wb1 (by omega)]; rfl
section UN
variable {G : GG} {h : AH} {f g : Nat → Int} {n root mp : Int} {t R : AH}
theorem E_unE {P : AH → Prop} {x : Int} (hd : Dk h) (x0 : 0 ≤ x) (x1 : x < 13824) (ty : 129 ≤ rd (h 3) x) (H : ∀ h', Upd h h' (wb (h 3) x 1 (rd (h 3) x - 128)) → P h') : RunsV G 108 [vR 10, vI x] h P := by
  have b := hd.2.1.rd x0 x1
  apply q_E_unuseEntry
  refine D_get x0 x1 ?_
  rw [mm_0, wI_id (z := rd (h 3) x - 128) (by omega) (by omega), wI_id (z := (1 : Int)) (by omega) (by omega), if_neg (by omega)]
  exact D_wb1 hd x0 x1 H
theorem E_unS {P : AH → Prop} {x tl : Int} (hd : Dk h) (x0 : 0 ≤ x) (x1 : x + 64 ≤ 13824) (t0 : 0 ≤ tl) (t1 : tl + 64 ≤ 13824) (ds : x + 64 ≤ tl ∨ tl + 64 ≤ x) (k3 : rd (h 3) (x + 1) = 2 ∨ rd (h 3) (x + 1) = 3) (e0 : rd (h 3) x = 133) (e1 : rd (h 3) (x + 32) = 192) (e2 : rd (h 3) tl = 193) (e3 : rd (h 3) (x + 1) = 3 → rd (h 3) (tl + 32) = 193) (H : ∀ h', Upd h h' (uu (h 3) x tl (rd (h 3) (x + 1))) → P h') : RunsV G 107 [vR 10, vI x, vI tl] h P := by
  apply q_E_unuse
  apply q_E_entries
  refine D_get (by omega) (by omega) ?_
  refine E_unE hd (by omega) (by omega) (by omega) (fun b1 u1 => ?_)
  have r1 : rd (b1 3) (x + 32) = 192 := by rw [u1.2.1, rd_wb_ne (by omega) (by omega) (by omega)]; exact e1
  refine E_unE u1.1 (by omega) (by omega) (by omega) (fun b2 u2 => ?_)
  rw [r1, u1.2.1, e0] at u2
  have r2 : rd (b2 3) tl = 193 := by rw [u2.2.1, rd_wb_ne (by omega) (by omega) (by omega), rd_wb_ne (by omega) (by omega) (by omega)]; exact e2
  generalize ek : rd (h 3) (x + 1) = k at k3 e3 H
  apply q_E_unuse_c24
  rw [wI_id (z := 1 + k - 2) (by omega) (by omega)]
  refine ⟨fun z => by rw [wI_0] at z; omega, fun _ => ?_⟩
  rw [show tl + 32 * 0 = tl by omega]
  refine E_unE u2.1 (by omega) (by omega) (by omega) (fun b3 u3 => ?_)
  rw [r2, u2.2.1] at u3
  apply q_E_unuse_c24
  rw [wI_id (z := 1 + k - 2) (by omega) (by omega), wI_id (z := 0 + 1) (by omega) (by omega)]
  rcases k3 with z | z
  · refine ⟨fun _ => H b3 ?_, fun y => by omega⟩
    unfold uu
    rw [if_neg (by omega)]
    exact (u1.trans u2).trans u3
  · refine ⟨fun y => by omega, fun _ => ?_⟩
    have r3 : rd (b3 3) (tl + 32) = 193 := by rw [u3.2.1, rd_wb_ne (by omega) (by omega) (by omega), rd_wb_ne (by omega) (by omega) (by omega), rd_wb_ne (by omega) (by omega) (by omega)]; exact e3 z
    rw [show tl + 32 * (0 + 1) = tl + 32 by omega]
    refine E_unE u3.1 (by omega) (by omega) (by omega) (fun b4 u4 => ?_)
    rw [r3, u3.2.1] at u4
    apply q_E_unuse_c24
    rw [wI_id (z := 1 + k - 2) (by omega) (by omega), wI_id (z := 0 + 1 + 1) (by omega) (by omega)]
    refine ⟨fun _ => H b4 ?_, fun y => by omega⟩
    unfold uu
    rw [if_pos z]
    exact ((u1.trans u2).trans u3).trans u4
theorem M_wtV {P : AH → Prop} {e v : Int} {w r : Nat → Int} {K : Nat} (h6 : Sb (h 36)) (hW : E (ub (h 36)) w) (hr : ∀ i, i < K → h 39 i = r i) (rr : ∀ i, i < K → 2 ≤ r i ∧ r i ≤ 101) (kk : K ≤ 102) (e0 : 0 ≤ e) (e1 : e < 4 * (K : Int)) (H : ∀ h', Sb (h' 36) → E (ub (h' 36)) (wb w (ea r e) 1 v) → (∀ o, o ≠ 36 → h' o = h o) → P h') : RunsV G 221 [vR 34, vI e, vI v] h P := by
  have er := ea_rng (r := r) (e := e) e0 (rr _ (by omega))
  apply q_M_wantType
  refine M_entryAt e0 (by omega) ?_
  rw [ea_cg hr e0 e1, wI_id (z := ea r e) (by omega) (by omega)]
  refine ⟨by omega, H _ (Sb_set h6 _ (w8_rng _).1 (w8_rng _).2) ?_ (fun o p => hs_o _ _ _ _ _ p)⟩
  rw [ub_w8, show (((ea r e).toNat : Nat) : Int) = ea r e by omega]
  exact E_wb hW _ _ _
theorem M_wantedType {P : Int → AH → Prop} {e : Int} {w r : Nat → Int} {K : Nat} (hW : E (ub (h 36)) w) (hr : ∀ i, i < K → h 39 i = r i) (rr : ∀ i, i < K → 2 ≤ r i ∧ r i ≤ 101) (kk : K ≤ 102) (e0 : 0 ≤ e) (e1 : e < 4 * (K : Int)) (H : P (rd w (ea r e)) h) : RunsI G 251 [vR 34, vI e] h P := by
  have er := ea_rng (r := r) (e := e) e0 (rr _ (by omega))
  apply q_M_wantedType
  refine M_entryAt e0 (by omega) ?_
  rw [ea_cg hr e0 e1, wI_id (z := ea r e) (by omega) (by omega)]
  refine ⟨by omega, ?_⟩
  rw [bA_255]
  have q := hW (ea r e).toNat (by omega)
  unfold ub at q
  rw [q]
  exact H
theorem M_unuse {P : AH → Prop} {w u : Nat → Int} {k kp jj : Nat} (vw : V u g n root mp t R) (h6 : Sb (h 36)) (hE : E (ub (h 35)) u) (hW : E (ub (h 36)) w) (h1 : h 34 1 = root) (j1 : 1 ≤ jj) (a : al t jj) (k2 : k < 200) (e42 : h 42 k = (kp : Int)) (e43 : h 43 k = t 3 jj) (e44 : h 44 k = 1 + rd u (ha (t 1 jj) + 1)) (kp0 : kp = 0 ↔ pt t jj = 0) (kp2 : kp < 200) (arr : 1 ≤ kp → h 46 kp = bR u (t 1 (pt t jj)) ∧ h 47 kp = u4 u (ha (t 1 (pt t jj)) + 56) ∧ h 48 kp = u4 u (ha (t 1 (pt t jj)) + 52)) (same : ∀ x, (ha (t 1 jj) ≤ x ∧ x < ha (t 1 jj) + 64) ∨ (ea (R (pt t jj)) (t 3 jj + 2) ≤ x ∧ x < ea (R (pt t jj)) (t 3 jj + 2) + 64) → rd w x = rd u x)
    (H : ∀ h', Sb (h' 36) → E (ub (h' 36)) (uu w (ha (t 1 jj)) (ea (R (pt t jj)) (t 3 jj + 2)) (rd u (ha (t 1 jj) + 1))) → (∀ k, k ≠ 17 → h' 34 k = h 34 k) → (∀ o, o ≠ 34 → o ≠ 36 → o ≠ 39 → h' o = h o) → P h') : RunsV G 257 [vR 34, vI (k : Int)] h P := by
  have nn := V_n vw
  have wp := vw.1.2.2.2.1 jj j1 a
  have ee := V_e vw j1 a
  have kn := V_K vw wp.1
  have wa := V_at vw j1 a
  have cl := V_cl vw j1 a
  have ra := ha_rng cl.1 nn.2
  have s3 := SetOK_3 (V_ln vw j1 a)
  have ds := V_ht vw j1 a j1 a
  have rr : ∀ i, i < Kt t (pt t jj) → 2 ≤ R (pt t jj) i ∧ R (pt t jj) i ≤ 101 := fun i hi => by
    have := (vw.1.2.1 _ wp.1 i hi).1
    unfold clu at this
    omega
  have tr := ea_rng (r := R (pt t jj)) (e := t 3 jj + 2) (by omega) (rr _ (by omega))
  generalize ek : rd u (ha (t 1 jj) + 1) = m at s3 e44 H
  generalize et : ea (R (pt t jj)) (t 3 jj + 2) = tl at s3 ds same H tr
  have ea0 : ea (R (pt t jj)) (t 3 jj) = ha (t 1 jj) := cl.2.2.1.symm
  have ea1 : ea (R (pt t jj)) (t 3 jj + 1) = ha (t 1 jj) + 32 := by rw [ea_s wp.2.1.1 wp.2.1.2, ea0]
  have ea3 : ea (R (pt t jj)) (t 3 jj + 3) = tl + 32 := by rw [show t 3 jj + 3 = t 3 jj + 2 + 1 by omega, ea_s (by omega) (by omega), et]
  apply q_M_unuse
  rw [wI_id (z := (k : Int)) (by omega) (by omega), show (k : Int).toNat = k by omega, e42]
  refine ⟨by omega, M_rowW vw hE h1 wp.1 kp0 kp2 arr (fun b rm k4 ob => ?_)⟩
  have kk := rm.2.1
  have stp : ∀ (i : Int) (c : AH) (x : Nat → Int) (ty : Int), 0 ≤ i → i ≤ m → (∀ o, o ≠ 36 → c o = b o) → Sb (c 36) → E (ub (c 36)) x → rd x (ea (R (pt t jj)) (t 3 jj + i)) = ty → 129 ≤ ty → ty < 256 → (∀ c2, (∀ o, o ≠ 36 → c2 o = b o) → Sb (c2 36) → E (ub (c2 36)) (wb x (ea (R (pt t jj)) (t 3 jj + i)) 1 (ty - 128)) → Go G (pV P) 257 12 [some (vR 34), some (vI (k : Int)), some (vI (i + 1))] [] c2) → Go G (pV P) 257 12 [some (vR 34), some (vI (k : Int)), some (vI i)] [] c := by
    intro i c x ty i0 i1 oc c6 cW ety t0 t1 cont
    apply q_M_unuse_c12
    rw [wI_id (z := (k : Int)) (by omega) (by omega), show (k : Int).toNat = k by omega, oc 44 (by decide), ob 44 (by decide) (by decide), e44, oc 43 (by decide), ob 43 (by decide) (by decide), e43, wI_id (z := 1 + m) (by omega) (by omega), wI_id (z := i) (by omega) (by omega)]
    refine ⟨by omega, fun z => by omega, fun _ => ⟨by omega, by omega, ?_⟩⟩
    refine M_wantedType (K := Kt t (pt t jj)) (r := R (pt t jj)) cW (fun i hi => by rw [oc 39 (by decide)]; exact rm.2.2 i hi) rr (by omega) (by omega) (by omega) ?_
    rw [ety, bA_127, show ty % 128 = ty - 128 by omega]
    refine M_wtV (K := Kt t (pt t jj)) (r := R (pt t jj)) c6 cW (fun i hi => by rw [oc 39 (by decide)]; exact rm.2.2 i hi) rr (by omega) (by omega) (by omega) (fun c2 c26 c2W oc2 => cont c2 (fun o p => (oc2 o p).trans (oc o p)) c26 c2W)
  have fin : ∀ (c : AH) (x : Nat → Int), (∀ o, o ≠ 36 → c o = b o) → Sb (c 36) → E (ub (c 36)) x → x = uu w (ha (t 1 jj)) tl m → Go G (pV P) 257 12 [some (vR 34), some (vI (k : Int)), some (vI (m + 1))] [] c := by
    intro c x oc c6 cW ex
    apply q_M_unuse_c12
    rw [wI_id (z := (k : Int)) (by omega) (by omega), show (k : Int).toNat = k by omega, oc 44 (by decide), ob 44 (by decide) (by decide), e44, wI_id (z := 1 + m) (by omega) (by omega), wI_id (z := m + 1) (by omega) (by omega)]
    refine ⟨by omega, fun _ => H c c6 (by rw [← ex]; exact cW) (fun k' p => by rw [oc 34 (by decide)]; exact k4 k' p) (fun o p q r => by rw [oc o q]; exact ob o p r), fun z => by omega⟩
  refine stp 0 b w 133 (by omega) (by omega) (fun _ _ => rfl) (by rw [ob 36 (by decide) (by decide)]; exact h6) (by rw [ob 36 (by decide) (by decide)]; exact hW) (by rw [show t 3 jj + 0 = t 3 jj by omega, ea0, same _ (by omega)]; exact s3.2.2.1) (by omega) (by omega) (fun c1 o1 s1 w1 => ?_)
  rw [show t 3 jj + 0 = t 3 jj by omega, ea0] at w1
  refine stp 1 c1 _ 192 (by omega) (by omega) o1 s1 w1 (by rw [ea1, rd_wb_ne (by omega) (by omega) (by omega), same _ (by omega)]; exact s3.2.2.2.1) (by omega) (by omega) (fun c2 o2 s2 w2 => ?_)
  rw [ea1] at w2
  refine stp 2 c2 _ 193 (by omega) (by omega) o2 s2 w2 (by rw [et, rd_wb_ne (by omega) (by omega) (by omega), rd_wb_ne (by omega) (by omega) (by omega), same _ (by omega)]; exact s3.2.2.2.2.1) (by omega) (by omega) (fun c3 o3 s3' w3 => ?_)
  rw [et] at w3
  rcases s3.1 with z | z
  · rw [show (2 : Int) + 1 = m + 1 by omega]
    exact fin c3 _ o3 s3' w3 (by unfold uu; rw [if_neg (by omega)]; rfl)
  · refine stp (2 + 1) c3 _ 193 (by omega) (by omega) o3 s3' w3 (by rw [show t 3 jj + (2 + 1) = t 3 jj + 3 by omega, ea3, rd_wb_ne (by omega) (by omega) (by omega), rd_wb_ne (by omega) (by omega) (by omega), rd_wb_ne (by omega) (by omega) (by omega), same _ (by omega)]; exact s3.2.2.2.2.2 z) (by omega) (by omega) (fun c4 o4 s4 w4 => ?_)
    rw [show t 3 jj + (2 + 1) = t 3 jj + 3 by omega, ea3] at w4
    rw [show (2 : Int) + 1 + 1 = m + 1 by omega]
    exact fin c4 _ o4 s4 w4 (by unfold uu; rw [if_pos z]; rfl)
/-- who has a parent here has it there -/
theorem ZR_kid (v : V f g n root mp t R) {z b : AH} (Z : ZR f g n root t R z b) {k jj : Nat} (hk : (k : Int) < z 1 0) (a : al t jj) (e : t 1 jj = z 2 k) : (∃ jc, 1 ≤ jc ∧ al t jc ∧ pt t jc = jj) ↔ ∃ i : Nat, 1 ≤ i ∧ (i : Int) < z 1 0 ∧ b 42 i = (k : Int) := by
  obtain ⟨k', S, kl, L, A⟩ := id Z
  have i5 := S.2.2.2.2.1
  have inj : ∀ x y : Nat, (x : Int) < z 1 0 → (y : Int) < z 1 0 → z 2 x = z 2 y → x = y := fun x y hx hy eq => by
    rcases Nat.lt_trichotomy x y with c | c | c
    · exact absurd eq (i5 x y c hy)
    · exact c
    · exact absurd eq.symm (i5 y x c hx)
  constructor
  · rintro ⟨jc, c1, c2, c3⟩
    obtain ⟨i, hi, ei⟩ := SL_all v S kl L jc c2
    have i0 := SL_0 v S c2 hi ei.symm
    obtain ⟨kp, p42, pk, pp, _⟩ := ZR_par v Z hi c2 ei.symm (by omega)
    have : kp = k := inj kp k pk hk (by rw [← pp, c3]; exact e)
    exact ⟨i, by omega, hi, by rw [p42, this]⟩
  · rintro ⟨i, i1, hi, e42⟩
    obtain ⟨jc, c2, ec⟩ := L.1 i hi
    obtain ⟨kp, p42, pk, pp, _, _, _, _, _, _, c1⟩ := ZR_par v Z hi c2 ec i1
    have : kp = k := by rw [p42] at e42; omega
    subst this
    exact ⟨jc, c1, c2, V_inj v (v.1.2.2.2.1 jc c1 c2).1 a (by rw [pp, ← e])⟩
end UN
