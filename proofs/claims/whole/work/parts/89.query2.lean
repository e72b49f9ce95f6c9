/-! what there is: told, list -/
def tv (f : Nat → Int) (p w : Int) : Int := if w = 0 then u2 f (p + 4) else if w = 1 then u4 f (p + 56) else if w = 2 then u4 f (p + 52) else if w = 3 then (if rd f (p + 33) = 3 then 1 else 0) else if w = 4 then rd f (p + 35) else if w = 5 then u2 f (p + 36) else if w = 6 then u2 f (p + 2) else if w = 7 then u4 f (p + 8) else u4 f (p + 12)
def ans (f : Nat → Int) (r : Nat → Int) (K : Nat) : Nat → Int → Int → Int
  | 0, _, _ => -9
  | m + 1, p, L => if 4 * (K : Int) ≤ p then -9 else if L < 0 then -9 else if rd f (ea r p) = 133 then (if L = 0 then 4 * r (p / 4).toNat + p % 4 else ans f r K m (p + 2) (L - 1)) else ans f r K m (p + 2) L
theorem ans_skip {f r : Nat → Int} {K : Nat} {L : Int} (L0 : 0 ≤ L) : ∀ (d m : Nat) (p : Int), d ≤ m → p + 2 * (d : Int) ≤ 4 * (K : Int) → (∀ q : Int, p ≤ q → q < p + 2 * (d : Int) → q % 2 = p % 2 → rd f (ea r q) ≠ 133) → ans f r K m p L = ans f r K (m - d) (p + 2 * (d : Int)) L
  | 0, m, p, _, _, _ => by rw [Nat.sub_zero, show p + 2 * ((0 : Nat) : Int) = p by omega]
  | d + 1, m, p, hm, hp, no => by
    obtain ⟨m', e⟩ : ∃ m', m = m' + 1 := ⟨m - 1, by omega⟩
    subst e
    rw [ans, if_neg (by omega), if_neg (by omega), if_neg (no p (by omega) (by omega) rfl), ans_skip L0 d m' (p + 2) (by omega) (by omega) (fun q a b c => no q (by omega) (by omega) (by omega))]
    rw [show m' + 1 - (d + 1) = m' - d by omega, show p + 2 + 2 * (d : Int) = p + 2 * ((d + 1 : Nat) : Int) by omega]
section QUERY2
variable {G : GG} {h : AH} {f g : Nat → Int} {n root mp : Int} {t R : AH}
theorem E_tellsV {P : Int → AH → Prop} {x w : Int} (hb : By (h 3)) (h0 : 0 ≤ x) (h1 : x + 64 ≤ 13824) (w0 : 0 ≤ w) (w1 : w ≤ 8) (H : ∀ r, wI r = wI (tv (h 3) x w) → P r h) : RunsI G 92 [vR 10, vI x, vI w] h P := by
  apply q_E_tells
  rw [wI_id (z := w) (by omega) (by omega)]
  refine ⟨fun c => ?_, fun _ => ⟨fun c => ?_, fun _ => ⟨fun c => ?_, fun _ => ⟨fun c => ?_, fun _ => ⟨fun c => ?_, fun _ => ⟨fun c => ?_, fun _ => ⟨fun c => ?_, fun _ => ⟨fun c => ?_, fun c => ?_⟩⟩⟩⟩⟩⟩⟩⟩
  · subst c
    apply q_E_attributes
    exact D_u2 hb (by omega) (by omega) (H _ rfl)
  · subst c
    apply q_E_length
    exact D_get4 hb (by omega) (by omega) (H _ (wI_wI _))
  · subst c
    apply q_E_first
    exact D_get4 hb (by omega) (by omega) (H _ (wI_wI _))
  · subst c
    refine E_isRun hb (by omega) (by omega) (fun q => ⟨fun z => absurd z (by decide), fun _ => H 1 ?_⟩) (fun q => ⟨fun _ => H 0 ?_, fun z => absurd wI_0 z⟩)
    · unfold isR at q
      show wI 1 = wI (if rd (h 3) (x + 33) = 3 then 1 else 0)
      rw [if_pos q]
    · unfold isR at q
      show wI 0 = wI (if rd (h 3) (x + 33) = 3 then 1 else 0)
      rw [if_neg q]
  · subst c
    apply q_E_nameSize
    exact D_get (by omega) (by omega) (H _ rfl)
  · subst c
    exact D_u2 hb (by omega) (by omega) (H _ rfl)
  · subst c
    exact D_u2 hb (by omega) (by omega) (H _ rfl)
  · subst c
    exact D_get4 hb (by omega) (by omega) (H _ (wI_wI _))
  · have c8 : w = 8 := (by omega)
    subst c8
    exact D_get4 hb (by omega) (by omega) (H _ (wI_wI _))
theorem T_told (hI : Inv Mo h) {x1 x2 : Int} (hx : in32 x1) (hy : in32 x2) : okI G (Inv Mo) 159 272 [vI x1, vI x2] h := by
  have c01 := hI.1.2.1.2.2.2.2.1
  have e34 := hI.1.2.1.2.2.2.1
  rcases c01 with h8 | h8
  · exact O_told hI h8
  obtain ⟨t, R, v, hd, X, gr, m2⟩ := Mo_get hI h8
  have hy' := hy
  unfold in32 at hy'
  have hx' := hx
  unfold in32 at hx'
  have nn := V_n v
  apply q_V_told
  rw [h8]
  refine ⟨fun z => absurd z (by decide), fun _ => ?_⟩
  have ref : ∀ (b : AH) (r : Int), FQ h b → ((∀ jj, al t jj → t 1 jj ≠ x1) ∨ ¬ (0 ≤ x2 ∧ x2 ≤ 8)) ∧ r = -1 ∨ ((0 ≤ x2 ∧ x2 ≤ 8) ∧ ∃ jj, al t jj ∧ t 1 jj = x1 ∧ ((jj = 0 ∧ r = (if x2 = 0 then 16 else if x2 = 1 then 128 * (Kt t 0 : Int) else if x2 = 2 then h 7 2 else 0)) ∨ (1 ≤ jj ∧ wI r = wI (tv (h 3) (ha x1) x2)))) → RunsI G 272 [vR 34, vI x1, vI x2] b (fun r2 h2 => wI r = wI r2 ∧ Inv Mo h2) := by
    intro b r fq cs
    apply q_M_told
    rw [fq.2 3 (by omega), ← e34, h8]
    refine ⟨fun z => absurd z (by decide), fun _ => ?_⟩
    refine M_setAt v (RX_Q fq X) hx (fun b2 z k jj Z hk a e ez k2 k0 fr => ?_) (fun b2 no fr => ⟨fun _ => ⟨?_, Inv_Q hI (fq.tr (FQ_n fr))⟩, fun q => absurd (by decide) q⟩)
    · rw [wI_id (z := (k : Int)) (by omega) (by omega), show (k : Int).toNat = k by omega, wI_id (z := x2) (by omega) (by omega)]
      refine ⟨fun q => by omega, fun _ => ?_⟩
      have fq2 := fq.tr (FQ_n fr)
      have X2 := RX_Q fq2 X
      refine M_in (by omega) (by omega) (by omega) (fun i0 i1 => ⟨fun q => absurd q (by decide), fun _ => ?_⟩) (fun no => ⟨fun _ => ⟨?_, Inv_Q hI fq2⟩, fun q => absurd wI_0 q⟩)
      · have cs' : (jj = 0 ∧ r = (if x2 = 0 then 16 else if x2 = 1 then 128 * (Kt t 0 : Int) else if x2 = 2 then h 7 2 else 0)) ∨ (1 ≤ jj ∧ wI r = wI (tv (h 3) (ha x1) x2)) := by
          rcases cs with ⟨no | no, _⟩ | ⟨_, j2, a2, e2, cs⟩
          · exact absurd e (no jj a)
          · exact absurd ⟨i0, i1⟩ no
          · have : j2 = jj := V_inj v a2 a (e2.trans e.symm)
            subst this
            exact cs
        refine ⟨fun q => ?_, fun q => ⟨by omega, ?_⟩⟩
        · have j0 : jj = 0 := k0.mp (by omega)
          rcases cs' with ⟨_, rv⟩ | ⟨z1, _⟩
          · have K1 := v.1.1.2.2
            have rr := v.2.2.1 0 v.1.1.1
            have r2 := rr.2.1
            have r3 := rr.2.2 (Or.inl rfl) K1
            rw [v.1.1.2.1] at r2 r3
            unfold rwP at r2 r3
            rw [if_pos rfl] at r2 r3
            have kn := V_K v v.1.1.1
            have c0 := (v.1.2.1 0 v.1.1.1 0 (by omega)).1
            have r20 := r2 0 (by omega)
            unfold clu at c0
            simp only [tc] at r20
            refine M_rowOfRoot (K := Kt t 0) (f := h 3) X2.2.1 (by omega) (fun i hi => ?_) (by rw [X2.2.2.2.1]; exact r3) (by rw [X2.2.2.2.1]; omega) (fun b3 rm k3 o3 => ?_)
            · rw [X2.2.2.2.1, r2 i hi]
              have := (v.1.2.1 0 v.1.1.1 i hi).1
              unfold clu at this
              omega
            · have IV := Inv_Q hI (fq2.tr (FQ_17 k3 o3))
              rw [rm.1, k3 1 (by decide), X2.2.2.2.1, rv]
              refine ⟨fun c => ⟨by rw [if_pos c], IV⟩, fun c => ⟨fun c1 => ⟨by rw [if_neg c, if_pos c1], IV⟩, fun c1 => ⟨fun c2 => ⟨by rw [if_neg c, if_neg c1, if_pos c2], IV⟩, fun c2 => ⟨by rw [if_neg c, if_neg c1, if_neg c2], IV⟩⟩⟩⟩
          · omega
        · obtain ⟨kp, p42, pk, pp, p43, p44, p46, p47, p48, p49, j1⟩ := ZR_par v Z hk a (by rw [e, ez]) (by omega)
          rcases cs' with ⟨z1, _⟩ | ⟨_, rv⟩
          · omega
          · have w := v.1.2.2.2.1 jj j1 a
            have ee := V_e v j1 a
            have kn := V_K v w.1
            have cl := V_cl v j1 a
            have wa := V_at v j1 a
            rw [e] at wa p44 p46 p47 p48 p49
            rw [p42]
            refine M_rowZ v X2 Z pk w.1 pp (fun b3 rm k3 o3 => ⟨by omega, ?_⟩)
            have fq3 := fq2.tr (FQ_17 k3 o3)
            have X3 := RX_Q fq3 X
            have IV := Inv_Q hI fq3
            rw [o3 43 (by decide) (by decide), p43]
            refine M_entryAt w.2.1.1 (by omega) ⟨by omega, ?_⟩
            rw [o3 43 (by decide) (by decide), p43]
            refine M_entryAt (e := t 3 jj + 1) (by omega) (by omega) ?_
            have ea0 : ea (b3 39) (t 3 jj) = ha x1 := by rw [← e, cl.2.2.1]; exact ea_cg rm.2.2 w.2.1.1 (by omega)
            have ea1 : ea (b3 39) (t 3 jj + 1) = ha x1 + 32 := by rw [ea_s w.2.1.1 w.2.1.2, ea0]
            rw [ea0, ea1, o3 49 (by decide) (by decide), p49, o3 47 (by decide) (by decide), p47, o3 48 (by decide) (by decide), p48, o3 46 (by decide) (by decide), p46, rv]
            refine ⟨fun c => ⟨by omega, ?_, IV⟩, fun c0 => ⟨fun c => ⟨by omega, ?_, IV⟩, fun c1 => ⟨fun c => ⟨by omega, ?_, IV⟩, fun c2 => ⟨fun c => ⟨by omega, ?_⟩, fun c3 => ⟨fun c => ⟨?_, ?_, IV⟩, fun c4 => ⟨fun c => ?_, fun c5 => ⟨fun c => ?_, fun c6 => ⟨fun c => ?_, fun c7 => ?_⟩⟩⟩⟩⟩⟩⟩⟩
            · subst c; rfl
            · subst c; rfl
            · subst c; rfl
            · subst c
              have eb : bR (h 3) x1 = (if rd (h 3) (ha x1 + 33) = 3 then 1 else 0) := rfl
              rw [eb]
              show _ ∧ _
              by_cases q3 : rd (h 3) (ha x1 + 33) = 3
              · rw [if_pos q3]
                refine ⟨fun z => absurd z (by decide), fun _ => ⟨?_, IV⟩⟩
                show wI (if rd (h 3) (ha x1 + 33) = 3 then 1 else 0) = wI 1
                rw [if_pos q3]
              · rw [if_neg q3]
                refine ⟨fun _ => ⟨?_, IV⟩, fun z => absurd wI_0 z⟩
                show wI (if rd (h 3) (ha x1 + 33) = 3 then 1 else 0) = wI 0
                rw [if_neg q3]
            · rw [wI_id (z := ha x1 + 32 + 3) (by omega) (by omega)]; omega
            · subst c
              rw [wI_id (z := ha x1 + 32 + 3) (by omega) (by omega), oct X3.2.1 (by omega) (by omega), show ha x1 + 32 + 3 = ha x1 + 35 by omega]
              rfl
            · subst c
              refine M_get2 X3.2.1 (by omega) (by omega) ⟨?_, IV⟩
              rw [show ha x1 + 32 + 4 = ha x1 + 36 by omega]
              rfl
            · subst c
              exact M_get2 X3.2.1 (by omega) (by omega) ⟨rfl, IV⟩
            · subst c
              exact M_get4 X3.2.1 (by omega) (by omega) ⟨rfl, IV⟩
            · have c8 : x2 = 8 := (by omega)
              subst c8
              exact M_get4 X3.2.1 (by omega) (by omega) ⟨rfl, IV⟩
      · rcases cs with ⟨_, q⟩ | ⟨q, _⟩
        · rw [q]
        · exact absurd q no
    · rcases cs with ⟨_, q⟩ | ⟨_, j2, a2, e2, _⟩
      · rw [q]
      · exact absurd e2 (no j2 a2)
  refine T_isPlace v rfl rfl hd hx (fun jj a e => ⟨fun z => absurd z (by decide), fun _ => ?_⟩) (fun no => ⟨fun _ => ref h (-1) (FQ.rf h) (Or.inl ⟨Or.inl no, rfl⟩), fun z => absurd wI_0 z⟩)
  rw [wI_id (z := x2) (by omega) (by omega), wI_id (z := x1) (by omega) (by omega)]
  refine ⟨fun z => ref h (-1) (FQ.rf h) (Or.inl ⟨Or.inr (by omega), rfl⟩), fun z0 => ⟨fun z8 => ⟨fun p0 => ?_, fun p0 => ?_⟩, fun z8 => ref h (-1) (FQ.rf h) (Or.inl ⟨Or.inr (by omega), rfl⟩)⟩⟩
  · have j0 : jj = 0 := V_inj v a v.1.1.1 (by rw [e, v.1.1.2.1]; exact p0)
    apply q_T_rootTells
    have o0 : (0 : Int) = t 1 0 := v.1.1.2.1.symm
    have go := T_openV_15 (G := G) (P := fun h1 => ((wI x2 = 0 → RunsI G 272 [vR 34, vI x1, vI x2] h1 (fun r2 h2 => wI 16 = wI r2 ∧ Inv Mo h2)) ∧ (¬ wI x2 = 0 → ((wI x2 = 1 → RunsI G 272 [vR 34, vI x1, vI x2] h1 (fun r2 h2 => wI (128 * (h1 15 1)) = wI r2 ∧ Inv Mo h2)) ∧ (¬ wI x2 = 1 → ((wI x2 = 2 → RunsI G 272 [vR 34, vI x1, vI x2] h1 (fun r2 h2 => wI (h1 7 2) = wI r2 ∧ Inv Mo h2)) ∧ (¬ wI x2 = 2 → RunsI G 272 [vR 34, vI x1, vI x2] h1 (fun r2 h2 => wI 0 = wI r2 ∧ Inv Mo h2)))))))) (j := 0) v rfl rfl rfl v.1.1.1 (fun b ro fr => by
      rw [ro.1, fr 7 (by decide) (by decide), wI_id (z := x2) (by omega) (by omega)]
      have rr : ∀ r, r = (if x2 = 0 then 16 else if x2 = 1 then 128 * (Kt t 0 : Int) else if x2 = 2 then h 7 2 else 0) → RunsI G 272 [vR 34, vI x1, vI x2] b (fun r2 h2 => wI r = wI r2 ∧ Inv Mo h2) := fun r er => ref b r (FQ_15 fr) (Or.inr ⟨⟨by omega, by omega⟩, jj, a, e, Or.inl ⟨j0, er⟩⟩)
      refine ⟨fun c => rr _ (by rw [if_pos c]), fun c => ⟨fun c1 => rr _ (by rw [if_neg c, if_pos c1]), fun c1 => ⟨fun c2 => rr _ (by rw [if_neg c, if_neg c1, if_pos c2]), fun c2 => rr _ (by rw [if_neg c, if_neg c1, if_neg c2])⟩⟩⟩)
    rw [v.1.1.2.1] at go
    exact go
  · have j1 : 1 ≤ jj := by
      by_cases q : jj = 0
      · rw [q, v.1.1.2.1] at e; exact absurd e.symm p0
      · omega
    have wa := V_at v j1 a
    rw [e] at wa
    apply q_T_headOf
    show RunsI G 92 [vR 10, vI (ha x1), vI x2] h _
    exact E_tellsV (V_by v) wa.1 wa.2.1 (by omega) (by omega) (fun r er => ref h r (FQ.rf h) (Or.inr ⟨⟨by omega, by omega⟩, jj, a, e, Or.inr ⟨j1, er⟩⟩))
theorem T_childV {P : Int → AH → Prop} {jj : Nat} {i : Int} (v : V f g n root mp t R) (h3 : h 3 = f) (h71 : h 7 1 = n) (h72 : h 7 2 = root) (a : al t jj) (hi : in32 i) (H : ∀ b, (∀ o, o ≠ 15 → o ≠ 16 → b o = h o) → P (ans f (R jj) (Kt t jj) (2 * Kt t jj + 1) 0 i) b) : RunsI G 135 [vR 11, vI (t 1 jj), vI i] h P := by
  unfold in32 at hi
  have nn := V_n v
  have kn := V_K v a
  apply q_T_child
  refine T_openV_15 v h3 h71 h72 a (fun b ro fr => ?_)
  have b3 : b 3 = f := (fr 3 (by decide) (by decide)).trans h3
  have key : ∀ (m : Nat) (p L : Int), p + 2 * m = 4 * (Kt t jj : Int) + 2 → 0 ≤ p → p % 2 = 0 → p ≤ 4 * (Kt t jj : Int) → -2147483648 ≤ L → L < 2147483648 → P (ans f (R jj) (Kt t jj) m p L) b → Go G (pI P) 135 14 [some (vR 11), none, none, some (vI L), some (vI p), none] [] b := by
    intro m
    induction m with
    | zero => intro p L hm p0 pe pl; omega
    | succ m ih =>
      intro p L hm p0 pe pl l0 l1 pp
      rw [ans] at pp
      apply q_T_child_c14
      apply q_C_places_15
      rw [ro.1, wI_id (z := 4 * (Kt t jj : Int)) (by omega) (by omega), wI_id (z := p) (by omega) (by omega), wI_id (z := L) l0 l1]
      refine ⟨fun z => by rw [if_pos z] at pp; exact pp, fun z => ?_⟩
      rw [if_neg z] at pp
      refine ⟨fun y => by rw [if_pos y] at pp; exact pp, fun y => ?_⟩
      rw [if_neg y] at pp
      have c := (v.1.2.1 jj a (p / 4).toNat (by omega)).1
      unfold clu at c
      have er := ea_rng (r := R jj) (e := p) p0 (by omega)
      have by' := (V_by v).rd (show 0 ≤ ea (R jj) p by omega) (show ea (R jj) p < 13824 by omega)
      refine C_entry_15 ro p0 (by omega) (D_get (by omega) (by omega) ?_)
      rw [b3, wI_id (z := rd f (ea (R jj) p)) (by omega) (by omega)]
      refine ⟨fun ty => ?_, fun ty => ?_⟩
      · rw [if_pos ty] at pp
        refine ⟨fun l => ?_, fun l => ?_⟩
        · rw [if_pos l] at pp
          rw [ha_ea]
          exact T_placeOf (by omega) (by omega) pp
        · rw [if_neg l] at pp
          rw [show L + (-1) = L - 1 by omega]
          exact ih (p + 2) (L - 1) (by omega) (by omega) (by omega) (by omega) (by omega) (by omega) pp
      · rw [if_neg ty] at pp
        exact ih (p + 2) L (by omega) (by omega) (by omega) (by omega) l0 l1 pp
  exact key (2 * Kt t jj + 1) 0 i (by omega) (by omega) rfl (by omega) (by omega) (by omega) (H b fr)
theorem T_list (hI : Inv Mo h) {x1 x2 : Int} (hx : in32 x1) (hy : in32 x2) : okI G (Inv Mo) 151 236 [vI x1, vI x2] h := by
  have c01 := hI.1.2.1.2.2.2.2.1
  have e34 := hI.1.2.1.2.2.2.1
  rcases c01 with h8 | h8
  · exact O_list hI h8
  obtain ⟨t, R, v, hd, X, gr, m2⟩ := Mo_get hI h8
  have hy' := hy
  unfold in32 at hy'
  have nn := V_n v
  apply q_V_list
  rw [h8]
  refine ⟨fun z => absurd z (by decide), fun _ => ?_⟩
  have ref : ∀ (b : AH) (r : Int), FQ h b → ((∀ jj, al t jj → t 1 jj = x1 → ¬ dirT (h 3) t jj) ∧ r = -1 ∨ ∃ jj, al t jj ∧ t 1 jj = x1 ∧ dirT (h 3) t jj ∧ r = ans (h 3) (R jj) (Kt t jj) (2 * Kt t jj + 1) 0 x2) → RunsI G 236 [vR 34, vI x1, vI x2] b (fun r2 h2 => wI r = wI r2 ∧ Inv Mo h2) := by
    intro b r fq cs
    apply q_M_list
    rw [fq.2 3 (by omega), ← e34, h8]
    refine ⟨fun z => absurd z (by decide), fun _ => ?_⟩
    refine M_directoryAt v (RX_Q fq X) hx (fun b2 z d jj Z hk a e ez k2 k0 dd fr => ?_) (fun b2 no fr => ⟨fun _ => ⟨?_, Inv_Q hI (fq.tr (FQ_n fr))⟩, fun q => absurd (by decide) q⟩)
    · have er : r = ans (h 3) (R jj) (Kt t jj) (2 * Kt t jj + 1) 0 x2 := by
        rcases cs with ⟨no, _⟩ | ⟨j2, a2, e2, _, cs⟩
        · exact absurd dd (no jj a e)
        · have : j2 = jj := V_inj v a2 a (e2.trans e.symm)
          subst this
          exact cs
      rw [wI_id (z := (d : Int)) (by omega) (by omega)]
      refine ⟨fun q => by omega, fun _ => ?_⟩
      have IV := Inv_Q hI (fq.tr (FQ_n fr))
      have zd := ZR_dir v Z hk a (by rw [e, ez])
      obtain ⟨k', S, kl, L, A⟩ := Z
      have kn := V_K v a
      have NN := SI_N S (by omega)
      have N1 := S.1.1
      have dj : dirJ (h 3) z d := ((SL_row v a (by rw [e, ez])).2.2 (SL_0 v S a hk (by rw [e, ez]))).mpr dd
      have tyl : ∀ q : Int, 0 ≤ q → q < 4 * (Kt t jj : Int) → rd (h 3) (ea (R jj) q) = 133 → ∃ j : Nat, 1 ≤ j ∧ (j : Int) < z 1 0 ∧ z 3 j = d ∧ z 4 j = q := fun q q0 q1 ty => by
        obtain ⟨j, w1, w2, w3, w4⟩ := S.2.2.2.2.2.2.2.1.2 rfl d (by omega) hk dj q q0 (by rw [zd.2.2.1]; exact q1) (by rw [ea_cg zd.2.2.2 q0 (by omega)]; exact ty)
        exact ⟨j, w1, w2, w3, w4⟩
      have key : ∀ (m k : Nat) (p l : Int) (fu : Nat), (k : Int) + m = z 1 0 → 1 ≤ k → 0 ≤ p → p % 2 = 0 → p ≤ 4 * (Kt t jj : Int) → p + 2 * (fu : Int) = 4 * (Kt t jj : Int) + 2 → -2147483648 ≤ l → l < 2147483648 → (∀ j : Nat, 1 ≤ j → (j : Int) < z 1 0 → z 3 j = d → (k ≤ j ↔ p ≤ z 4 j)) → r = ans (h 3) (R jj) (Kt t jj) fu p l → Go G (pI (fun r2 h2 => wI r = wI r2 ∧ Inv Mo h2)) 236 30 [some (vR 34), none, none, some (vI (d : Int)), some (vI l), some (vI (k : Int))] [] b2 := by
        intro m
        induction m with
        | zero =>
          intro k p l fu hm k1 p0 pe pl pf l0 l1 iv er
          apply q_M_list_c30
          rw [A.1, wI_id (z := z 1 0) (by omega) (by omega), wI_id (z := (k : Int)) (by omega) (by omega)]
          refine ⟨fun _ => ⟨?_, IV⟩, fun q => by omega⟩
          rw [er]
          by_cases lz : l < 0
          · obtain ⟨fu', e2⟩ : ∃ fu', fu = fu' + 1 := ⟨fu - 1, by omega⟩
            rw [e2, ans]
            split
            · rfl
            · rfl
          · rw [ans_skip (L := l) (by omega) ((4 * (Kt t jj : Int) - p) / 2).toNat fu p (by omega) (by omega) (fun q a1 a2 a3 ty => ?_)]
            · obtain ⟨fu', e2⟩ : ∃ fu', fu - ((4 * (Kt t jj : Int) - p) / 2).toNat = fu' + 1 := ⟨fu - ((4 * (Kt t jj : Int) - p) / 2).toNat - 1, by omega⟩
              rw [e2, ans, if_pos (by omega)]
            · obtain ⟨j, w1, w2, w3, w4⟩ := tyl q (by omega) (by omega) ty
              have := (iv j w1 w2 w3).mpr (by omega)
              omega
        | succ m ih =>
          intro k p l fu hm k1 p0 pe pl pf l0 l1 iv er
          have hk' : (k : Int) < z 1 0 := (by omega)
          obtain ⟨q1, q2, q3, q4, q5, q6, q7⟩ := A.2.2.2 k k1 hk'
          obtain ⟨p1, p2, p3, p4, p5⟩ := S.2.2.2.1 k k1 hk'
          apply q_M_list_c30
          rw [A.1, wI_id (z := z 1 0) (by omega) (by omega), wI_id (z := (k : Int)) (by omega) (by omega), wI_id (z := l) l0 l1, show (k : Int).toNat = k by omega, q1, wI_id (z := z 3 k) (by omega) (by omega), wI_id (z := (d : Int)) (by omega) (by omega), (A.2.1 k hk').1, show (k : Int) + 1 = ((k + 1 : Nat) : Int) by omega]
          refine ⟨fun q => by omega, fun _ => ⟨fun lz => ⟨?_, IV⟩, fun lz => ⟨by omega, fun ed => ?_, fun ed => ?_⟩⟩⟩
          · obtain ⟨fu', e2⟩ : ∃ fu', fu = fu' + 1 := ⟨fu - 1, by omega⟩
            rw [er, e2, ans]
            split
            · rfl
            · rfl
          · have pk := (iv k k1 hk' ed).mp (Nat.le_refl k)
            have s3 := SetOK_3 p5
            rw [show (z 3 k).toNat = d by omega, zd.2.2.1] at s3
            rw [show (z 3 k).toNat = d by omega] at p4 p5
            have skip := ans_skip (f := h 3) (r := R jj) (K := Kt t jj) (L := l) (by omega) ((z 4 k - p) / 2).toNat fu p (by omega) (by omega) (fun q a1 a2 a3 ty => by
              obtain ⟨j, w1, w2, w3, w4⟩ := tyl q (by omega) (by omega) ty
              have kj := (iv j w1 w2 w3).mpr (by omega)
              by_cases y : j = k
              · subst y; omega
              · have := (L.2.2.1 k j k1 (by omega) w2).2 (by rw [ed, w3])
                omega)
            rw [show p + 2 * (((z 4 k - p) / 2).toNat : Int) = z 4 k by omega] at skip
            obtain ⟨fu', e2⟩ : ∃ fu', fu - ((z 4 k - p) / 2).toNat = fu' + 1 := ⟨fu - ((z 4 k - p) / 2).toNat - 1, by omega⟩
            have ty : rd (h 3) (ea (R jj) (z 4 k)) = 133 := by
              rw [← ea_cg zd.2.2.2 p3.1 (by omega)]
              exact s3.2.2.1
            have zz : 4 * R jj (z 4 k / 4).toNat + z 4 k % 4 = z 2 k := by rw [p4, zd.2.2.2 _ (by omega)]
            rw [skip, e2, ans, if_neg (by omega), if_neg lz, if_pos ty, zz] at er
            refine ⟨fun l00 => ⟨by omega, ?_, IV⟩, fun l00 => ?_⟩
            · rw [er, if_pos l00]
            · rw [if_neg l00] at er
              rw [show l + (-1) = l - 1 by omega]
              refine ih (k + 1) (z 4 k + 2) (l - 1) fu' (by omega) (by omega) (by omega) (by omega) (by omega) (by omega) (by omega) (by omega) (fun j w1 w2 w3 => ?_) er
              have ivj := iv j w1 w2 w3
              have ev := (S.2.2.2.1 j w1 w2).2.2.1.2
              constructor
              · intro kj
                have := (L.2.2.1 k j k1 (by omega) w2).2 (by rw [ed, w3])
                omega
              · intro pj
                by_cases y : j = k
                · subst y; omega
                · have := ivj.mpr (by omega)
                  omega
          · refine ih (k + 1) p l fu (by omega) (by omega) p0 pe pl pf l0 l1 (fun j w1 w2 w3 => ?_) er
            have ivj := iv j w1 w2 w3
            by_cases y : j = k
            · subst y; exact absurd w3 ed
            · constructor
              · intro kj; exact ivj.mp (by omega)
              · intro pj; have := ivj.mpr pj; omega
      exact key (z 1 0 - 1).toNat 1 0 x2 (2 * Kt t jj + 1) (by omega) (by omega) (by omega) rfl (by omega) (by omega) (by omega) (by omega) (fun j w1 w2 w3 => ⟨fun _ => (S.2.2.2.1 j w1 w2).2.2.1.1, fun _ => w1⟩) er
    · rcases cs with ⟨_, q⟩ | ⟨j2, a2, e2, d2, _⟩
      · rw [q]
      · exact absurd d2 (no j2 a2 e2)
  refine T_isDirectory v rfl rfl hd hx (fun jj a d e => ⟨fun z => absurd z (by decide), fun _ => ?_⟩) (fun no => ⟨fun _ => ref h (-1) (FQ.rf h) (Or.inl ⟨no, rfl⟩), fun z => absurd wI_0 z⟩)
  rw [← e]
  refine T_childV v rfl rfl rfl a hy (fun b fr => ?_)
  rw [e]
  exact ref b _ (FQ_15 fr) (Or.inr ⟨jj, a, e, d, rfl⟩)
end QUERY2
