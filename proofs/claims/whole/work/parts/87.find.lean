/-! places are found -/
theorem sRI_2 {p : Int} (h0 : 0 ≤ p) (h1 : p < 2147483648) : sRI p 2 = p / 4 := by
  unfold sRI
  rw [wI_id (by omega) (by omega)]
  rfl
def FQ (h h' : AH) : Prop := (∀ o, ¬ (o = 15 ∨ o = 16 ∨ o = 34 ∨ (39 ≤ o ∧ o ≤ 51)) → h' o = h o) ∧ ∀ k, (k ≤ 6 ∨ (9 ≤ k ∧ k ≤ 11) ∨ k = 41) → h' 34 k = h 34 k
theorem FQ.rf (h : AH) : FQ h h := ⟨fun _ _ => rfl, fun _ _ => rfl⟩
theorem FQ.tr {h h1 h2 : AH} (a : FQ h h1) (b : FQ h1 h2) : FQ h h2 := ⟨fun o p => (b.1 o p).trans (a.1 o p), fun o p => (b.2 o p).trans (a.2 o p)⟩
theorem FQ_n {h h' : AH} (a : FN h h') : FQ h h' := ⟨fun o p => a.1 o (by omega), fun k p => a.2 k (by omega)⟩
theorem FQ_15 {h h' : AH} (a : ∀ o, o ≠ 15 → o ≠ 16 → h' o = h o) : FQ h h' := ⟨fun o p => a o (by omega) (by omega), fun _ _ => by rw [a 34 (by decide) (by decide)]⟩
theorem FQ_17 {h h' : AH} (a : ∀ k, k ≠ 17 → h' 34 k = h 34 k) (b : ∀ o, o ≠ 34 → o ≠ 39 → h' o = h o) : FQ h h' := ⟨fun o p => b o (by omega) (by omega), fun k p => a k (by omega)⟩
theorem FQ_z {h h' : AH} (z : FZ h h') : FQ h h' := ⟨fun o p => z.2 o (by omega) (by omega), fun k p => z.1 k (by omega) (by omega) (by omega) (by omega) (by omega) (by omega)⟩
theorem Inv_Q {h h' : AH} (hI : Inv Mo h) (q : FQ h h') : Inv Mo h' := by
  obtain ⟨⟨c1, c2, c3, c4⟩, m⟩ := hI
  have o : ∀ o, ¬ (o = 15 ∨ o = 16 ∨ o = 34 ∨ (39 ≤ o ∧ o ≤ 51)) → h' o = h o := q.1
  refine ⟨⟨C1_congr (o 2 (by decide)) (o 3 (by decide)) (o 4 (by decide)) (o 35 (by decide)) (o 36 (by decide)) c1, C2_congr (by rw [o 1 (by decide)]) (by rw [o 1 (by decide)]) (by rw [o 0 (by decide)]) (by rw [o 26 (by decide)]) (q.2 3 (by omega)) (q.2 4 (by omega)) (q.2 5 (by omega)) (q.2 6 (by omega)) c2, C3_congr (by rw [o 32 (by decide)]) (q.2 41 (by omega)) (o 33 (by decide)) (o 52 (by decide)) c3, C4_congr (by rw [o 17 (by decide)]) (by rw [o 17 (by decide)]) (by rw [o 17 (by decide)]) (q.2 9 (by omega)) (q.2 10 (by omega)) (q.2 11 (by omega)) c4⟩, fun z => Mo_C h h' ⟨o 2 (by decide), o 3 (by decide), by rw [o 7 (by decide)], by rw [o 7 (by decide)], by rw [o 7 (by decide)], o 9 (by decide), o 12 (by decide), o 13 (by decide), o 38 (by decide), q.2 0 (by omega), q.2 1 (by omega), q.2 2 (by omega)⟩ (m (by rw [← o 0 (by decide)]; exact z))⟩
section FIND
variable {G : GG} {h : AH} {f g : Nat → Int} {n root mp : Int} {t R : AH}
theorem T_isEntry {P : Int → AH → Prop} {p : Int} (v : V f g n root mp t R) (h3 : h 3 = f) (h71 : h 7 1 = n) (hd : Hd f t R h) (hp : in32 p) (H1 : ∀ jj, 1 ≤ jj → al t jj → t 1 jj = p → P 1 h) (H0 : (∀ jj, 1 ≤ jj → al t jj → t 1 jj ≠ p) → P 0 h) : RunsI G 128 [vR 11, vI p] h P := by
  unfold in32 at hp
  have nn := V_n v
  apply q_T_isEntry
  rw [wI_id (z := p) (by omega) (by omega)]
  refine ⟨fun z => ⟨Or.inl rfl, H0 (fun jj j1 a e => by have := V_cl v j1 a; omega)⟩, fun p0 => ?_⟩
  rw [sRI_2 (p := p) (by omega) (by omega), wI_id (z := p / 4) (by omega) (by omega)]
  refine S_isCluster (by rw [h71]; exact nn) (by omega) (fun c => ⟨fun z => absurd z (by decide), fun _ => ?_⟩) (fun c => ⟨fun _ => ⟨Or.inl rfl, H0 (fun jj j1 a e => c (by rw [h71, ← e]; exact (V_cl v j1 a).1))⟩, fun z => absurd wI_0 z⟩)
  rw [h71] at c
  have c' := c
  unfold clu at c'
  refine ⟨fun z => by omega, fun _ => ⟨by omega, ?_⟩⟩
  have ra := ha_rng c nn.2
  have by' := (V_by v).rd (show 0 ≤ ha p by omega) (show ha p < 13824 by omega)
  rcases hd.1 (p / 4).toNat (by omega) with e | ⟨j, i, aj, dj, hi, er⟩
  · rw [e]
    refine ⟨fun _ => ⟨Or.inl rfl, H0 (fun jj j1 a ep => ?_)⟩, fun z => absurd (by decide) z⟩
    have w := v.1.2.2.2.1 jj j1 a
    have dp := (v.2.1 jj j1 a).1
    have ee := V_e v j1 a
    have cl := V_cl v j1 a
    have hh := (hd.2 (pt t jj) (t 3 jj / 4).toNat w.1 dp (by omega)).1
    rw [← cl.2.2.2.2.2, ep, e] at hh
    by_cases z : pt t jj = 0
    · rw [z, v.1.1.2.1] at hh; exact absurd hh (by decide)
    · have := V_cl v (j := pt t jj) (by omega) w.1
      omega
  · have hh := (hd.2 j i aj dj hi).1
    have e2 : (R j i).toNat = (p / 4).toNat := (by omega)
    rw [e2] at hh
    rw [hh]
    have tr : 0 ≤ t 1 j ∧ t 1 j ≤ 407 := by
      by_cases z : j = 0
      · rw [z, v.1.1.2.1]; decide
      · have := V_cl v (j := j) (by omega) aj
        omega
    rw [wI_id (z := t 1 j) (by omega) (by omega)]
    refine ⟨fun z => by omega, fun _ => ?_⟩
    apply q_T_headOf
    show RunsI G 54 [vR 1, vI (ha p)] h _
    refine D_get (by omega) (by omega) ?_
    rw [h3, wI_id (z := rd f (ha p)) (by omega) (by omega)]
    have ep : 4 * R j i + p % 4 = p := (by omega)
    refine ⟨fun ty => ⟨Or.inr rfl, ?_⟩, fun ty => ⟨Or.inl rfl, H0 (fun jj j1 a e => ty ?_)⟩⟩
    · obtain ⟨j', q1, q2, q3, q4, q5⟩ := V_ty v aj dj hi (o := p % 4) (by omega) (by omega) (by rw [ep]; exact ty)
      exact H1 j' q1 q2 (by rw [q5]; exact ep)
    · rw [← e]; exact (V_ln v j1 a).1.1
theorem T_isPlace {P : Int → AH → Prop} {p : Int} (v : V f g n root mp t R) (h3 : h 3 = f) (h71 : h 7 1 = n) (hd : Hd f t R h) (hp : in32 p) (H1 : ∀ jj, al t jj → t 1 jj = p → P 1 h) (H0 : (∀ jj, al t jj → t 1 jj ≠ p) → P 0 h) : RunsI G 129 [vR 11, vI p] h P := by
  have hp' := hp
  unfold in32 at hp'
  apply q_T_isPlace
  rw [wI_id (z := p) (by omega) (by omega)]
  refine ⟨fun z => ⟨Or.inr rfl, H1 0 v.1.1.1 (by rw [v.1.1.2.1, z])⟩, fun z => ?_⟩
  refine T_isEntry v h3 h71 hd hp (fun jj j1 a e => ⟨fun y => absurd y (by decide), fun _ => ⟨Or.inr rfl, H1 jj a e⟩⟩) (fun no => ⟨fun _ => ⟨Or.inl rfl, H0 (fun jj a e => ?_)⟩, fun y => absurd wI_0 y⟩)
  by_cases c : jj = 0
  · rw [c, v.1.1.2.1] at e; exact z e.symm
  · exact no jj (by omega) a e
theorem V_at (v : V f g n root mp t R) {jj : Nat} (j1 : 1 ≤ jj) (a : al t jj) : 0 ≤ ha (t 1 jj) ∧ ha (t 1 jj) + 64 ≤ 13824 ∧ At (u2 f (ha (t 1 jj) + 4)) := by
  have cl := V_cl v j1 a
  have nn := V_n v
  have ra := ha_rng cl.1 nn.2
  have rb := ha_rng2 cl.1 nn.2 cl.2.1
  exact ⟨by omega, rb, (V_ln v j1 a).1.2.2.1⟩
theorem T_isDirectory {P : Int → AH → Prop} {p : Int} (v : V f g n root mp t R) (h3 : h 3 = f) (h71 : h 7 1 = n) (hd : Hd f t R h) (hp : in32 p) (H1 : ∀ jj, al t jj → dirT f t jj → t 1 jj = p → P 1 h) (H0 : (∀ jj, al t jj → t 1 jj = p → ¬ dirT f t jj) → P 0 h) : RunsI G 130 [vR 11, vI p] h P := by
  have hp' := hp
  unfold in32 at hp'
  apply q_T_isDirectory
  rw [wI_id (z := p) (by omega) (by omega)]
  refine ⟨fun z => ⟨Or.inr rfl, H1 0 v.1.1.1 (Or.inl rfl) (by rw [v.1.1.2.1, z])⟩, fun z => ?_⟩
  refine T_isEntry v h3 h71 hd hp (fun jj j1 a e => ⟨fun y => absurd y (by decide), fun _ => ?_⟩) (fun no => ⟨fun _ => ⟨Or.inl rfl, H0 (fun jj a e => ?_)⟩, fun y => absurd wI_0 y⟩)
  · apply q_T_headOf
    have w := V_at v j1 a
    rw [e] at w
    show RunsI G 83 [vR 10, vI (ha p)] h _
    refine E_isDirectory (by rw [h3]; exact V_by v) w.1 w.2.1 (by rw [h3]; exact w.2.2) (fun d => ⟨fun y => absurd y (by decide), fun _ => ⟨Or.inr rfl, H1 jj a (Or.inr ?_) e⟩⟩) (fun d => ⟨fun _ => ⟨Or.inl rfl, H0 (fun j2 a2 e2 d2 => ?_)⟩, fun y => absurd wI_0 y⟩)
    · rw [e, ← h3]; exact d
    · have : j2 = jj := V_inj v a2 a (e2.trans e.symm)
      subst this
      rcases d2 with d2 | d2
      · omega
      · rw [e, ← h3] at d2; exact d d2
  · by_cases c : jj = 0
    · rw [c, v.1.1.2.1] at e; exact absurd e.symm z
    · exact absurd e (no jj (by omega) a)
theorem T_isFile {P : Int → AH → Prop} {p : Int} (v : V f g n root mp t R) (h3 : h 3 = f) (h71 : h 7 1 = n) (hd : Hd f t R h) (hp : in32 p) (H1 : ∀ jj, 1 ≤ jj → al t jj → ¬ dirT f t jj → t 1 jj = p → P 1 h) (H0 : (∀ jj, al t jj → t 1 jj = p → dirT f t jj) → P 0 h) : RunsI G 131 [vR 11, vI p] h P := by
  apply q_T_isFile
  refine T_isEntry v h3 h71 hd hp (fun jj j1 a e => ⟨fun y => absurd y (by decide), fun _ => ?_⟩) (fun no => ⟨fun _ => ⟨Or.inl rfl, H0 (fun jj a e => ?_)⟩, fun y => absurd wI_0 y⟩)
  · apply q_T_headOf
    have w := V_at v j1 a
    rw [e] at w
    show RunsI G 83 [vR 10, vI (ha p)] h _
    refine E_isDirectory (by rw [h3]; exact V_by v) w.1 w.2.1 (by rw [h3]; exact w.2.2) (fun d => ⟨fun y => absurd y (by decide), fun _ => ⟨Or.inl rfl, H0 (fun j2 a2 e2 => ?_)⟩⟩) (fun d => ⟨fun _ => ⟨Or.inr rfl, H1 jj j1 a (fun d2 => ?_) e⟩, fun y => absurd wI_0 y⟩)
    · have : j2 = jj := V_inj v a2 a (e2.trans e.symm)
      subst this
      exact Or.inr (by rw [e, ← h3]; exact d)
    · rcases d2 with d2 | d2
      · omega
      · rw [e, ← h3] at d2; exact d d2
  · by_cases c : jj = 0
    · exact Or.inl c
    · exact absurd e (no jj (by omega) a)
def ZR (f g : Nat → Int) (n root : Int) (t R : AH) (z h : AH) : Prop := ∃ k' : Nat, SI f g n root (Kt t 0) 0 z k' 0 ∧ z 1 0 ≤ (k' : Int) ∧ SL f root (Kt t 0) t z ∧ SA f root z h
theorem M_setAt {P : Int → AH → Prop} {p : Int} (v : V f g n root mp t R) (X : RX f g n root h) (hp : in32 p) (H1 : ∀ (h' z : AH) (k jj : Nat), ZR f g n root t R z h' → (k : Int) < z 1 0 → al t jj → t 1 jj = p → z 2 k = p → k < 200 → (k = 0 ↔ jj = 0) → FN h h' → P k h') (H0 : ∀ h', (∀ jj, al t jj → t 1 jj ≠ p) → FN h h' → P (-9) h') : RunsI G 212 [vR 34, vI p] h P := by
  have nn := V_n v
  unfold in32 at hp
  apply q_M_setAt
  refine M_scan v X (fun b z k' S kl L A fr => ?_)
  have NN := SI_N S (by omega)
  have N1 := S.1.1
  have key : ∀ (m k : Nat), (k : Int) + m = z 1 0 → (∀ j : Nat, j < k → z 2 j ≠ p) → Go G (pI P) 212 6 [some (vR 34), some (vI p), some (vI (k : Int))] [] b := by
    intro m
    induction m with
    | zero =>
      intro k hm no
      apply q_M_setAt_c6
      rw [A.1, wI_id (z := z 1 0) (by omega) (by omega), wI_id (z := (k : Int)) (by omega) (by omega)]
      refine ⟨fun _ => H0 b (fun jj a e => ?_) fr, fun q => by omega⟩
      obtain ⟨j, hj, ej⟩ := SL_all v S kl L jj a
      exact no j (by omega) (by rw [ej, e])
    | succ m ih =>
      intro k hm no
      have hk : (k : Int) < z 1 0 := (by omega)
      obtain ⟨jj, a, e⟩ := L.1 k hk
      have tr : 0 ≤ z 2 k ∧ z 2 k ≤ 407 := by
        by_cases y : k = 0
        · rw [y, S.1.2.1]; decide
        · have := SI_even S (j := k) (by omega) hk
          unfold clu at this
          omega
      apply q_M_setAt_c6
      rw [A.1, wI_id (z := z 1 0) (by omega) (by omega), wI_id (z := (k : Int)) (by omega) (by omega), show (k : Int).toNat = k by omega, (A.2.1 k hk).1, wI_id (z := z 2 k) (by omega) (by omega), wI_id (z := p) (by omega) (by omega)]
      refine ⟨fun q => by omega, fun _ => ⟨by omega, fun q => H1 b z k jj ⟨k', S, kl, L, A⟩ hk a (by rw [e]; exact q) q (by omega) (SL_0 v S a hk e) fr, fun q => ?_⟩⟩
      rw [show (k : Int) + 1 = ((k + 1 : Nat) : Int) by omega]
      refine ih (k + 1) (by omega) (fun j hj => ?_)
      by_cases y : j = k
      · rw [y]; exact q
      · exact no j (by omega)
  exact key (z 1 0).toNat 0 (by omega) (fun j hj => by omega)
theorem ZR_dir (v : V f g n root mp t R) {z b : AH} (Z : ZR f g n root t R z b) {k jj : Nat} (hk : (k : Int) < z 1 0) (a : al t jj) (e : t 1 jj = z 2 k) : (dirT f t jj → b 45 k = 1) ∧ (¬ dirT f t jj → b 45 k = 0) ∧ rkJ f (Kt t 0) z k = Kt t jj ∧ (∀ i, i < Kt t jj → rwJ f root z k i = R jj i) := by
  obtain ⟨k', S, kl, L, A⟩ := Z
  obtain ⟨r1, r2, r3⟩ := SL_row v a e
  have d := r3 (SL_0 v S a hk e)
  have q := (A.2.1 k hk).2
  exact ⟨fun y => q.1 (d.mpr y), fun y => q.2 (fun x => y (d.mp x)), r1, r2⟩
theorem M_directoryAt {P : Int → AH → Prop} {p : Int} (v : V f g n root mp t R) (X : RX f g n root h) (hp : in32 p) (H1 : ∀ (h' z : AH) (k jj : Nat), ZR f g n root t R z h' → (k : Int) < z 1 0 → al t jj → t 1 jj = p → z 2 k = p → k < 200 → (k = 0 ↔ jj = 0) → dirT f t jj → FN h h' → P k h') (H0 : ∀ h', (∀ jj, al t jj → t 1 jj = p → ¬ dirT f t jj) → FN h h' → P (-9) h') : RunsI G 213 [vR 34, vI p] h P := by
  apply q_M_directoryAt
  refine M_setAt v X hp (fun b z k jj Z hk a e ez k2 k0 fr => ?_) (fun b no fr => ⟨fun _ => H0 b (fun jj a e => absurd e (no jj a)) fr, fun q => absurd (by decide) q⟩)
  have d := ZR_dir v Z hk a (by rw [e, ez])
  rw [wI_id (z := (k : Int)) (by omega) (by omega), show (k : Int).toNat = k by omega]
  refine ⟨fun q => by omega, fun _ => ⟨by omega, ?_⟩⟩
  by_cases y : dirT f t jj
  · rw [d.1 y]
    exact ⟨fun q => absurd q (by decide), fun _ => H1 b z k jj Z hk a e ez k2 k0 y fr⟩
  · rw [d.2.1 y]
    refine ⟨fun _ => H0 b (fun j2 a2 e2 => ?_) fr, fun q => absurd wI_0 q⟩
    have : j2 = jj := V_inj v a2 a (e2.trans e.symm)
    subst this
    exact y
theorem M_fileAt {P : Int → AH → Prop} {p : Int} (v : V f g n root mp t R) (X : RX f g n root h) (hp : in32 p) (H1 : ∀ (h' z : AH) (k jj : Nat), ZR f g n root t R z h' → (k : Int) < z 1 0 → al t jj → t 1 jj = p → z 2 k = p → k < 200 → (k = 0 ↔ jj = 0) → ¬ dirT f t jj → FN h h' → P k h') (H0 : ∀ h', (∀ jj, al t jj → t 1 jj = p → dirT f t jj) → FN h h' → P (-9) h') : RunsI G 214 [vR 34, vI p] h P := by
  apply q_M_fileAt
  refine M_setAt v X hp (fun b z k jj Z hk a e ez k2 k0 fr => ?_) (fun b no fr => ⟨fun _ => H0 b (fun jj a e => absurd e (no jj a)) fr, fun q => absurd (by decide) q⟩)
  have d := ZR_dir v Z hk a (by rw [e, ez])
  rw [wI_id (z := (k : Int)) (by omega) (by omega), show (k : Int).toNat = k by omega]
  refine ⟨fun q => by omega, fun _ => ⟨by omega, ?_⟩⟩
  by_cases y : dirT f t jj
  · rw [d.1 y]
    refine ⟨fun q => absurd q (by decide), fun _ => H0 b (fun j2 a2 e2 => ?_) fr⟩
    have : j2 = jj := V_inj v a2 a (e2.trans e.symm)
    subst this
    exact y
  · rw [d.2.1 y]
    exact ⟨fun _ => H1 b z k jj Z hk a e ez k2 k0 y fr, fun q => absurd wI_0 q⟩
theorem Mo_get (hI : Inv Mo h) (h8 : h 0 8 = 1) : ∃ t R, V (h 3) (h 9) (h 7 1) (h 7 2) (h 7 3) t R ∧ Hd (h 3) t R h ∧ RX (h 3) (h 9) (h 7 1) (h 7 2) h ∧ Gr (h 9) ∧ h 34 2 = h 7 3 := by
  obtain ⟨⟨c1, c2, c3, c4⟩, m⟩ := id hI
  obtain ⟨t, R, v, hd, e2, gr, a, b, c⟩ := m h8
  have hE : E (ub (h 35)) (h 3) := fun k hk => by rw [c1.1.2.1 k hk]; exact (c1.2.2.2 k hk).symm
  exact ⟨t, R, v, hd, ⟨c1.2.1, hE, a, b, e2, Gr_E2 e2 gr⟩, gr, c⟩
theorem M_rowZ {Q : AH → Prop} {b z : AH} {k jj : Nat} (v : V f g n root mp t R) (X : RX f g n root b) (Z : ZR f g n root t R z b) (hk : (k : Int) < z 1 0) (a : al t jj) (e : t 1 jj = z 2 k) (H : ∀ h', Rm h' (Kt t jj) (R jj) → (∀ k, k ≠ 17 → h' 34 k = b 34 k) → (∀ o, o ≠ 34 → o ≠ 39 → h' o = b o) → Q h') : RunsV G 210 [vR 34, vI (k : Int)] b Q := by
  have d := ZR_dir v Z hk a e
  obtain ⟨k', S, kl, L, A⟩ := Z
  refine M_rowS v S X A hk (fun b2 rm p q => H b2 ⟨?_, ?_, fun i hi => ?_⟩ p q)
  · rw [rm.1, d.2.2.1]
  · rw [← d.2.2.1]; exact rm.2.1
  · rw [rm.2.2 i (by rw [d.2.2.1]; exact hi)]; exact d.2.2.2 i hi
/-- the parent of a SET, as the reference has it -/
theorem ZR_par (v : V f g n root mp t R) {z b : AH} (Z : ZR f g n root t R z b) {k jj : Nat} (hk : (k : Int) < z 1 0) (a : al t jj) (e : t 1 jj = z 2 k) (k1 : 1 ≤ k) : ∃ kp : Nat, b 42 k = (kp : Int) ∧ (kp : Int) < z 1 0 ∧ t 1 (pt t jj) = z 2 kp ∧ b 43 k = t 3 jj ∧ b 44 k = 1 + rd f (ha (t 1 jj) + 1) ∧ b 46 k = bR f (t 1 jj) ∧ b 47 k = u4 f (ha (t 1 jj) + 56) ∧ b 48 k = u4 f (ha (t 1 jj) + 52) ∧ b 49 k = u2 f (ha (t 1 jj) + 4) ∧ 1 ≤ jj := by
  obtain ⟨k', S, kl, L, A⟩ := Z
  have j1 : 1 ≤ jj := by have := SL_0 v S a hk e; omega
  obtain ⟨p1, p2, p3, p4, p5⟩ := S.2.2.2.1 k k1 hk
  obtain ⟨q1, q2, q3, q4, q5, q6, q7⟩ := A.2.2.2 k k1 hk
  have s3 := SetOK_3 p5
  obtain ⟨jp, ap, ep⟩ := L.1 (z 3 k).toNat (by omega)
  obtain ⟨r1, r2, r3⟩ := SL_row v ap ep
  have fd := V_find v ap (i := (z 4 k / 4).toNat) (o := z 4 k % 4) (by omega) j1 a (by omega) (by omega) (by rw [e, p4, r2 _ (by omega)])
  refine ⟨(z 3 k).toNat, by rw [q1]; omega, (by omega), by rw [fd.1]; exact ep, by rw [q2, fd.2]; omega, ?_, ?_, ?_, ?_, ?_, j1⟩
  · rw [q3, e]
  · rw [q4, e]
  · rw [q5, e]
  · rw [q6, e]
  · rw [q7, e]
end FIND
