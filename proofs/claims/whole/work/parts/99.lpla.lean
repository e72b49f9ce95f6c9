/-! CLUSTERS that come: the reference plans -/
def Rsv (h : AH) (S : Int → Prop) : Prop := ∀ c : Nat, c < 102 → 2 ≤ c → (h 59 c = 0 ∨ h 59 c = 1) ∧ (h 59 c = 1 ↔ S (c : Int))
section PLA
variable {G : GG} {h : AH} {f : Nat → Int} {mp n X : Int}
theorem M_isFreeR {P : Int → AH → Prop} {S : Int → Prop} {c : Int} (h5 : Sb (h 35)) (hE : E (ub (h 35)) f) (h0 : h 34 0 = n) (h2 : h 34 2 = mp) (hn : 16 ≤ n ∧ n ≤ 100) (hm : 2 ≤ mp ∧ mp ≤ 101) (rs : Rsv h S) (hc : 0 ≤ c ∧ c ≤ 1000) (H1 : (2 ≤ c ∧ c ≤ n + 1) → tb f mp c = 0 → ¬ S c → P 1 h) (H0 : ¬ ((2 ≤ c ∧ c ≤ n + 1) ∧ tb f mp c = 0 ∧ ¬ S c) → P 0 h) : RunsI G 237 [vR 34, vI c] h P := by
  apply q_M_isFree
  rw [h0, wI_id (z := c) (by omega) (by omega), wI_id (z := n + 1) (by omega) (by omega)]
  refine M_in (by omega) (by omega) (by omega) (fun a b => ⟨fun z => absurd z (by decide), fun _ => ?_⟩) (fun no => ⟨fun _ => ⟨Or.inl rfl, H0 (fun z => no z.1)⟩, fun z => absurd wI_0 z⟩)
  refine M_isTaken h5 (by rw [h2]; exact hm) (by omega) ?_
  rw [h2, tb_congr (g := f) hm (by omega) hE]
  have q := rs c.toNat (by omega) (by omega)
  rw [show ((c.toNat : Nat) : Int) = c by omega] at q
  rcases tb_01 f mp c with y | y
  · rw [y]
    refine ⟨fun _ => ⟨by omega, ?_⟩, fun x => absurd wI_0 x⟩
    rcases q.1 with z | z
    · rw [z]
      exact ⟨fun _ => ⟨Or.inr rfl, H1 ⟨a, b⟩ y (fun s => by have := q.2.mpr s; omega)⟩, fun x => absurd wI_0 x⟩
    · rw [z]
      exact ⟨fun x => absurd x (by decide), fun _ => ⟨Or.inl rfl, H0 (fun s => s.2.2 (q.2.mp z))⟩⟩
  · rw [y]
    exact ⟨fun x => absurd x (by decide), fun _ => ⟨Or.inl rfl, H0 (fun s => by have := s.2.1; omega)⟩⟩
theorem M_areFree {P : Int → AH → Prop} {c : Int} {k : Nat} (h5 : Sb (h 35)) (hE : E (ub (h 35)) f) (h0 : h 34 0 = n) (h2 : h 34 2 = mp) (hn : 16 ≤ n ∧ n ≤ 100) (hm : 2 ≤ mp ∧ mp ≤ 101) (rs : Rsv h (fun c => c = X)) (hc : 0 ≤ c ∧ c ≤ 200) (hk : k ≤ 200) (H1 : rw0 f mp n X k c → P 1 h) (H0 : ¬ rw0 f mp n X k c → P 0 h) : RunsI G 242 [vR 34, vI c, vI (k : Int)] h P := by
  have key : ∀ (m i : Nat), i + m = k → (∀ j : Nat, j < i → fre f mp n X (c + j)) → Go G (pI P) 242 5 [some (vR 34), some (vI c), some (vI (k : Int)), some (vI 1), some (vI (i : Int))] [] h := by
    intro m
    induction m with
    | zero =>
      intro i hi a
      apply q_M_areFree_c5
      rw [wI_id (z := (k : Int)) (by omega) (by omega), wI_id (z := (i : Int)) (by omega) (by omega)]
      exact ⟨fun _ => ⟨Or.inr rfl, H1 (fun j hj => a j (by omega))⟩, fun z => by omega⟩
    | succ m ih =>
      intro i hi a
      apply q_M_areFree_c5
      rw [wI_id (z := (k : Int)) (by omega) (by omega), wI_id (z := (i : Int)) (by omega) (by omega)]
      refine ⟨fun z => by omega, fun _ => ⟨fun z => absurd z (by decide), fun _ => ?_⟩⟩
      rw [show (i : Int) + 1 = ((i + 1 : Nat) : Int) by omega]
      refine M_isFreeR h5 hE h0 h2 hn hm rs (by omega) (fun y1 y2 y3 => ih (i + 1) (by omega) (fun j hj => ?_)) (fun y => ?_)
      · by_cases z : j = i
        · rw [z]; exact ⟨y1, y2, y3⟩
        · exact a j (by omega)
      · have no := H0 (fun z => y (z i (by omega)))
        apply q_M_areFree_c5
        exact ⟨fun _ => ⟨Or.inl rfl, no⟩, fun _ => ⟨fun _ => ⟨Or.inl rfl, no⟩, fun z => absurd wI_0 z⟩⟩
  apply q_M_areFree
  exact key k 0 (by omega) (fun j hj => by omega)
theorem M_reserve {P : AH → Prop} {p s : Nat} {c : Int} (p2 : p < 2) (e56 : h 56 p = (s : Int)) (s1 : s < 102) (hc : 0 ≤ c ∧ c < 102) (H : ∀ h', h' 55 (102 * p + s) = c → (∀ x, x ≠ 102 * p + s → h' 55 x = h 55 x) → h' 56 p = ((s + 1 : Nat) : Int) → (∀ x, x ≠ p → h' 56 x = h 56 x) → h' 59 c.toNat = 1 → (∀ x, x ≠ c.toNat → h' 59 x = h 59 x) → (∀ o, o ≠ 55 → o ≠ 56 → o ≠ 59 → h' o = h o) → P h') : RunsV G 241 [vR 34, vI (p : Int), vI c] h P := by
  apply q_M_reserve
  rw [wI_id (z := (p : Int)) (by omega) (by omega), show (p : Int).toNat = p by omega, hs_o _ _ _ _ _ (show (56 : Nat) ≠ 55 by decide), e56, wI_id (z := 102 * (p : Int) + (s : Int)) (by omega) (by omega), wI_id (z := c) (by omega) (by omega), show (102 * (p : Int) + (s : Int)).toNat = 102 * p + s by omega]
  refine ⟨by omega, by omega, by omega, by omega, by omega, Or.inr rfl, H _ ?_ (fun x hx => ?_) ?_ (fun x hx => ?_) ?_ (fun x hx => ?_) (fun o a b d => ?_)⟩
  · rw [hs_o _ _ _ _ _ (by decide), hs_o _ _ _ _ _ (by decide), hs_same]
  · rw [hs_o _ _ _ _ _ (by decide), hs_o _ _ _ _ _ (by decide), hs_k _ _ _ _ _ hx]
  · rw [hs_o _ _ _ _ _ (by decide), hs_same]; omega
  · rw [hs_o _ _ _ _ _ (by decide), hs_k _ _ _ _ _ hx, hs_o _ _ _ _ _ (by decide)]
  · rw [hs_same]
  · rw [hs_k _ _ _ _ _ hx, hs_o _ _ _ _ _ (by decide), hs_o _ _ _ _ _ (by decide)]
  · rw [hs_o _ _ _ _ _ d, hs_o _ _ _ _ _ b, hs_o _ _ _ _ _ a]
/-- what the reference has got so far -/
def Gt (h0 h : AH) (p : Nat) (X : Int) (r : Nat → Int) (i : Nat) : Prop := h 56 p = (i : Int) ∧ (∀ j, j < i → h 55 (102 * p + j) = r j) ∧ Rsv h (fun c => c = X ∨ ∃ j, j < i ∧ c = r j) ∧ (∀ x, x ≠ p → h 56 x = h0 56 x) ∧ (∀ x, (x < 102 * p ∨ 102 * p + 102 ≤ x) → h 55 x = h0 55 x) ∧ (∀ o, ¬ (o = 55 ∨ o = 56 ∨ o = 58 ∨ o = 59) → h o = h0 o)
theorem M_plans {P : Int → AH → Prop} {p k K : Nat} {last wr' : Int} (h5 : Sb (h 35)) (hE : E (ub (h 35)) f) (h0 : h 34 0 = n) (h2 : h 34 2 = mp) (hn : 16 ≤ n ∧ n ≤ 100) (hm : 2 ≤ mp ∧ mp ≤ 101) (p2 : p < 2) (hk : 1 ≤ k ∧ k ≤ 200) (e54 : h 54 p = (K : Int)) (k102 : K ≤ 102) (e53 : 0 < K → h 53 (102 * p + K - 1) = last ∧ 2 ≤ last ∧ last ≤ 101) (e57 : h 57 p = wr') (w01 : wr' = 0 ∨ wr' = 1) (e56 : h 56 p = 0) (rs : Rsv h (fun c => c = X))
    (H0 : cf f mp n X n.toNat < k → P 0 h)
    (H1 : k ≤ cf f mp n X n.toNat → ∀ h', Gt h h' p X (frs f mp n X K last wr' k) k → h' 58 p = rnF f mp n X K last wr' k → (∀ x, x ≠ p → h' 58 x = h 58 x) → P 1 h') : RunsI G 243 [vR 34, vI (p : Int), vI (k : Int)] h P := by
  have cn := cf_le (f := f) (mp := mp) (n := n) (X := X) n.toNat
  have c160 : k ≤ cf f mp n X n.toNat → ∀ at' : Int, at' = atF f mp n X K last wr' k → Go G (pI P) 243 160 [some (vR 34), some (vI (p : Int)), some (vI (k : Int)), none, some (vI at'), none, none] [] h := by
    intro kc at' ea'
    have ar : at' = -9 ∨ (2 ≤ at' ∧ at' + k ≤ n + 2) := by
      by_cases z : at' = -9
      · exact Or.inl z
      · rw [ea'] at z ⊢
        have := rw_le hk.1 (atF_row z)
        exact Or.inr (by omega)
    have fr0 : ∀ i : Nat, i < k → 2 ≤ frs f mp n X K last wr' k i ∧ frs f mp n X K last wr' k i ≤ n + 1 := fun i hi => (frs_fre kc i hi).1
    have res : ∀ (i : Nat) (b : AH) (Q : AH → Prop), i < k → Gt h b p X (frs f mp n X K last wr' k) i → (∀ b2, Gt h b2 p X (frs f mp n X K last wr' k) (i + 1) → (∀ x, b2 58 x = b 58 x) → Q b2) → RunsV G 241 [vR 34, vI (p : Int), vI (frs f mp n X K last wr' k i)] b Q := by
      intro i b Q hi g cont
      have f0 := fr0 i hi
      obtain ⟨g1, g2, g3, g4, g5, g6⟩ := g
      refine M_reserve p2 g1 (by omega) (by omega) (fun b2 a1 a2 a3 a4 a5 a6 a7 => cont b2 ⟨a3, fun j hj => ?_, fun c c1 c2 => ?_, fun x hx => (a4 x hx).trans (g4 x hx), fun x hx => (a2 x (by omega)).trans (g5 x hx), fun o ho => (a7 o (by omega) (by omega) (by omega)).trans (g6 o ho)⟩ (fun x => by rw [a7 58 (by decide) (by decide) (by decide)]))
      · by_cases z : j = i
        · rw [z]; exact a1
        · rw [a2 _ (by omega)]; exact g2 j (by omega)
      · by_cases z : c = (frs f mp n X K last wr' k i).toNat
        · rw [z, a5]
          refine ⟨Or.inr rfl, fun _ => Or.inr ⟨i, by omega, by omega⟩, fun _ => rfl⟩
        · rw [a6 c z]
          have q := g3 c c1 c2
          refine ⟨q.1, fun y => ?_, fun y => q.2.mpr ?_⟩
          · rcases q.2.mp y with w | ⟨j, w1, w2⟩
            · exact Or.inl w
            · exact Or.inr ⟨j, by omega, w2⟩
          · rcases y with w | ⟨j, w1, w2⟩
            · exact Or.inl w
            · by_cases x : j = i
              · rw [x] at w2; clear q; omega
              · exact Or.inr ⟨j, by omega, w2⟩
    have loop : ∀ (m i : Nat) (b : AH), i + m = k → Gt h b p X (frs f mp n X K last wr' k) i → b 58 p = rnF f mp n X K last wr' k → (∀ x, x ≠ p → b 58 x = h 58 x) → Go G (pI P) 243 181 [some (vR 34), some (vI (p : Int)), some (vI (k : Int)), none, some (vI at'), some (vI (i : Int)), none] [] b := by
      intro m
      induction m with
      | zero =>
        intro i b hi g b8 b8'
        apply q_M_plans_c181
        rw [wI_id (z := (k : Int)) (by omega) (by omega), wI_id (z := (i : Int)) (by omega) (by omega)]
        rw [show i = k by omega] at g
        exact ⟨fun _ => ⟨Or.inr rfl, H1 kc b g b8 b8'⟩, fun z => by omega⟩
      | succ m ih =>
        intro i b hi g b8 b8'
        have hik : i < k := (by omega)
        apply q_M_plans_c181
        rw [wI_id (z := (k : Int)) (by omega) (by omega), wI_id (z := (i : Int)) (by omega) (by omega), wI_id (z := at') (by omega) (by omega), show (i : Int) + 1 = ((i + 1 : Nat) : Int) by omega]
        refine ⟨fun z => by omega, fun _ => ⟨fun z => ?_, fun z => ?_⟩⟩
        · have frE : ∀ j, frs f mp n X K last wr' k j = fi f mp n X n.toNat j := fun j => by unfold frs; rw [← ea', if_pos z]
          have f0 := fr0 i hik
          have ff := fi_fre (f := f) (mp := mp) (n := n) (X := X) n.toNat (show i < cf f mp n X n.toNat by omega)
          have b5 : b 35 = h 35 := g.2.2.2.2.2 35 (by decide)
          have b34 : b 34 = h 34 := g.2.2.2.2.2 34 (by decide)
          have sk : ∀ (q : Nat) (c : Int), c + q = frs f mp n X K last wr' k i → 2 ≤ c → Go G (pI P) 243 204 [some (vR 34), some (vI (p : Int)), some (vI (k : Int)), none, some (vI at'), some (vI (i : Int)), some (vI c)] [] b := by
            intro q
            induction q with
            | zero =>
              intro c hc c2
              have ec : c = frs f mp n X K last wr' k i := (by omega)
              apply q_M_plans_c204
              rw [show (i : Int) + 1 = ((i + 1 : Nat) : Int) by omega]
              refine M_isFreeR (by rw [b5]; exact h5) (by rw [b5]; exact hE) (by rw [b34]; exact h0) (by rw [b34]; exact h2) hn hm g.2.2.1 (by omega) (fun _ _ _ => ⟨fun y => absurd y (by decide), fun _ => ?_⟩) (fun no => absurd ?_ no)
              · rw [ec]
                exact res i b _ hik g (fun b2 g2 s2 => ih (i + 1) b2 (by omega) g2 ((s2 p).trans b8) (fun x hx => (s2 x).trans (b8' x hx)))
              · rw [ec]
                have fr := frs_fre (K := K) (last := last) (wr' := wr') kc i hik
                refine ⟨fr.1, fr.2.1, ?_⟩
                rintro (w | ⟨j, w1, w2⟩)
                · exact fr.2.2 w
                · have := frs_ne (K := K) (last := last) (wr' := wr') kc j i w1 hik
                  omega
            | succ q iq =>
              intro c hc c2
              apply q_M_plans_c204
              refine M_isFreeR (by rw [b5]; exact h5) (by rw [b5]; exact hE) (by rw [b34]; exact h0) (by rw [b34]; exact h2) hn hm g.2.2.1 (by omega) (fun y1 y2 y3 => ?_) (fun _ => ⟨fun _ => iq (c + 1) (by omega) (by omega), fun y => absurd wI_0 y⟩)
              refine absurd ?_ y3
              by_cases w : c = X
              · exact Or.inl w
              · obtain ⟨j, j1, j2⟩ := fi_all (f := f) (mp := mp) (n := n) (X := X) n.toNat ⟨y1, y2, w⟩ (by omega)
                refine Or.inr ⟨j, ?_, by rw [frE, j2]⟩
                rcases Nat.lt_trichotomy j i with x | x | x
                · exact x
                · rw [x, ← frE] at j2; omega
                · have := fi_lt (f := f) (mp := mp) (n := n) (X := X) n.toNat x j1
                  rw [j2, ← frE] at this
                  omega
          exact sk (frs f mp n X K last wr' k i - 2).toNat 2 (by omega) (by omega)
        · have fe : at' + (i : Int) = frs f mp n X K last wr' k i := by unfold frs; rw [← ea', if_neg z]
          rw [fe]
          exact res i b _ hik g (fun b2 g2 s2 => ih (i + 1) b2 (by omega) g2 ((s2 p).trans b8) (fun x hx => (s2 x).trans (b8' x hx)))
    have st0 : ∀ v, v = rnF f mp n X K last wr' k → Go G (pI P) 243 181 [some (vR 34), some (vI (p : Int)), some (vI (k : Int)), none, some (vI at'), some (vI 0), none] [] (hs h 58 p v) := by
      intro v ev
      refine loop k 0 _ (by omega) ⟨by rw [hs_o _ _ _ _ _ (by decide)]; exact e56, fun j hj => absurd hj (Nat.not_lt_zero _), fun c c1 c2 => ?_, fun x _ => by rw [hs_o _ _ _ _ _ (by decide)], fun x _ => by rw [hs_o _ _ _ _ _ (by decide)], fun o ho => hs_o _ _ _ _ _ (by omega)⟩ (by rw [hs_same, ev]) (fun x hx => hs_k _ _ _ _ _ hx)
      rw [hs_o _ _ _ _ _ (by decide)]
      have q := rs c c1 c2
      refine ⟨q.1, fun y => Or.inl (q.2.mp y), fun y => q.2.mpr ?_⟩
      rcases y with w | ⟨j, w1, w2⟩
      · exact w
      · omega
    apply q_M_plans_c160
    rw [wI_id (z := at') (by omega) (by omega), wI_id (z := (p : Int)) (by omega) (by omega), show (p : Int).toNat = p by omega]
    exact ⟨fun z => ⟨by omega, Or.inl rfl, st0 0 (by unfold rnF; rw [← ea', if_pos z])⟩, fun z => ⟨by omega, Or.inr rfl, st0 1 (by unfold rnF; rw [← ea', if_neg z])⟩⟩
  have c67 : k ≤ cf f mp n X n.toNat → K = 0 → ∀ (q m : Nat), m + q = n.toNat → Go G (pI P) 243 67 [some (vR 34), some (vI (p : Int)), some (vI (k : Int)), none, some (vI (rf f mp n X k m)), some (vI (n + 1 - (m : Int))), none] [] h := by
    intro kc K0 q
    induction q with
    | zero =>
      intro m hq
      apply q_M_plans_c67
      rw [wI_id (z := n + 1 - (m : Int)) (by omega) (by omega)]
      refine ⟨fun _ => c160 kc _ ?_, fun z => by omega⟩
      unfold atF
      rw [if_pos K0, show m = n.toNat by omega]
    | succ q ih =>
      intro m hq
      apply q_M_plans_c67
      rw [wI_id (z := n + 1 - (m : Int)) (by omega) (by omega), show n + 1 - (m : Int) + -1 = n + 1 - ((m + 1 : Nat) : Int) by omega]
      have i1 := ih (m + 1) (by omega)
      refine ⟨fun z => by omega, fun _ => M_areFree h5 hE h0 h2 hn hm rs (by omega) hk.2 (fun y => ⟨fun z => absurd z (by decide), fun _ => ?_⟩) (fun y => ⟨fun _ => ?_, fun z => absurd wI_0 z⟩)⟩
      · rw [rf, if_pos y] at i1
        exact i1
      · rw [rf, if_neg y] at i1
        exact i1
  have key : ∀ (q m : Nat), m + q = n.toNat → Go G (pI P) 243 5 [some (vR 34), some (vI (p : Int)), some (vI (k : Int)), some (vI (cf f mp n X m : Int)), some (vI ((m : Int) + 2)), none, none] [] h := by
    intro q
    induction q with
    | zero =>
      intro m hq
      apply q_M_plans_c5
      have em : m = n.toNat := (by omega)
      rw [h0, wI_id (z := n + 1) (by omega) (by omega), wI_id (z := (m : Int) + 2) (by omega) (by omega), wI_id (z := (k : Int)) (by omega) (by omega), wI_id (z := (cf f mp n X m : Int)) (by rw [em]; omega) (by rw [em]; omega), wI_id (z := (p : Int)) (by omega) (by omega), show (p : Int).toNat = p by omega, e54, e57, wI_id (z := (K : Int)) (by omega) (by omega)]
      rw [em]
      refine ⟨fun _ => ⟨fun kc => ⟨by omega, fun K0 => ?_, fun K0 => ⟨by omega, fun z => ?_, fun z => ⟨by omega, ?_⟩⟩⟩, fun kc => ⟨Or.inl rfl, H0 (by omega)⟩⟩, fun z => by omega⟩
      · have c := c67 (by omega) (by omega) n.toNat 0 (by omega)
        rw [show n + 1 - ((0 : Nat) : Int) = n + 1 by omega] at c
        exact c
      · refine c160 (by omega) _ ?_
        unfold atF
        rw [if_neg (show ¬ K = 0 by omega), if_neg (fun y => by rw [y.1] at z; exact absurd z (by decide))]
      · have w1 : wr' = 1 := by
          rcases w01 with w | w
          · rw [w] at z; exact absurd wI_0 z
          · exact w
        have l := e53 (by omega)
        rw [wI_id (z := 102 * (p : Int) + (K : Int) - 1) (by omega) (by omega), show (102 * (p : Int) + (K : Int) - 1).toNat = 102 * p + K - 1 by omega, l.1]
        refine ⟨by omega, M_areFree h5 hE h0 h2 hn hm rs (by omega) hk.2 (fun y => ⟨fun x => absurd x (by decide), fun _ => ⟨by omega, ?_⟩⟩) (fun y => ⟨fun _ => ?_, fun x => absurd wI_0 x⟩)⟩
        · rw [e54, wI_id (z := 102 * (p : Int) + (K : Int) - 1) (by omega) (by omega), show (102 * (p : Int) + (K : Int) - 1).toNat = 102 * p + K - 1 by omega, l.1]
          refine ⟨by omega, c160 (by omega) _ ?_⟩
          unfold atF
          rw [if_neg (show ¬ K = 0 by omega), if_pos ⟨w1, y⟩]
        · refine c160 (by omega) _ ?_
          unfold atF
          rw [if_neg (show ¬ K = 0 by omega), if_neg (fun x => y x.2)]
    | succ q ih =>
      intro m hq
      have i1 := ih (m + 1) (by omega)
      apply q_M_plans_c5
      rw [h0, wI_id (z := n + 1) (by omega) (by omega), wI_id (z := (m : Int) + 2) (by omega) (by omega)]
      rw [show ((m + 1 : Nat) : Int) + 2 = (m : Int) + 2 + 1 by omega] at i1
      refine ⟨fun z => by omega, fun _ => M_isFreeR h5 hE h0 h2 hn hm rs (by omega) (fun y1 y2 y3 => ⟨fun z => absurd z (by decide), fun _ => ?_⟩) (fun y => ⟨fun _ => ?_, fun z => absurd wI_0 z⟩)⟩
      · rw [cf, if_pos ⟨y1, y2, y3⟩, show ((cf f mp n X m + 1 : Nat) : Int) = (cf f mp n X m : Int) + 1 by omega] at i1
        exact i1
      · rw [cf, if_neg (fun z => y z)] at i1
        rw [show (cf f mp n X m : Int) + 0 = (cf f mp n X m : Int) by omega]
        exact i1
  apply q_M_plans
  exact key n.toNat 0 (by omega)
end PLA
