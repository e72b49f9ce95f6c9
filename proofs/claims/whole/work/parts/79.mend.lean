/-! mending, what is pure, and the class -/
theorem Fl_cg {T : Nat} {d w d2 w2 : Nat → Int} {f n r f' n' : Int} {d' : Nat → Int} (hT : T ≤ 216) (hd : ∀ k, k < 13824 → d k = d2 k) (hw : ∀ k, k < 13824 → w k = w2 k) (h : Fl T d w f n r d' f' n') : Fl T d2 w2 f n r d' f' n' := by
  have mx : ∀ t k, k < 13824 → mix d w t k = mix d2 w2 t k := fun t k hk => by
    unfold mix
    split
    · exact hw k hk
    · exact hd k hk
  have c : ∀ t, t ≤ 216 → cn d w t = cn d2 w2 t := fun t ht => cn_eq hd hw ht
  rcases h with ⟨a, b, e, g, i⟩ | ⟨a, t, b, e, g, i, j, k⟩
  · rw [c T hT] at b g i
    exact Or.inl ⟨a, b, fun k hk => (e k hk).trans (mx T k hk), g, i⟩
  · rw [c t (by omega)] at g k
    exact Or.inr ⟨a, t, b, dif_eq hd hw (by omega) e, g, fun k hk => (i k hk).trans (mx t k hk), j, k⟩
theorem nodif {d w : Nat → Int} {s : Nat} (h : ∀ k, 64 * s ≤ k → k < 64 * s + 64 → d k = w k) : ¬ dif d w s := fun ⟨k, a, b, c⟩ => c (h k a b)
theorem Fl_same {d w : Nat → Int} {f n r f' n' : Int} {d' : Nat → Int} (hf : 0 ≤ f) (hd : ∀ k, k < 13824 → d k = w k) (h : Fl 216 d w f n r d' f' n') : r = 1 ∧ (∀ k, k < 13824 → d' k = w k) ∧ f' = f ∧ n' = n := by
  have nd : ∀ s, s < 216 → ¬ dif d w s := fun s hs9 => nodif (fun k a b => hd k (by omega))
  have c0 : cn d w 216 = 0 := cn_0 nd
  rcases h with ⟨a, b, e, g, i⟩ | ⟨a, t, b, e, g, i, j, k⟩
  · rw [c0] at g i
    refine ⟨a, fun k hk => (e k hk).trans ?_, ?_, by omega⟩
    · unfold mix; rw [if_pos (by omega)]
    · rw [g]; split <;> omega
  · exact absurd e (nd t b)
theorem Fl_comp {T : Nat} {d w d1 : Nat → Int} {f n f1 n1 r f' n' : Int} {d' : Nat → Int} (hf : 0 ≤ f) (hT : T ≤ 216) (a : Fl T d w f n 1 d1 f1 n1) (b : Fl 216 d1 w f1 n1 r d' f' n') : Fl 216 d w f n r d' f' n' := by
  rcases a with ⟨_, a1, a2, a3, a4⟩ | ⟨a, _⟩
  · have nd : ∀ s, s < T → ¬ dif d1 w s := fun s hs9 => nodif (fun k p q => by
      rw [a2 k (by omega)]
      unfold mix
      rw [if_pos (by omega)])
    have cm : ∀ m : Nat, T + m ≤ 216 → cn d1 w (T + m) + cn d w T = cn d w (T + m) := by
      intro m
      induction m with
      | zero => intro _; rw [Nat.add_zero, cn_0 nd]; omega
      | succ m ih =>
        intro hm
        have ih' := ih (by omega)
        have dm := dif_mix (d := d) (w := w) (g := d1) (s := T + m) (t := T) (by omega) (by omega) a2
        rw [← Nat.add_assoc]
        by_cases q : dif d w (T + m)
        · rw [cn_pos q, cn_pos (dm.mpr q)]; omega
        · rw [cn_neg q, cn_neg (fun z => q (dm.mp z))]; exact ih'
    have cm' : ∀ t, T ≤ t → t ≤ 216 → cn d1 w t + cn d w T = cn d w t := fun t p q => by
      have := cm (t - T) (by omega)
      rw [show T + (t - T) = t by omega] at this
      exact this
    have mx : ∀ t k, T ≤ t → k < 13824 → mix d1 w t k = mix d w t k := fun t k p hk => by
      unfold mix
      split
      · rfl
      · rw [a2 k hk]
        unfold mix
        rw [if_neg (by omega)]
    rcases b with ⟨b, b1, b2, b3, b4⟩ | ⟨b, t, b1, b2, b3, b4, b5, b6⟩
    · have c := cm' 216 hT (Nat.le_refl _)
      refine Or.inl ⟨b, ?_, fun k hk => (b2 k hk).trans (mx 216 k hT hk), ?_, by omega⟩
      · by_cases z : f = 0
        · exact Or.inl z
        · rw [if_neg z] at a3
          refine Or.inr ?_
          omega
      · by_cases z : f = 0
        · rw [if_pos z] at a3 ⊢
          rw [a3] at b3
          exact b3
        · rw [if_neg z] at a3 ⊢
          rw [b3]
          split <;> omega
    · have tT : T ≤ t := by
        by_cases z : t < T
        · exact absurd b2 (nd t z)
        · omega
      have c := cm' t tT (by omega)
      refine Or.inr ⟨b, t, b1, (dif_mix (d := d) (w := w) (g := d1) (by omega) tT a2).mp b2, ?_, fun k hk => (b4 k hk).trans (mx t k tT hk), b5, by omega⟩
      by_cases z : f = 0
      · rw [if_pos z] at a3; omega
      · rw [if_neg z] at a3; omega
  · exact absurd a (by decide)
theorem Fl_up {T : Nat} {d w : Nat → Int} {f n f' n' : Int} {d' : Nat → Int} (hT : T ≤ 216) (a : Fl T d w f n 0 d' f' n') : Fl 216 d w f n 0 d' f' n' := by
  rcases a with ⟨a, _⟩ | ⟨a, t, b, c⟩
  · exact absurd a (by decide)
  · exact Or.inr ⟨a, t, (by omega), c⟩
theorem Fl_1 {d w : Nat → Int} {f n f' n' : Int} {d' : Nat → Int} (a : Fl 216 d w f n 1 d' f' n') : ∀ k, k < 13824 → d' k = w k := by
  rcases a with ⟨_, _, a, _⟩ | ⟨a, _⟩
  · exact fun k hk => by rw [a k hk]; unfold mix; rw [if_pos (by omega)]
  · exact absurd a (by decide)
theorem Fl_f {d w : Nat → Int} {f n r f' n' : Int} {d' : Nat → Int} (hf : 0 ≤ f ∧ f ≤ 1000) (a : Fl 216 d w f n r d' f' n') : 0 ≤ f' ∧ f' ≤ 1000 := by
  rcases a with ⟨_, a1, _, a3, _⟩ | ⟨_, t, _, _, _, _, a, _⟩
  · rw [a3]; split <;> omega
  · omega
def bt (f : Nat → Int) : Nat → Int := fun k => if k < 256 then f (k + 256) else f k
def fb (f : Nat → Int) (a : Int) : Nat → Int := if a = 0 then f else bt f
noncomputable def own (f : Nat → Int) (root : Int) (K : Nat) (mp tb' : Int) : Nat → Int := fun c => @ite _ (RM f root K (c : Int)) (Classical.propDecidable _) 0 (if (c : Int) = mp then -2 else if (c : Int) = tb' then -3 else -1)
noncomputable def s0 (f : Nat → Int) (root : Int) (K : Nat) (mp tb' : Int) : AH := up (up (up (fun _ _ => 0) 0 (own f root K mp tb')) 1 (fun _ => 1)) 5 f
theorem s0_0 (f : Nat → Int) (root : Int) (K : Nat) (mp tb' : Int) : s0 f root K mp tb' 0 = own f root K mp tb' := by unfold s0; rw [up_n _ _ (by decide), up_n _ _ (by decide), up_s]
theorem s0_1 (f : Nat → Int) (root : Int) (K : Nat) (mp tb' : Int) : s0 f root K mp tb' 1 0 = 1 := by unfold s0; rw [up_n _ _ (by decide), up_s]
theorem s0_2 (f : Nat → Int) (root : Int) (K : Nat) (mp tb' : Int) : s0 f root K mp tb' 2 = fun _ => 0 := by unfold s0; rw [up_n _ _ (by decide), up_n _ _ (by decide), up_n _ _ (by decide)]
theorem s0_5 (f : Nat → Int) (root : Int) (K : Nat) (mp tb' : Int) : s0 f root K mp tb' 5 = f := by unfold s0; rw [up_s]
theorem s0_6 (f : Nat → Int) (root : Int) (K : Nat) (mp tb' : Int) : s0 f root K mp tb' 6 0 = 0 := by unfold s0; rw [up_n _ _ (by decide), up_n _ _ (by decide), up_n _ _ (by decide)]
theorem own_met {f : Nat → Int} {root : Int} {K : Nat} {mp tb' : Int} {x : Int} (x0 : 0 ≤ x) : (RM f root K x ∨ x = mp ∨ x = tb') ↔ own f root K mp tb' x.toNat ≠ -1 := by
  unfold own
  rw [show ((x.toNat : Nat) : Int) = x by omega]
  by_cases a : RM f root K x
  · rw [if_pos a]; exact ⟨fun _ => by decide, fun _ => Or.inl a⟩
  · rw [if_neg a]
    split
    · rename_i b; exact ⟨fun _ => by decide, fun _ => Or.inr (Or.inl b)⟩
    · rename_i b
      split
      · rename_i c; exact ⟨fun _ => by decide, fun _ => Or.inr (Or.inr c)⟩
      · rename_i c
        refine ⟨fun z => ?_, fun z => absurd rfl z⟩
        rcases z with z | z | z
        · exact absurd z a
        · exact absurd z b
        · exact absurd z c
theorem SI_0 {f g : Nat → Int} {n root md : Int} {K : Nat} {mp tb' : Int} (hf : By f) (w : RWok f n root K) : SI f g n root K md (s0 f root K mp tb') 0 0 := by
  have s1 := s0_1 f root K mp tb'
  have s2 := s0_2 f root K mp tb'
  have s5 := s0_5 f root K mp tb'
  have j0 : ∀ j : Nat, (j : Int) < s0 f root K mp tb' 1 0 → j = 0 := fun j hj => by rw [s1] at hj; omega
  have rk : ∀ j : Nat, rkJ f K (s0 f root K mp tb') j = K := fun j => by unfold rkJ rkP; rw [s2, if_pos rfl]
  have rw' : ∀ j : Nat, rwJ f root (s0 f root K mp tb') j = tc f 0 root := fun j => by unfold rwJ rwP; rw [s2, if_pos rfl]
  refine ⟨⟨by rw [s1]; decide, by rw [s2], fun j a b => by have := j0 j b; omega⟩, fun j hj i hi => ?_, fun j hj i i' a b => ?_, fun j a b => by have := j0 j b; omega, fun j j' a b => by have := j0 j' b; omega, fun j hj _ _ _ => ?_, fun j j' a b c => by have := j0 j' c; omega, ⟨fun q a b => by omega, fun _ d a => by omega⟩, ⟨fun _ => s5, by rw [s5]; exact hf, fun a _ => by rw [s5], fun c _ _ => Or.inl (fun j _ _ => by rw [s5]), fun a _ _ _ => by rw [s5], fun j _ _ _ q _ _ _ => by rw [s5], fun c _ _ a _ _ => by rw [s5]⟩, fun j a b => by have := j0 j b; omega⟩
  · rw [rk] at hi
    rw [rw', s0_0, s2]
    refine ⟨w.1.2.1 i hi, ?_⟩
    unfold own
    have c := w.1.2.1 i hi
    unfold clu at c
    rw [if_pos ⟨i, hi, by omega⟩]
  · rw [rk] at b
    rw [rw']
    exact w.1.2.2 i i' a b
  · rw [rk, rw']
    exact w.2
theorem TW_end_SI {f g : Nat → Int} {n root md : Int} {K0 : Nat} {x y : Int} {z s : AH} {k : Nat} (T : TW f g n root K0 md 0 x y z k s) : ∃ k' : Nat, SI f g n root K0 md z k' 0 ∧ z 1 0 ≤ (k' : Int) :=
  T (fun _ _ => ∃ k' : Nat, SI f g n root K0 md z k' 0 ∧ z 1 0 ≤ (k' : Int)) (fun k s _ a b c => ⟨k, by rw [← c]; exact b, by rw [← c]; exact a⟩) (fun _ _ _ _ _ a => a) (fun _ _ _ _ _ a => absurd rfl a) (fun _ _ _ _ _ _ a => a)
theorem bt_hi (f : Nat → Int) {a : Int} (h : 256 ≤ a) : rd (bt f) a = rd f a := by unfold rd bt; rw [if_neg (by omega)]
theorem fb_hi (f : Nat → Int) (b : Int) {a : Int} (h : 256 ≤ a) : rd (fb f b) a = rd f a := by
  unfold fb
  split
  · rfl
  · exact bt_hi f h
theorem By_bt {f : Nat → Int} (h : By f) : By (bt f) := fun k hk => by
  unfold bt
  split
  · exact h _ (by omega)
  · exact h k hk
theorem By_fb {f : Nat → Int} (h : By f) (b : Int) : By (fb f b) := by
  unfold fb
  split
  · exact h
  · exact By_bt h
theorem RWok_fb {f : Nat → Int} {n root b : Int} {K : Nat} (w : RWok f n root K) : RWok (fb f b) n root K ∧ ∀ i, i ≤ K → tc (fb f b) 0 root i = tc f 0 root i := by
  have t : ∀ i, i ≤ K → tc (fb f b) 0 root i = tc f 0 root i := tc_sm (fun i hi => Or.inr (by
    have c := w.1.2.1 i hi
    unfold clu at c
    exact u4_cg (fun j _ _ => fb_hi f b (by omega))))
  refine ⟨⟨⟨w.1.1, fun i hi => by rw [t i (by omega)]; exact w.1.2.1 i hi, fun i j a b => by rw [t i (by omega), t j (by omega)]; exact w.1.2.2 i j a b⟩, by rw [t K (Nat.le_refl K)]; exact w.2⟩, t⟩
def MDr (f : Nat → Int) (a : Int) (K : Nat) (g : Nat → Int) (n root mp tb' fi ni r : Int) (d' : Nat → Int) (f' n' : Int) : Prop :=
  (r = -7 ∧ Fl 216 f (fb f a) fi ni 0 d' f' n') ∨ ∃ d1 fi1 ni1 g' z, Fl 216 f (fb f a) fi ni 1 d1 fi1 ni1 ∧ E2 g' g ∧ TW (fb f a) g' n root K 1 0 0 0 z 0 (s0 (fb f a) root K mp tb') ∧
    ((r = -7 ∧ Fl 216 (fb f a) (z 5) fi1 ni1 0 d' f' n') ∨ ∃ d2 fi2 ni2 rr, Fl 216 (fb f a) (z 5) fi1 ni1 1 d2 fi2 ni2 ∧ Fl 216 (z 5) (lyb (z 5) mp (fun x => z 0 x.toNat ≠ -1) n ((n + 7) / 8).toNat) fi2 ni2 rr d' f' n' ∧
      ((rr = 0 ∧ r = -7) ∨ (rr = 1 ∧ ((r = z 6 0 ∧ Bmp (z 5) mp (fun x => z 0 x.toNat ≠ -1) n) ∨ (r = z 6 0 + 1 ∧ ¬ Bmp (z 5) mp (fun x => z 0 x.toNat ≠ -1) n)))))
section MENDC
variable {G : GG} {h : AH}
theorem H_mendBoot {P : Int → AH → Prop} {a : Int} (hs9 : Syn h) (hf : 0 ≤ h 1 3 ∧ h 1 3 ≤ 1000) (h14 : h 17 14 = (if a = 0 then 0 else 1))
    (H : ∀ r h', Fl 216 (h 2) (fb (h 3) a) (h 1 3) (h 1 4) r (h' 2) (h' 1 3) (h' 1 4) → (r = 0 ∨ r = 1) → Syn h' → (r = 1 → h' 3 = fb (h 3) a) → (∀ k, k ≠ 3 → k ≠ 4 → h' 1 k = h 1 k) → (∀ o, o ≠ 1 → o ≠ 2 → o ≠ 3 → o ≠ 4 → h' o = h o) → P r h') : RunsI G 42 [vR 17] h P := by
  apply q_H_mendBoot
  have fin : ∀ b : AH, Dk b → b 3 = fb (h 3) a → (∀ o, o ≠ 3 → o ≠ 4 → b o = h o) → RunsI G 64 [vR 1] b (fun r1 h1 => ((r1 = 0 ∨ r1 = 1) ∧ P r1 h1)) := by
    intro b db b3 ob
    have o1 : b 1 = h 1 := ob 1 (by decide) (by decide)
    have o2 : b 2 = h 2 := ob 2 (by decide) (by decide)
    refine D_flush db (by rw [o1]; exact hf) (fun r h' f1 r01 sy e3 k1 o4 => ⟨r01, H r h' ?_ r01 sy (fun z => (e3 z).trans b3) (fun k p q => (k1 k p q).trans (by rw [o1])) (fun o p q r s => (o4 o p q r s).trans (ob o r s))⟩)
    rw [o2, b3, o1] at f1
    exact f1
  by_cases a0 : a = 0
  · rw [if_pos a0] at h14
    apply q_H_mendBoot_c2
    rw [h14]
    have e : fb (h 3) a = h 3 := by unfold fb; rw [if_pos a0]
    exact ⟨fun c => absurd c (by decide), fun _ => ⟨fun _ => fin h hs9.1 e.symm (fun _ _ _ => rfl), fun c => absurd wI_0 c⟩⟩
  · rw [if_neg a0] at h14
    have e : fb (h 3) a = bt (h 3) := by unfold fb; rw [if_neg a0]
    have key : ∀ (m j : Nat) (b : AH), j + m = 256 → Upd h b (fun k => if k < j then h 3 (k + 256) else h 3 k) → Go G (pI P) 42 2 [some (vR 17), some (vI (j : Int))] [] b := by
      intro m
      induction m with
      | zero =>
        intro j b hj u
        have ej : j = 256 := (by omega)
        subst ej
        apply q_H_mendBoot_c2
        refine ⟨fun _ => fin b u.1 (by rw [u.2.1, e]; rfl) u.2.2, fun c => absurd (by decide) c⟩
      | succ m ih =>
        intro j b hj u
        apply q_H_mendBoot_c2
        rw [wI_id (z := (j : Int)) (by omega) (by omega), u.2.2 17 (by decide) (by decide), h14]
        refine ⟨fun c => by omega, fun _ => ⟨fun c => absurd c (by decide), fun _ => ?_⟩⟩
        refine D_get (by omega) (by omega) (D_put u.1 (by omega) (by omega) (fun b2 u2 => ?_))
        rw [show (j : Int) + 1 = ((j + 1 : Nat) : Int) by omega]
        refine ih (j + 1) b2 (by omega) (u.trans ?_)
        have eq : wr (b 3) (j : Int) (rd (b 3) (256 + (j : Int)) % 256) = fun k => if k < j + 1 then h 3 (k + 256) else h 3 k := by
          rw [u.2.1]
          funext k
          unfold wr rd
          have by' := hs9.1.2.1 (j + 256) (by omega)
          by_cases q : k = j
          · rw [if_pos (by omega), if_pos (by omega)]
            show (if (256 + (j : Int)).toNat < j then h 3 ((256 + (j : Int)).toNat + 256) else h 3 (256 + (j : Int)).toNat) % 256 = h 3 (k + 256)
            rw [if_neg (by omega), show (256 + (j : Int)).toNat = j + 256 by omega, q]
            omega
          · rw [if_neg (by omega)]
            show (if k < j then h 3 (k + 256) else h 3 k) = _
            by_cases q2 : k < j
            · rw [if_pos q2, if_pos (by omega)]
            · rw [if_neg q2, if_neg (by omega)]
        rw [eq] at u2
        exact u2
    have u0 : Upd h h (fun k => if k < 0 then h 3 (k + 256) else h 3 k) := by
      have := Upd.rf hs9.1
      have e0 : (fun k => if k < 0 then h 3 (k + 256) else h 3 k) = h 3 := by
        funext k
        rw [if_neg (by omega)]
      rw [e0]
      exact this
    exact key 256 0 h rfl u0
theorem H_mendRest {P : Int → AH → Prop} {w : Nat → Int} {M : Int → Prop} (hd : Dk h) (hw : h 3 = w) (hf : 0 ≤ h 1 3 ∧ h 1 3 ≤ 1000) (hn : 16 ≤ h 7 1 ∧ h 7 1 ≤ 100) (hp : 2 ≤ h 7 3 ∧ h 7 3 ≤ 101) (hm : Mt (h 24) M) (lo : ∀ k, k < 512 → h 2 k = h 3 k)
    (H0 : ∀ h', Fl 216 (h 2) w (h 1 3) (h 1 4) 0 (h' 2) (h' 1 3) (h' 1 4) → Syn h' → h' 17 = h 17 → (∀ k, k ≠ 3 → k ≠ 4 → h' 1 k = h 1 k) → (∀ o, o ≠ 1 → o ≠ 2 → o ≠ 3 → o ≠ 4 → h' o = h o) → P 0 h')
    (H1 : ∀ h' d1 f1 n1 rr, Fl 216 (h 2) w (h 1 3) (h 1 4) 1 d1 f1 n1 → Fl 216 w (lyb w (h 7 3) M (h 7 1) ((h 7 1 + 7) / 8).toNat) f1 n1 rr (h' 2) (h' 1 3) (h' 1 4) → (rr = 0 ∨ rr = 1) → Syn h' → ((Bmp w (h 7 3) M (h 7 1) ∧ h' 17 13 = h 17 13) ∨ (¬ Bmp w (h 7 3) M (h 7 1) ∧ h' 17 13 = h 17 13 + 1)) → (∀ k, k ≠ 13 → h' 17 k = h 17 k) → (∀ k, k ≠ 3 → k ≠ 4 → h' 1 k = h 1 k) → (∀ o, o ≠ 1 → o ≠ 2 → o ≠ 3 → o ≠ 4 → o ≠ 17 → h' o = h o) → P rr h') : RunsI G 43 [vR 17] h P := by
  apply q_H_mendRest
  refine D_flush2 (a := 8) (b := 14) hd (by omega) (by omega) hf (fun s hs9 => nodif (fun k a b => lo k (by omega))) (fun r b f1 db f3 f4 k1 o1 => ?_)
  rw [hw] at f1
  have r01 : r = 0 ∨ r = 1 := by rcases f1 with ⟨q, _⟩ | ⟨q, _⟩ <;> omega
  rcases r01 with r0 | r1
  · subst r0
    exact ⟨fun _ => ⟨Or.inl rfl, H0 b (Fl_up (by omega) f1) ⟨db, f4 rfl⟩ (o1 17 (by decide) (by decide) (by decide) (by decide)) k1 o1⟩, fun z => absurd wI_0 z⟩
  · subst r1
    refine ⟨fun z => absurd z (by decide), fun _ => ?_⟩
    have b3 : b 3 = w := (f3 rfl).1.trans hw
    have bf : 0 ≤ b 1 3 ∧ b 1 3 ≤ 1000 := by
      rcases f1 with ⟨_, a1, _, a3, _⟩ | ⟨a, _⟩
      · rw [a3]; split <;> omega
      · exact absurd a (by decide)
    refine D_flush db bf (fun r c g1 r01 sy e3 k2 o2 => ?_)
    rw [b3] at g1
    have G1 := Fl_comp hf.1 (by omega) f1 g1
    have k12 : ∀ k, k ≠ 3 → k ≠ 4 → c 1 k = h 1 k := fun k p q => (k2 k p q).trans (k1 k p q)
    have o12 : ∀ o, o ≠ 1 → o ≠ 2 → o ≠ 3 → o ≠ 4 → c o = h o := fun o p q r s => (o2 o p q r s).trans (o1 o p q r s)
    rcases r01 with r0 | r1
    · subst r0
      exact ⟨fun _ => ⟨Or.inl rfl, H0 c G1 sy (o12 17 (by decide) (by decide) (by decide) (by decide)) k12 o12⟩, fun z => absurd wI_0 z⟩
    · subst r1
      refine ⟨fun z => absurd z (by decide), fun _ => ?_⟩
      have c3 : c 3 = w := (e3 rfl).trans b3
      have c7 : c 7 = h 7 := o12 7 (by decide) (by decide) (by decide) (by decide)
      have cf := Fl_f hf G1
      have c2 : ∀ k, k < 13824 → c 2 k = w k := Fl_1 G1
      have m24 : Mt (c 24) M := by rw [o12 24 (by decide) (by decide) (by decide) (by decide)]; exact hm
      refine H_isRightBitmap (M := M) (by rw [c3, ← hw]; exact hd.2.1) (by rw [c7]; exact hn) (by rw [c7]; exact hp) m24 (fun bm => ⟨fun z => absurd z (by decide), fun _ => ?_⟩) (fun bm => ⟨fun _ => ?_, fun z => absurd wI_0 z⟩)
      · rw [c3, c7] at bm
        refine D_flush sy.1 cf (fun r e g2 r01 sy2 e4 k3 o3 => ⟨r01, ?_⟩)
        rw [c3] at g2
        refine H1 e _ _ _ r G1 ?_ r01 sy2 (Or.inl ⟨bm, by rw [o3 17 (by decide) (by decide) (by decide) (by decide), o12 17 (by decide) (by decide) (by decide) (by decide)]⟩) (fun k _ => by rw [o3 17 (by decide) (by decide) (by decide) (by decide), o12 17 (by decide) (by decide) (by decide) (by decide)]) (fun k p q => (k3 k p q).trans (k12 k p q)) (fun o p q r s _ => (o3 o p q r s).trans (o12 o p q r s))
        rw [lyb_same hp.1 bm _ (by omega)]
        exact Fl_cg (Nat.le_refl _) c2 (fun _ _ => rfl) g2
      · rw [c3, c7] at bm
        have d7 : (hs c 17 13 (c 17 13 + 1)) 7 = h 7 := by rw [hs_o _ _ _ _ _ (by decide)]; exact c7
        have d3 : (hs c 17 13 (c 17 13 + 1)) 3 = w := by rw [hs_o _ _ _ _ _ (by decide)]; exact c3
        refine H_layBitmap (M := M) (Dk_congr (hs_o _ _ _ _ _ (by decide)) (hs_o _ _ _ _ _ (by decide)) (hs_o _ _ _ _ _ (by decide)) sy.1) (by rw [d7]; exact hn) (by rw [d7]; exact hp) (by rw [hs_o _ _ _ _ _ (by decide)]; exact m24) (fun e u => ?_)
        rw [d3, d7] at u
        have e1 : e 1 = c 1 := by rw [u.2.2 1 (by decide) (by decide), hs_o _ _ _ _ _ (by decide)]
        have e2 : e 2 = c 2 := by rw [u.2.2 2 (by decide) (by decide), hs_o _ _ _ _ _ (by decide)]
        refine D_flush u.1 (by rw [e1]; exact cf) (fun r e' g2 r01 sy2 e4 k3 o3 => ⟨r01, ?_⟩)
        rw [u.2.1, e1, e2] at g2
        have t17 : ∀ k, e' 17 k = (hs c 17 13 (c 17 13 + 1)) 17 k := fun k => by rw [o3 17 (by decide) (by decide) (by decide) (by decide), u.2.2 17 (by decide) (by decide)]
        refine H1 e' _ _ _ r G1 (Fl_cg (Nat.le_refl _) c2 (fun _ _ => rfl) g2) r01 sy2 (Or.inr ⟨bm, ?_⟩) (fun k hk => ?_) (fun k p q => ?_) (fun o p q r s t => ?_)
        · rw [t17, hs_same, o12 17 (by decide) (by decide) (by decide) (by decide)]
        · rw [t17, hs_k _ _ _ _ _ hk, o12 17 (by decide) (by decide) (by decide) (by decide)]
        · rw [k3 k p q, e1]; exact k12 k p q
        · rw [o3 o p q r s, u.2.2 o r s, hs_o _ _ _ _ _ t]; exact o12 o p q r s
end MENDC
