/-! make: the reference -/
theorem C3_0 {h : AH} (a : h 32 1 = 0) (b : h 34 41 = 0) : C3 h := by
  unfold C3
  rw [a, b]
  exact ⟨rfl, ⟨by decide, by decide⟩, fun k hk => by omega⟩
/-- a call that uses the draft, and does nothing -/
theorem Inv_X {h h' : AH} (hI : Inv Mo h) (s6 : Sb (h' 36)) (o : ∀ o, ¬ (o = 7 ∨ o = 15 ∨ o = 16 ∨ (27 ≤ o ∧ o ≤ 32) ∨ o = 34 ∨ o = 36 ∨ (39 ≤ o ∧ o ≤ 51) ∨ (53 ≤ o ∧ o ≤ 59)) → h' o = h o) (k7 : ∀ k, k ≠ 4 → h' 7 k = h 7 k) (k34 : ∀ k, (k ≤ 6 ∨ (9 ≤ k ∧ k ≤ 11)) → h' 34 k = h 34 k) (z32 : h' 32 1 = 0) (z41 : h' 34 41 = 0) : Inv Mo h' := by
  obtain ⟨⟨c1, c2, c3, c4⟩, m⟩ := hI
  refine ⟨⟨⟨?_, ?_, s6, ?_⟩, C2_congr (by rw [o 1 (by decide)]) (by rw [o 1 (by decide)]) (by rw [o 0 (by decide)]) (by rw [o 26 (by decide)]) (k34 3 (by omega)) (k34 4 (by omega)) (k34 5 (by omega)) (k34 6 (by omega)) c2, C3_0 z32 z41, C4_congr (by rw [o 17 (by decide)]) (by rw [o 17 (by decide)]) (by rw [o 17 (by decide)]) (k34 9 (by omega)) (k34 10 (by omega)) (k34 11 (by omega)) c4⟩, fun q => Mo_C h h' ⟨o 2 (by decide), o 3 (by decide), k7 1 (by decide), k7 2 (by decide), k7 3 (by decide), o 9 (by decide), o 12 (by decide), o 13 (by decide), o 38 (by decide), k34 0 (by omega), k34 1 (by omega), k34 2 (by omega)⟩ (m (by rw [o 0 (by decide)] at q; exact q))⟩
  · have := c1.1
    unfold Syn Dk at *
    rw [o 2 (by decide), o 3 (by decide), o 4 (by decide)]
    exact this
  · rw [o 35 (by decide)]; exact c1.2.1
  · rw [o 2 (by decide), o 35 (by decide)]; exact c1.2.2.2
theorem Inv_fin2 {h b c : AH} {ws : List (Nat → Int)} {rr : Int} (hI : Inv Mo h) (sy : Syn b) (ph : Ph (h 3) ws (h 1 3) (h 1 4) rr (b 2) (b 1 3) (b 1 4)) (c5 : Sb (c 35)) (c6 : Sb (c 36)) (cd : ∀ k, k < 13824 → ub (c 35) k = b 2 k) (cf' : c 34 5 = b 1 3) (cn' : c 34 6 = b 1 4) (c0 : c 0 8 = rr) (cm : c 34 3 = rr) (cl : ∀ o, 1 ≤ o → o ≤ 4 → c o = b o) (c26 : c 26 5 = h 26 5) (c32 : c 32 1 = 0) (c41 : c 34 41 = 0) (c17 : c 17 = h 17) (ck : ∀ k, (k = 4 ∨ (9 ≤ k ∧ k ≤ 11)) → c 34 k = h 34 k) (M : rr = 1 → Mo c) : Inv Mo c := by
  have q := Ph_f hI.1.2.1.2.1 ph
  obtain ⟨⟨c1, c2, c3, c4⟩, _⟩ := hI
  refine ⟨⟨⟨?_, c5, c6, fun k hk => ?_⟩, ⟨by rw [cl 1 (by omega) (by omega), cf'], by rw [cl 1 (by omega) (by omega)]; exact q.1, by rw [cl 1 (by omega) (by omega), cn'], by rw [c0, cm], by rw [c0]; exact q.2, by rw [c26, ck 4 (by omega)]; exact c2.2.2.2.2.2⟩, C3_0 c32 c41, C4_congr (by rw [c17]) (by rw [c17]) (by rw [c17]) (ck 9 (by omega)) (ck 10 (by omega)) (ck 11 (by omega)) c4⟩, fun z => M (by rw [← c0]; exact z)⟩
  · unfold Syn Dk at *
    rw [cl 2 (by omega) (by omega), cl 3 (by omega) (by omega), cl 4 (by omega) (by omega)]
    exact sy
  · rw [cl 2 (by omega) (by omega)]; exact (cd k hk).symm
theorem kA_ {k : Nat} (p : (k ≤ 2 ∨ k = 4) ∨ (9 ≤ k ∧ k ≤ 11)) : k ≠ 3 ∧ k ≠ 5 ∧ k ≠ 6 ∧ k ≠ 17 ∧ (k ≤ 6 ∨ (9 ≤ k ∧ k ≤ 11)) ∧ (k ≤ 4 ∨ (9 ≤ k ∧ k ≤ 11)) := by omega
theorem kB_ {k : Nat} (p : k ≤ 4 ∨ (9 ≤ k ∧ k ≤ 11)) : k ≠ 5 ∧ k ≠ 6 ∧ k ≠ 17 ∧ (k ≤ 6 ∨ (9 ≤ k ∧ k ≤ 11)) := by omega
theorem oA_ {o : Nat} (p : ¬ (o = 15 ∨ o = 16 ∨ (34 ≤ o ∧ o ≤ 36) ∨ (39 ≤ o ∧ o ≤ 51) ∨ (53 ≤ o ∧ o ≤ 59))) : o ≠ 34 ∧ o ≠ 35 ∧ o ≠ 36 ∧ o ≠ 39 ∧ ¬ (o = 15 ∨ o = 16 ∨ o = 34 ∨ o = 36 ∨ (39 ≤ o ∧ o ≤ 51) ∨ (53 ≤ o ∧ o ≤ 59)) := by omega
section MMAKE
variable {f g nm : Nat → Int} {n root mp : Int} {t R : AH} {G : GG} {h : AH}
def Zar (f : Nat → Int) (t b : AH) (k jd : Nat) : Prop := 1 ≤ k → b 46 k = bR f (t 1 jd) ∧ b 47 k = u4 f (ha (t 1 jd) + 56) ∧ b 48 k = u4 f (ha (t 1 jd) + 52)
def Zex (f : Nat → Int) (t b : AH) (k jd : Nat) : Prop := jd ≠ 0 → ∃ kp : Nat, b 42 k = (kp : Int) ∧ b 43 k = t 3 jd ∧ b 44 k = 1 + rd f (ha (t 1 jd) + 1) ∧ (kp = 0 ↔ pt t jd = 0) ∧ kp < 200 ∧ (1 ≤ kp → b 46 kp = bR f (t 1 (pt t jd)) ∧ b 47 kp = u4 f (ha (t 1 (pt t jd)) + 56) ∧ b 48 kp = u4 f (ha (t 1 (pt t jd)) + 52))
theorem Spc_le {w r : Nat → Int} {K k : Nat} {m e : Int} (m34 : m = 3 ∨ m = 4) (sp : Spc w r K m e k) : e + m ≤ 4 * ((K + k : Nat) : Int) ∧ k ≤ 1 := by
  rcases sp.2.2 with ⟨z, y, _⟩ | ⟨z, _, y, _⟩ <;> exact ⟨by omega, by omega⟩
theorem dRo_ds {X e : Int} {jd k : Nat} (v : V f g n root mp t R) (a : al t jd) (dd : dirT f t jd) (kc : 0 < k → k ≤ cf f mp n X n.toNat) (px : PX f mp n X) (e0 : 0 ≤ e) (ev : e % 2 = 0) (em : e + 3 ≤ 4 * ((Kt t jd + k : Nat) : Int)) : ea (dRo f n mp X t R jd k) e + 64 ≤ ea (dRo f n mp X t R jd k) (e + 2) ∨ ea (dRo f n mp X t R jd k) (e + 2) + 64 ≤ ea (dRo f n mp X t R jd k) e := by
  obtain ⟨t1, R1, v1, gr⟩ := V_room v a dd kc px 0
  have x1 := gr.2.2.2.2.2.2.2 (e / 4).toNat (by omega)
  have x2 := gr.2.2.2.2.2.2.2 ((e + 2) / 4).toNat (by omega)
  have i1 : (e / 4).toNat < Kt t1 jd := by rw [gr.2.2.2.2.2.2.1]; omega
  have i2 : ((e + 2) / 4).toNat < Kt t1 jd := by rw [gr.2.2.2.2.2.2.1]; omega
  have d1 : dRo f n mp X t R jd k (e / 4).toNat = R1 jd (e / 4).toNat := x1.symm
  have d2 : dRo f n mp X t R jd k ((e + 2) / 4).toNat = R1 jd ((e + 2) / 4).toNat := x2.symm
  have ka := (gr.1 jd).mpr a
  unfold ea ca
  rw [d1, d2]
  by_cases w : (e / 4).toNat = ((e + 2) / 4).toNat
  · rw [w]; omega
  · have nq : R1 jd (e / 4).toNat ≠ R1 jd ((e + 2) / 4).toNat := fun w' => w (v1.1.2.2.1 jd jd _ _ ka ka i1 i2 w').2
    omega
/-- what the arrays say of a DIRECTORY -/
theorem ZR_dirE (v : V f g n root mp t R) {z b : AH} (Z : ZR f g n root t R z b) {k jd : Nat} (hk : (k : Int) < z 1 0) (a : al t jd) (e : t 1 jd = z 2 k) (k0 : k = 0 ↔ jd = 0) : b 46 k = dWr f t jd ∧ Zar f t b k jd ∧ Zex f t b k jd := by
  have nn := V_n v
  have NN : z 1 0 ≤ n + 1 := by obtain ⟨k', S, _⟩ := Z; exact SI_N S (by omega)
  by_cases c : k = 0
  · have j0 := k0.mp c
    subst c j0
    obtain ⟨k', S, kl, L, A⟩ := Z
    refine ⟨?_, fun y => by omega, fun y => absurd rfl y⟩
    unfold dWr
    rw [if_pos rfl]
    exact A.2.2.1.2.1
  · have k1 : 1 ≤ k := (by omega)
    obtain ⟨kp, p42, pk, pp, p43, p44, p46, p47, p48, p49, j1⟩ := ZR_par v Z hk a e k1
    have wp := v.1.2.2.2.1 jd j1 a
    have kp0 : kp = 0 ↔ pt t jd = 0 := by obtain ⟨k', S, kl, L, A⟩ := Z; exact SL_0 v S wp.1 pk pp
    have parr : 1 ≤ kp → b 46 kp = bR f (t 1 (pt t jd)) ∧ b 47 kp = u4 f (ha (t 1 (pt t jd)) + 56) ∧ b 48 kp = u4 f (ha (t 1 (pt t jd)) + 52) := fun kp1 => by
      obtain ⟨k', S, kl, L, A⟩ := id Z
      obtain ⟨g1, g2, g3, g4, g5, g6, g7⟩ := A.2.2.2 kp kp1 pk
      rw [g4, g5, g6, ← pp]
      exact ⟨rfl, rfl, rfl⟩
    refine ⟨?_, fun _ => ⟨p46, p47, p48⟩, fun _ => ⟨kp, p42, p43, p44, kp0, by omega, parr⟩⟩
    unfold dWr
    rw [if_neg (by omega)]
    exact p46
theorem wI_rng (x : Int) : -9223372036854775808 ≤ wI x ∧ wI x < 9223372036854775808 := by unfold wI; omega
/-- from the plan to the row with room -/
theorem M_room {PF C : AH → Prop} {X D r f' n' : Int} {jd k kd K0 k0 : Nat} {r0 s0 d' : Nat → Int} {wr0 run0 : Int} {ws : List (Nat → Int)} (v : V f g n root mp t R) (a : al t jd) (dd : dirT f t jd) (kc : 0 < k → k ≤ cf f mp n X n.toNat) (px : PX f mp n X) (h5 : Sb (h 35)) (h6 : Sb (h 36)) (hE : E (ub (h 35)) f) (hW : E (ub (h 36)) f) (hf : 0 ≤ h 34 5 ∧ h 34 5 ≤ 1000) (h1 : h 34 1 = root) (h2 : h 34 2 = mp) (pl0 : Pl h 0 K0 r0 wr0 k0 s0 run0) (cl0 : K0 = 0) (w00 : wr0 = 0) (r00 : run0 = 0 ∨ run0 = 1) (D01 : D = 0 ∨ D = 1) (cD : (D = 0 ∧ k0 = 0 ∧ X = 0) ∨ (D = 1 ∧ k0 = 1 ∧ s0 0 = X ∧ run0 = 1 ∧ X ≠ 0)) (pl1 : Pl h 1 (Kt t jd) (R jd) (dWr f t jd) k (dSq f n mp X t R jd k) (dRn f n mp X t R jd k)) (kd0 : kd = 0 ↔ jd = 0) (kd2 : kd < 200) (zx : Zex f t h kd jd) (kle : k ≤ 1)
    (ph : Ph f (so1 f :: dB f n mp X t R jd k :: d1 f n mp X t R jd k :: d2 f n mp X t R jd k :: d3 f n mp X t R jd k :: ws) (h 34 5) (h 34 6) r d' f' n')
    (H0 : ∀ b, r = 0 → Sb (b 35) → Sb (b 36) → (∀ j, j < 13824 → ub (b 35) j = d' j) → b 34 5 = f' → b 34 6 = n' → b 34 3 = 0 → (∀ j, j ≠ 3 → j ≠ 5 → j ≠ 6 → b 34 j = h 34 j) → (∀ o, o ≠ 34 → o ≠ 35 → o ≠ 36 → b o = h o) → PF b)
    (H1 : ∀ b, Ph (d3 f n mp X t R jd k) ws (b 34 5) (b 34 6) r d' f' n' → Sb (b 35) → Sb (b 36) → E (ub (b 35)) (d3 f n mp X t R jd k) → E (ub (b 36)) (d4 f n mp X t R jd k (h 34 4)) → (0 ≤ b 34 5 ∧ b 34 5 ≤ 1000) → Rm b (Kt t jd + k) (dRo f n mp X t R jd k) → (∀ j, j ≠ 5 → j ≠ 6 → j ≠ 17 → b 34 j = h 34 j) → (∀ o, o ≠ 34 → o ≠ 35 → o ≠ 36 → o ≠ 39 → b o = h o) → C b) : RunsI G 179 [vR 34] h (fun r2 h2 => ((wI r2 = 0 → PF h2) ∧ (¬ wI r2 = 0 → RunsI G 261 [vR 34, vI D] h2 (fun r3 h3 => ((wI r3 = 0 → PF h3) ∧ (¬ wI r3 = 0 → RunsV G 262 [vR 34, vI (kd : Int)] h3 (fun h4 => RunsV G 250 [vR 34, vI 1] h4 (fun h5 => C h5)))))))) := by
  have nn := V_n v
  have kn := V_K v a
  refine M_dirtyS (f := f) (r := r) (d' := d') (f' := f') (n' := n') (ws := dB f n mp X t R jd k :: d1 f n mp X t R jd k :: d2 f n mp X t R jd k :: d3 f n mp X t R jd k :: ws) h5 h6 hE hW hf ph (fun l r0' l5 l6 ld lf ln' l3 lk ol => ⟨fun _ => H0 l r0' l5 l6 ld lf ln' l3 lk ol, fun q => absurd wI_0 q⟩) (fun l pl l5 l6 lE lW lf lk ol => ⟨fun q => absurd q (by decide), fun _ => ?_⟩)
  refine M_comesIn (X := X) (D := D) (rr := r) (d' := d') (f' := f') (n' := n') (ws := ws) v a dd kc px l5 l6 lE lW lf (by rw [lk 2 (by decide) (by decide)]; exact h2) (Pl_cg (fun o p p' => ol o (by omega) (by omega) (by omega)) pl0) cl0 w00 r00 D01 cD (Pl_cg (fun o p p' => ol o (by omega) (by omega) (by omega)) pl1) pl (fun q r0' q5 q6 qd qf qn q3' qk oq => ⟨fun _ => H0 q r0' q5 q6 qd qf qn q3' (fun j x y z => (qk j x y z).trans (lk j y z)) (fun o x y z => (oq o x y z).trans (ol o x y z)), fun w => absurd wI_0 w⟩) (fun q pq q5 q6 qE qW qf qk oq => ⟨fun w => absurd w (by decide), fun _ => ?_⟩)
  have qkk : ∀ j, j ≠ 5 → j ≠ 6 → q 34 j = h 34 j := fun j x y => (qk j x y).trans (lk j x y)
  have qo : ∀ o, o ≠ 34 → o ≠ 35 → o ≠ 36 → q o = h o := fun o x y z => (oq o x y z).trans (ol o x y z)
  have p1q : Pl q 1 (Kt t jd) (R jd) (dWr f t jd) k (dSq f n mp X t R jd k) (dRn f n mp X t R jd k) := Pl_cg (fun o p p' => qo o (by omega) (by omega) (by omega)) pl1
  obtain ⟨kp, hkp⟩ : ∃ kp : Nat, jd ≠ 0 → q 42 kd = (kp : Int) ∧ q 43 kd = t 3 jd ∧ q 44 kd = 1 + rd f (ha (t 1 jd) + 1) ∧ (kp = 0 ↔ pt t jd = 0) ∧ kp < 200 ∧ (1 ≤ kp → q 46 kp = bR f (t 1 (pt t jd)) ∧ q 47 kp = u4 f (ha (t 1 (pt t jd)) + 56) ∧ q 48 kp = u4 f (ha (t 1 (pt t jd)) + 52)) := by
    by_cases w : jd = 0
    · exact ⟨0, fun w' => absurd w w'⟩
    · obtain ⟨kp, x⟩ := zx w
      refine ⟨kp, fun _ => ?_⟩
      rw [qo 42 (by decide) (by decide) (by decide), qo 43 (by decide) (by decide) (by decide), qo 44 (by decide) (by decide) (by decide), qo 46 (by decide) (by decide) (by decide), qo 47 (by decide) (by decide) (by decide), qo 48 (by decide) (by decide) (by decide)]
      exact x
  refine M_grow (X := X) (kp := kp) v a dd kc px q6 qE qW (by rw [qkk 1 (by decide) (by decide)]; exact h1) p1q kd0 kd2 hkp (fun s s6 sW sk os => ?_)
  rw [qkk 4 (by decide) (by decide)] at sW
  have p1s : Pl s 1 (Kt t jd) (R jd) (dWr f t jd) k (dSq f n mp X t R jd k) (dRn f n mp X t R jd k) := Pl_cg (fun o p p' => os o (by omega) (by omega) (by omega)) p1q
  clear hkp
  refine M_rowOfPlan (p := 1) (by decide) p1s (by omega) (fun i rm ik oi => ?_)
  refine H1 i ?_ ?_ ?_ ?_ ?_ ?_ rm (fun j x y z => by rw [ik j z, sk j z]; exact qkk j x y) (fun o x y z w => by rw [oi o x w, os o x z w]; exact qo o x y z)
  · rw [ik 5 (by decide), ik 6 (by decide), sk 5 (by decide), sk 6 (by decide)]; exact pq
  · rw [oi 35 (by decide) (by decide), os 35 (by decide) (by decide) (by decide)]; exact q5
  · rw [oi 36 (by decide) (by decide)]; exact s6
  · rw [oi 35 (by decide) (by decide), os 35 (by decide) (by decide) (by decide)]; exact qE
  · rw [oi 36 (by decide) (by decide)]; exact sW
  · rw [ik 5 (by decide), sk 5 (by decide)]; exact qf
theorem M_make {P : Int → AH → Prop} {x1 D r f' n' : Int} {jd m2 sz : Nat} {d' : Nat → Int} (v : V f g n root mp t R) (X : RX f g n root h) (hm : h 34 2 = mp) (h6 : Sb (h 36)) (h3 : h 34 3 = 1) (hf : 0 ≤ h 34 5 ∧ h 34 5 ≤ 1000) (a : al t jd) (dd : dirT f t jd) (e : t 1 jd = x1) (hx : in32 x1) (D01 : D = 0 ∨ D = 1) (esz : h 34 41 = (sz : Int)) (hn : ∀ i, i < sz → h 52 i = nm i) (nmo : isNm nm sz) (mm : (m2 = 1 ∧ sz ≤ 15) ∨ (m2 = 2 ∧ 15 < sz ∧ sz ≤ 30)) (NL : ∀ jj, 1 ≤ jj → al t jj → pt t jj = jd → ¬ LD f g t R nm sz jj) (gg : Gr g)
    (HF : (D = 1 ∧ cf f mp n 0 n.toNat < 1) ∨ ((D = 1 → 1 ≤ cf f mp n 0 n.toNat) ∧ (∀ p' : Int, 0 ≤ p' → p' % 2 = 0 → p' + (2 + (m2 : Int)) ≤ 4 * (Kt t jd : Int) → ¬ FRw f (R jd) (2 + (m2 : Int)) p') ∧ cf f mp n (mkX f mp n D) n.toNat < 1) → ∀ b, Sb (b 36) → (∀ k, (k ≤ 6 ∨ (9 ≤ k ∧ k ≤ 11)) → b 34 k = h 34 k) → b 34 41 = 0 → (∀ o, ¬ (o = 15 ∨ o = 16 ∨ o = 34 ∨ o = 36 ∨ (39 ≤ o ∧ o ≤ 51) ∨ (53 ≤ o ∧ o ≤ 59)) → b o = h o) → P (-6) b)
    (ph : ∀ e k, (D = 1 → 1 ≤ cf f mp n 0 n.toNat) → Spc f (R jd) (Kt t jd) (2 + (m2 : Int)) e k → (0 < k → k ≤ cf f mp n (mkX f mp n D) n.toNat) → Ph f (mkL f g nm n mp (mkX f mp n D) t R jd k (h 34 4) e m2 sz D) (h 34 5) (h 34 6) r d' f' n')
    (H : ∀ e k, (D = 1 → 1 ≤ cf f mp n 0 n.toNat) → Spc f (R jd) (Kt t jd) (2 + (m2 : Int)) e k → (0 < k → k ≤ cf f mp n (mkX f mp n D) n.toNat) → ∀ b a', (r = 0 ∧ a' = -7 ∨ r = 1 ∧ a' = 4 * dRo f n mp (mkX f mp n D) t R jd k (e / 4).toNat + e % 4) → Sb (b 35) → Sb (b 36) → (∀ k, k < 13824 → ub (b 35) k = d' k) → b 34 5 = f' → b 34 6 = n' → b 34 3 = r → b 34 41 = 0 → (∀ k, ((k ≤ 2 ∨ k = 4) ∨ (9 ≤ k ∧ k ≤ 11)) → b 34 k = h 34 k) → (∀ o, ¬ (o = 15 ∨ o = 16 ∨ (34 ≤ o ∧ o ≤ 36) ∨ (39 ≤ o ∧ o ≤ 51) ∨ (53 ≤ o ∧ o ≤ 59)) → b o = h o) → P a' b) : RunsI G 263 [vR 34, vI x1, vI D] h P := by
  have nn := V_n v
  have mpc := V_mp v
  unfold clu at mpc
  have sz1 := nmo.1
  have mr : sz ≤ 30 ∧ (m2 = 1 ∨ m2 = 2) := by rcases mm with y | y <;> omega
  have m34 : (2 + (m2 : Int)) = 3 ∨ (2 + (m2 : Int)) = 4 := (by omega)
  have DI : wI D = D := by rcases D01 with y | y <;> rw [y] <;> rfl
  have D128 : 0 ≤ 128 * D ∧ 128 * D < 4294967296 := (by omega)
  have Kpos := V_Kd v a dd
  apply q_M_make
  apply q_M_usedDraft
  generalize eg : hs h 34 41 0 = h1
  have g41 : h1 34 41 = 0 := by rw [← eg]; exact hs_same _ _ _ _
  have gk : ∀ k, k ≠ 41 → h1 34 k = h 34 k := fun k p => by rw [← eg]; exact hs_k _ _ _ _ _ p
  have go' : ∀ o, o ≠ 34 → h1 o = h o := fun o p => by rw [← eg]; exact hs_o _ _ _ _ _ p
  clear eg
  have X1 : RX f g n root h1 := by unfold RX at *; rw [go' 35 (by decide), go' 38 (by decide), gk 0 (by decide), gk 1 (by decide)]; exact X
  rw [gk 3 (by decide), h3, esz]
  refine ⟨fun z => absurd z (by decide), fun _ => ?_⟩
  refine M_directoryAt v X1 hx (fun b0 z kd j2 Z hk a2 e2 ez k2 k0 dd2 fr => ?_) (fun b0 no fr => absurd dd (no jd a e))
  have ej : j2 = jd := V_inj v a2 a (e2.trans e.symm)
  subst ej
  rw [wI_id (z := (kd : Int)) (by omega) (by omega)]
  refine ⟨fun y => by omega, fun _ => ?_⟩
  have n52 : ∀ i, i < sz → b0 52 i = nm i := fun i hi => by rw [fr.1 52 (by decide), go' 52 (by decide)]; exact hn i hi
  have nm52 : isNm (b0 52) sz := isNm_congr (fun i hi => (n52 i (by omega)).symm) nmo
  refine M_isName_52 (by omega) (fun i hi => by rw [n52 i (by omega)]; have := isLet_rng (nmo.2.2.1 i hi); omega) (fun _ => ⟨fun y => absurd y (by decide), fun _ => ?_⟩) (fun no => absurd nm52 no)
  have X0 := RX_congr fr X1
  have LDe : ∀ jj, LD f g t R (b0 52) sz jj → LD f g t R nm sz jj := fun jj l => ⟨l.1, fun i hi => by rw [← n52 i (by omega)]; exact l.2 i hi⟩
  refine M_like v X0 Z hk a dd (by rw [e2, ez]) nm52 (fun b k' jj _ _ j1 aj pj _ l _ _ => absurd (LDe jj l) (NL jj j1 aj pj)) (fun b _ Zb fq => ⟨fun _ => ?_, fun y => absurd (by decide) y⟩)
  have Xb := RX_Q fq X0
  have bo : ∀ o, ¬ (o = 15 ∨ o = 16 ∨ o = 34 ∨ (39 ≤ o ∧ o ≤ 51)) → b o = h o := fun o p => (fq.1 o p).trans ((fr.1 o (by omega)).trans (go' o (by omega)))
  have bk : ∀ k, (k ≤ 6 ∨ (9 ≤ k ∧ k ≤ 11) ∨ k = 41) → b 34 k = h1 34 k := fun k p => by rw [fq.2 k p]; exact fr.2 k (by omega)
  obtain ⟨d46, darr, dex⟩ := ZR_dirE v Zb hk a (by rw [e2, ez]) k0
  refine M_noPlans (fun c0 np nr oc0 => ?_)
  refine M_beginWrite (by rw [oc0 35 (by decide)]; exact Xb.1) (by rw [oc0 36 (by decide), bo 36 (by decide)]; exact h6) (fun c c6 cE oc => ?_)
  rw [oc0 35 (by decide)] at cE
  have cE' : E (ub (c 36)) f := cE.tr Xb.2.1
  have cb : ∀ o, ¬ (o = 36 ∨ o = 54 ∨ (56 ≤ o ∧ o ≤ 59)) → c o = b o := fun o p => (oc o (by omega)).trans (oc0 o (by omega))
  have c0z : ∀ p, p < 2 → c 54 p = 0 ∧ c 56 p = 0 ∧ c 57 p = 0 ∧ c 58 p = 0 := fun p hp => by rw [oc 54 (by decide), oc 56 (by decide), oc 57 (by decide), oc 58 (by decide)]; exact np p hp
  have c59 : ∀ x, x < 102 → c 59 x = 0 := fun x hx' => by rw [oc 59 (by decide)]; exact nr x hx'
  have cbo : ∀ o, ¬ (o = 15 ∨ o = 16 ∨ o = 34 ∨ o = 36 ∨ (39 ≤ o ∧ o ≤ 51) ∨ (53 ≤ o ∧ o ≤ 59)) → c o = h o := fun o p => (cb o (by omega)).trans (bo o (by omega))
  have ck34 : ∀ k, (k ≤ 6 ∨ (9 ≤ k ∧ k ≤ 11)) → c 34 k = h 34 k := fun k p => by rw [cb 34 (by decide), bk k (by omega)]; exact gk k (by omega)
  have c41 : c 34 41 = 0 := by rw [cb 34 (by decide), bk 41 (by omega)]; exact g41
  -- from the place on
  have c98 : ∀ (u : AH) (X' : Int) (k0' : Nat) (s0 : Nat → Int) (run0 : Int), X' = mkX f mp n D → (D = 1 → 1 ≤ cf f mp n 0 n.toNat) → Pl u 0 0 (R j2) 0 k0' s0 run0 → (run0 = 0 ∨ run0 = 1) → ((D = 0 ∧ k0' = 0 ∧ X' = 0) ∨ (D = 1 ∧ k0' = 1 ∧ s0 0 = X' ∧ run0 = 1 ∧ X' ≠ 0)) → u 56 1 = 0 → Rsv u (fun c => c = X') → (∀ o, ¬ (53 ≤ o ∧ o ≤ 59) → u o = c o) → PX f mp n X' → Go G (pI P) 263 98 [some (vR 34), none, some (vI D), some (vI (sz : Int)), some (vI (kd : Int)), none, none] [vI (2 + (m2 : Int)), vI (kd : Int), vR 34] u := by
    intro u X' k0' s0 run0 eX one plu r0 cD u56 rs ou px
    have xr32 : 0 ≤ X' ∧ X' ≤ 1000 := by have := PX_rng v px; omega
    have uo : ∀ o, ¬ (o = 15 ∨ o = 16 ∨ o = 34 ∨ o = 36 ∨ (39 ≤ o ∧ o ≤ 51) ∨ (53 ≤ o ∧ o ≤ 59)) → u o = h o := fun o p => (ou o (by omega)).trans (cbo o p)
    have u35 : u 35 = b 35 := (ou 35 (by decide)).trans (cb 35 (by decide))
    have u36 : u 36 = c 36 := ou 36 (by decide)
    have u34 : u 34 = c 34 := ou 34 (by decide)
    have uarr : ∀ o, 41 ≤ o → o ≤ 49 → u o = b o := fun o p p' => (ou o (by omega)).trans (cb o (by omega))
    apply q_M_make_c98
    refine M_planSpace (X := X') (m := 2 + (m2 : Int)) v (by rw [u35]; exact Xb.1) (by rw [u35]; exact Xb.2.1) (by rw [u36]; exact cE') (by rw [u34, ck34 0 (by omega)]; exact X.2.2.1) (by rw [u34, ck34 1 (by omega)]; exact X.2.2.2.1) (by rw [u34, ck34 2 (by omega)]; exact hm) a dd k0 k2 (fun y => by rw [uarr 46 (by omega) (by omega), uarr 47 (by omega) (by omega), uarr 48 (by omega) (by omega)]; exact darr y) (by rw [uarr 46 (by omega) (by omega)]; exact d46) plu u56 rs m34 (fun no full y yk oy => ⟨fun _ => HF (Or.inr ⟨one, no, by rw [← eX]; exact full⟩) y (by rw [oy 36 (by decide), u36]; exact c6) (fun k p => by rw [yk k (by omega), u34]; exact ck34 k p) (by rw [yk 41 (by decide), u34]; exact c41) (fun o p => (oy o (by omega)).trans (uo o p)), fun q => absurd (by decide) q⟩) (fun e' k sp kc y p0 p1 yk oy => ?_)
    have yo : ∀ o, ¬ (o = 15 ∨ o = 16 ∨ o = 34 ∨ o = 36 ∨ (39 ≤ o ∧ o ≤ 51) ∨ (53 ≤ o ∧ o ≤ 59)) → y o = h o := fun o p => (oy o (by omega)).trans (uo o p)
    have ykk : ∀ k, (k ≤ 6 ∨ (9 ≤ k ∧ k ≤ 11)) → y 34 k = h 34 k := fun k p => by rw [yk k (by omega), u34]; exact ck34 k p
    have y41 : y 34 41 = 0 := by rw [yk 41 (by decide), u34]; exact c41
    have y35 : y 35 = b 35 := (oy 35 (by decide)).trans u35
    have y36 : y 36 = c 36 := (oy 36 (by decide)).trans u36
    have yarr : ∀ o, 41 ≤ o → o ≤ 49 → y o = b o := fun o p p' => (oy o (by omega)).trans (uarr o p p')
    have ph' := ph e' k one sp (by rw [← eX]; exact kc)
    have H' := H e' k one sp (by rw [← eX]; exact kc)
    rw [← eX] at ph' H'
    have e0 := sp.1
    have ev := sp.2.1
    have sle := Spc_le m34 sp
    have emK := sle.1
    have kle := sle.2
    have kn := V_K v a
    obtain ⟨q1, q2, q3, q4⟩ := d4_row v a dd kc px (h 34 4)
    rw [wI_id (z := e') (by omega) (by omega)]
    refine ⟨fun q => by omega, fun _ => ?_⟩
    have zxy : Zex f t y kd j2 := fun w => by
      obtain ⟨kp, x⟩ := dex w
      refine ⟨kp, ?_⟩
      rw [yarr 42 (by decide) (by decide), yarr 43 (by decide) (by decide), yarr 44 (by decide) (by decide), yarr 46 (by decide) (by decide), yarr 47 (by decide) (by decide), yarr 48 (by decide) (by decide)]
      exact x
    refine M_room (PF := fun b => P (-7) b) (X := X') (D := D) (r := r) (d' := d') (f' := f') (n' := n') (ws := [mkW f g nm n mp X' t R j2 k (h 34 4) e' m2 sz (16 * D) (h 34 4) (h 34 4) D X' (128 * D)]) v a dd kc px (by rw [y35]; exact Xb.1) (by rw [y36]; exact c6) (by rw [y35]; exact Xb.2.1) (by rw [y36]; exact cE') (by rw [ykk 5 (Or.inl (by decide))]; exact hf) (by rw [ykk 1 (Or.inl (by decide))]; exact X.2.2.2.1) (by rw [ykk 2 (Or.inl (by decide))]; exact hm) p0 rfl rfl r0 D01 cD p1 k0 k2 zxy kle (by rw [ykk 5 (Or.inl (by decide)), ykk 6 (Or.inl (by decide))]; exact ph') (fun l r0' l5 l6 ld lf ln' l3 lk ol => ?_) (fun i pq q5 s6 qE sW qf rm ik oi => ?_)
    · exact H' l (-7) (Or.inl ⟨r0', rfl⟩) l5 l6 ld lf ln' (by rw [l3, r0']) (by rw [lk 41 (by decide) (by decide) (by decide)]; exact y41) (fun k p => by rw [lk k (kA_ p).1 (kA_ p).2.1 (kA_ p).2.2.1]; exact ykk k (kA_ p).2.2.2.2.1) (fun o p => by rw [ol o (oA_ p).1 (oA_ p).2.1 (oA_ p).2.2.1]; exact yo o (oA_ p).2.2.2.2)
    rw [ykk 4 (Or.inl (by decide))] at sW
    have rmi : ∀ x, x < Kt t j2 + k → i 39 x = dRo f n mp X' t R j2 k x := rm.2.2
    have ikk : ∀ k, (k ≤ 4 ∨ (9 ≤ k ∧ k ≤ 11)) → i 34 k = h 34 k := fun k p => by rw [ik k (kB_ p).1 (kB_ p).2.1 (kB_ p).2.2.1]; exact ykk k (kB_ p).2.2.2
    have i41 : i 34 41 = 0 := by rw [ik 41 (by decide) (by decide) (by decide)]; exact y41
    have ioh : ∀ o, ¬ (o = 15 ∨ o = 16 ∨ (34 ≤ o ∧ o ≤ 36) ∨ (39 ≤ o ∧ o ≤ 51) ∨ (53 ≤ o ∧ o ≤ 59)) → i o = h o := fun o p => (oi o (oA_ p).1 (oA_ p).2.1 (oA_ p).2.2.1 (oA_ p).2.2.2.1).trans (yo o (oA_ p).2.2.2.2)
    have q55 : i 55 0 = s0 0 ∨ k0' = 0 := by
      by_cases w : k0' = 0
      · exact Or.inr w
      · refine Or.inl ?_
        rw [oi 55 (by decide) (by decide) (by decide) (by decide)]
        exact p0.2.2.2.2.2.2.1 0 (Nat.pos_of_ne_zero w)
    have pidx : (e' / 4).toNat < Kt t j2 + k := (by omega)
    have cpl := q4 _ pidx
    rw [tdiv_pos (by omega), tmod_pos (by omega), wI_id (z := e' / 4) (by omega) (by omega), rmi _ pidx, DI, ikk 4 (by omega)]
    refine ⟨by decide, by omega, by decide, ?_⟩
    have dsj := dRo_ds v a dd kc px e0 ev (show e' + 3 ≤ 4 * ((Kt t j2 + k : Nat) : Int) by omega)
    have c195 : ∀ (att ln : Int), att = 16 * D → ln = 128 * D → Go G (pI P) 263 195 [some (vR 34), none, some (vI D), none, none, none, some (vI (4 * dRo f n mp X' t R j2 k (e' / 4).toNat + e' % 4))] [vL ln, vL (wI (h 34 4)), vL (wI (h 34 4)), vI att, vI (sz : Int), vI e', vR 34] i := by
      intro att ln eat eln
      have X00 : D = 0 → X' = 0 := fun w => by rcases cD with x | x; exact x.2.2; omega
      have s00 : D = 1 → i 55 0 = X' := fun w => by
        rcases cD with x | x
        · omega
        · rcases q55 with y' | y'
          · rw [y']; exact x.2.2.1
          · omega
      have lay' : ∀ (fs : Int) (Q : AH → Prop), fs = X' → (∀ j, Sb (j 36) → E (ub (j 36)) (mkW f g nm n mp X' t R j2 k (h 34 4) e' m2 sz (16 * D) (h 34 4) (h 34 4) D X' (128 * D)) → (∀ o, o ≠ 36 → j o = i o) → Q j) → RunsV G 254 [vR 34, vI e', vI (sz : Int), vI att, vL (wI (h 34 4)), vL (wI (h 34 4)), vL ln, vI fs, vI D] i Q := by
        intro fs Q efs cont
        refine M_laySet (K := Kt t j2 + k) (r := dRo f n mp X' t R j2 k) (w := d4 f n mp X' t R j2 k (h 34 4)) (nm := nm) (g := g) (m2 := m2) s6 sW rmi rm.2.1 q4 e0 ev mm emK dsj nmo (fun x hx' => by rw [ioh 52 (by decide)]; exact hn x hx') (by rw [ioh 38 (by decide)]; exact X.2.2.2.2.1) gg (by rw [eat]; rcases D01 with w | w <;> rw [w] <;> unfold At <;> decide) (wI_rng _) (wI_rng _) D01 (by rw [eln]; exact D128) (by rw [efs]; exact xr32) (fun j j6 jW oj => cont j j6 ?_ oj)
        rw [eat, eln, efs] at jW
        have tme : nset (mks (d4 f n mp X' t R j2 k (h 34 4)) (dRo f n mp X' t R j2 k) e'.toNat) g nm (ea (dRo f n mp X' t R j2 k) e') (ea (dRo f n mp X' t R j2 k) (e' + 2)) m2 sz (16 * D) (wI (h 34 4)) (wI (h 34 4)) D X' (128 * D) = mkW f g nm n mp X' t R j2 k (h 34 4) e' m2 sz (16 * D) (h 34 4) (h 34 4) D X' (128 * D) := by
          unfold mkW nset nh
          rw [wb4_mod (v := wI (h 34 4)) (w := h 34 4) (by unfold wI; omega), wb4_mod (v := wI (h 34 4)) (w := h 34 4) (by unfold wI; omega)]
        rw [tme] at jW
        exact jW
      have fin : ∀ j, Sb (j 36) → E (ub (j 36)) (mkW f g nm n mp X' t R j2 k (h 34 4) e' m2 sz (16 * D) (h 34 4) (h 34 4) D X' (128 * D)) → (∀ o, o ≠ 36 → j o = i o) → RunsI G 178 [vR 34] j (fun r2 h2 => ((wI r2 = 0 → P (-7) h2) ∧ (¬ wI r2 = 0 → P (4 * dRo f n mp X' t R j2 k (e' / 4).toNat + e' % 4) h2))) := by
        intro j j6 jW oj
        have j34 : j 34 = i 34 := oj 34 (by decide)
        refine M_flS (f := d3 f n mp X' t R j2 k) (w := mkW f g nm n mp X' t R j2 k (h 34 4) e' m2 sz (16 * D) (h 34 4) (h 34 4) D X' (128 * D)) (ws := []) (r := r) (d' := d') (f' := f') (n' := n') (by rw [oj 35 (by decide)]; exact q5) j6 (by rw [oj 35 (by decide)]; exact qE) jW (by rw [j34]; exact qf) (by rw [j34]; exact pq) (fun x r0' x5 x6 xd xf xn x3 xk ox => ⟨fun _ => ?_, fun w => absurd wI_0 w⟩) (fun x px' x5 x6 xE xf xk ox => ⟨fun w => absurd w (by decide), fun _ => ?_⟩)
        · exact H' x (-7) (Or.inl ⟨r0', rfl⟩) x5 (by rw [x6]; exact j6) xd xf xn (by rw [x3, r0']) (by rw [xk 41 (by decide) (by decide) (by decide), j34]; exact i41) (fun k p => by rw [xk k (kA_ p).1 (kA_ p).2.1 (kA_ p).2.2.1, j34]; exact ikk k (kA_ p).2.2.2.2.2) (fun o p => by rw [ox o (oA_ p).1 (oA_ p).2.1, oj o (oA_ p).2.2.1]; exact ioh o p)
        · obtain ⟨z1, z2, z3, z4⟩ := px'
          exact H' x _ (Or.inr ⟨z1, rfl⟩) x5 (by rw [x6]; exact j6) (fun w hw => (xE w hw).trans (z2 w hw).symm) z3.symm z4.symm (by rw [xk 3 (by decide) (by decide), j34, ikk 3 (Or.inl (by decide)), z1]; exact h3) (by rw [xk 41 (by decide) (by decide), j34]; exact i41) (fun k p => by rw [xk k (kA_ p).2.1 (kA_ p).2.2.1, j34]; exact ikk k (kA_ p).2.2.2.2.2) (fun o p => by rw [ox o (oA_ p).1 (oA_ p).2.1, oj o (oA_ p).2.2.1]; exact ioh o p)
      apply q_M_make_c195
      rw [DI]
      refine ⟨fun w => lay' 0 _ (X00 w).symm fin, fun w => ⟨by decide, lay' _ _ (s00 (by omega)) fin⟩⟩
    rcases D01 with w | w
    · exact ⟨fun _ => ⟨fun _ => c195 0 0 (by rw [w]; rfl) (by rw [w]; rfl), fun x => absurd w x⟩, fun x => absurd w x⟩
    · exact ⟨fun x => by omega, fun _ => ⟨fun x => by omega, fun _ => c195 16 128 (by rw [w]; rfl) (by rw [w]; rfl)⟩⟩
  rw [DI]
  have two : ∀ u, (Go G (pI P) 263 98 [some (vR 34), none, some (vI D), some (vI (sz : Int)), some (vI (kd : Int)), none, none] [vI (2 + (m2 : Int)), vI (kd : Int), vR 34] u) → ((wI (sz : Int) ≤ (15 : Int) → Go G (pI P) 263 98 [some (vR 34), none, some (vI D), some (vI (sz : Int)), some (vI (kd : Int)), none, none] [vI 3, vI (kd : Int), vR 34] u) ∧ (¬ wI (sz : Int) ≤ (15 : Int) → Go G (pI P) 263 98 [some (vR 34), none, some (vI D), some (vI (sz : Int)), some (vI (kd : Int)), none, none] [vI 4, vI (kd : Int), vR 34] u)) := by
    intro u k
    rw [wI_id (z := (sz : Int)) (by omega) (by omega)]
    refine ⟨fun y => ?_, fun y => ?_⟩
    · rw [show (2 : Int) + (m2 : Int) = 3 by rcases mm with x | x <;> omega] at k
      exact k
    · rw [show (2 : Int) + (m2 : Int) = 4 by rcases mm with x | x <;> omega] at k
      exact k
  have z0 := c0z 0 (by decide)
  have z1 := c0z 1 (by decide)
  rcases D01 with w | w
  · refine ⟨fun _ => two c (c98 c 0 0 (R j2) 0 (by unfold mkX; rw [if_pos w]) (fun y => by omega) ⟨z0.1, by decide, fun i hi => absurd hi (Nat.not_lt_zero _), z0.2.2.1, z0.2.1, by decide, fun i hi => absurd hi (Nat.not_lt_zero _), z0.2.2.2⟩ (Or.inl rfl) (Or.inl ⟨w, rfl, rfl⟩) z1.2.1 (fun x x1 x2 => by rw [c59 x x1]; exact ⟨Or.inl rfl, fun y => absurd y (by decide), fun y => by omega⟩) (fun _ _ => rfl) (Or.inl rfl)), fun y => absurd w y⟩
  · refine ⟨fun y => by omega, fun _ => ?_⟩
    have xe : mkX f mp n D = rf f mp n 0 1 n.toNat := by unfold mkX; rw [if_neg (by omega)]
    have mp' := M_plans (G := G) (P := fun r7 h7 => ((wI r7 = 0 → P (-6) h7) ∧ (¬ wI r7 = 0 → ((wI (sz : Int) ≤ (15 : Int) → Go G (pI P) 263 98 [some (vR 34), none, some (vI D), some (vI (sz : Int)), some (vI (kd : Int)), none, none] [vI 3, vI (kd : Int), vR 34] h7) ∧ (¬ wI (sz : Int) ≤ (15 : Int) → Go G (pI P) 263 98 [some (vR 34), none, some (vI D), some (vI (sz : Int)), some (vI (kd : Int)), none, none] [vI 4, vI (kd : Int), vR 34] h7))))) (h := c) (f := f) (mp := mp) (n := n) (X := 0) (p := 0) (k := 1) (K := 0) (last := 0) (wr' := 0) (by rw [cb 35 (by decide)]; exact Xb.1) (by rw [cb 35 (by decide)]; exact Xb.2.1) (by rw [ck34 0 (by omega)]; exact X.2.2.1) (by rw [ck34 2 (by omega)]; exact hm) nn (by omega) (by decide) (by decide) z0.1 (by decide) (fun y => absurd y (by decide)) z0.2.2.1 (Or.inl rfl) z0.2.1 (fun x x1 x2 => by rw [c59 x x1]; exact ⟨Or.inl rfl, fun y => absurd y (by decide), fun y => by omega⟩) (fun full => ⟨fun _ => HF (Or.inl ⟨w, full⟩) c c6 (fun k p => ck34 k p) c41 cbo, fun y => absurd wI_0 y⟩) (fun kc u gt g58 g58' => ⟨fun y => absurd y (by decide), fun _ => two u ?_⟩)
    · exact mp'
    obtain ⟨g1, g2, g3, g4, g5, g6⟩ := gt
    have fx : fre f mp n 0 (rf f mp n 0 1 n.toNat) := by
      rcases rf_one (f := f) (mp := mp) nn with ⟨_, y⟩ | ⟨y, _⟩
      · omega
      · exact y
    have r9 : atF f mp n 0 0 0 0 1 = rf f mp n 0 1 n.toNat := by unfold atF; rw [if_pos rfl]
    have fr9 : rf f mp n 0 1 n.toNat ≠ -9 := by have := fx.1; omega
    have s0 : frs f mp n 0 0 0 0 1 0 = rf f mp n 0 1 n.toNat := by
      unfold frs
      rw [r9, if_neg fr9]
      omega
    have rn1 : rnF f mp n 0 0 0 0 1 = 1 := by
      unfold rnF
      rw [r9, if_neg fr9]
    refine c98 u (rf f mp n 0 1 n.toNat) 1 (frs f mp n 0 0 0 0 1) 1 xe.symm (fun _ => kc) ⟨by rw [g6 54 (by decide)]; exact z0.1, by decide, fun i hi => absurd hi (Nat.not_lt_zero _), by rw [g6 57 (by decide)]; exact z0.2.2.1, g1, by decide, g2, by rw [g58, rn1]⟩ (Or.inr rfl) (Or.inr ⟨w, rfl, s0, rfl, by have := fx.1; omega⟩) (by rw [g4 1 (by decide)]; exact z1.2.1) (fun x x1 x2 => ?_) (fun o p => g6 o (by omega)) (Or.inr fx)
    have q := g3 x x1 x2
    refine ⟨q.1, fun y => ?_, fun y => q.2.mpr ?_⟩
    · rcases q.2.mp y with y' | ⟨j, j1, y'⟩
      · omega
      · rw [show j = 0 by omega, s0] at y'
        exact y'
    · exact Or.inr ⟨0, by decide, by rw [s0]; exact y⟩
end MMAKE
