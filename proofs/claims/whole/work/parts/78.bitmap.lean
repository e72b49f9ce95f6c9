/-! the map of bits -/
noncomputable def mo (M : Int → Prop) (n a : Int) : Nat → Int
  | 0 => 0
  | j + 1 => mo M n a j + @ite _ (8 * a + (j : Int) + 2 ≤ n + 1 ∧ M (8 * a + (j : Int) + 2)) (Classical.propDecidable _) (2 ^ j) 0
theorem mo_y {M : Int → Prop} {n a : Int} {j : Nat} (h : 8 * a + (j : Int) + 2 ≤ n + 1 ∧ M (8 * a + (j : Int) + 2)) : mo M n a (j + 1) = mo M n a j + 2 ^ j := by rw [mo, if_pos h]
theorem mo_n {M : Int → Prop} {n a : Int} {j : Nat} (h : ¬ (8 * a + (j : Int) + 2 ≤ n + 1 ∧ M (8 * a + (j : Int) + 2))) : mo M n a (j + 1) = mo M n a j := by rw [mo, if_neg h, Int.add_zero]
theorem mo_rng (M : Int → Prop) (n a : Int) : ∀ j : Nat, 0 ≤ mo M n a j ∧ mo M n a j < 2 ^ j
  | 0 => by rw [mo]; decide
  | j + 1 => by
    have ih := mo_rng M n a j
    have e : (2 : Int) ^ (j + 1) = 2 ^ j * 2 := Int.pow_succ 2 j
    rw [e]
    by_cases c : 8 * a + (j : Int) + 2 ≤ n + 1 ∧ M (8 * a + (j : Int) + 2)
    · rw [mo_y c]; omega
    · rw [mo_n c]; omega
theorem mo_8 (M : Int → Prop) (n a : Int) {j : Nat} (hj : j ≤ 8) : 0 ≤ mo M n a j ∧ mo M n a j < 256 := by
  have r := mo_rng M n a j
  have e : (2 : Int) ^ j ≤ 256 := by
    rcases (show j = 0 ∨ j = 1 ∨ j = 2 ∨ j = 3 ∨ j = 4 ∨ j = 5 ∨ j = 6 ∨ j = 7 ∨ j = 8 by omega) with q | q | q | q | q | q | q | q | q <;> subst q <;> decide
  omega
theorem mo_bO {M : Int → Prop} {n a : Int} {j : Nat} (hj : j < 8) (h : 8 * a + (j : Int) + 2 ≤ n + 1 ∧ M (8 * a + (j : Int) + 2)) : bO (mo M n a j) (sLI 1 (j : Int)) = mo M n a (j + 1) := by
  have r := mo_rng M n a j
  have r8 := mo_8 M n a (j := j + 1) (by omega)
  have e : sLI 1 (j : Int) = 2 ^ j := by
    unfold sLI
    rw [show ((j : Int) % 32).toNat = j by omega, Int.one_mul]
  have c : (((2 ^ j : Nat) : Int)) = (2 : Int) ^ j := by
    rcases (show j = 0 ∨ j = 1 ∨ j = 2 ∨ j = 3 ∨ j = 4 ∨ j = 5 ∨ j = 6 ∨ j = 7 by omega) with q | q | q | q | q | q | q | q <;> subst q <;> rfl
  rw [e, bO_add (mo M n a j) (2 ^ j) j (by omega) r.1 (by rw [c]; exact r.2) (by rw [c]; exact ⟨1, by omega⟩), ← mo_y h, wI_id (by omega) (by omega)]
theorem mo_b0 {M : Int → Prop} {n a : Int} {j : Nat} (hj : j ≤ 8) : bO (mo M n a j) 0 = mo M n a j := by
  have r8 := mo_8 M n a (j := j) hj
  rw [bO_add (mo M n a j) 0 8 (by omega) r8.1 (by have : (((2 ^ 8 : Nat)) : Int) = 256 := rfl; rw [this]; exact r8.2) ⟨0, by omega⟩, Int.add_zero, wI_id (by omega) (by omega)]
def Bmp (f : Nat → Int) (mp : Int) (M : Int → Prop) (n : Int) : Prop := ∀ i : Nat, (i : Int) < (n + 7) / 8 → rd f (ca mp + i) = mo M n i 8
noncomputable def lyb (w : Nat → Int) (mp : Int) (M : Int → Prop) (n : Int) : Nat → Nat → Int
  | 0 => w
  | i + 1 => wb (lyb w mp M n i) (ca mp + i) 1 (mo M n i 8)
theorem E_lyb {w w' : Nat → Int} {mp : Int} {M : Int → Prop} {n : Int} (h : E w w') : ∀ k, E (lyb w mp M n k) (lyb w' mp M n k)
  | 0 => h
  | k + 1 => E_wb (E_lyb h k) _ _ _
theorem lyb_same {w : Nat → Int} {mp : Int} {M : Int → Prop} {n : Int} (m0 : 2 ≤ mp) (h : Bmp w mp M n) : ∀ k : Nat, (k : Int) ≤ (n + 7) / 8 → lyb w mp M n k = w
  | 0, _ => rfl
  | k + 1, hk => by
    rw [lyb, lyb_same m0 h k (by omega)]
    have e := h k (by omega)
    have r := mo_8 M n k (j := 8) (by omega)
    have c0 : 0 ≤ ca mp := by unfold ca; omega
    funext x
    unfold wb
    split
    · rename_i c
      rw [show x - (ca mp + (k : Int)).toNat = 0 by omega, Int.pow_zero, Int.ediv_one, ← e, Int.emod_eq_of_lt (by rw [e]; exact r.1) (by rw [e]; exact r.2)]
      unfold rd
      rw [show (ca mp + (k : Int)).toNat = x by omega]
    · rfl
theorem ub_w8 (h : AH) (k : Nat) (v : Int) : ub (hs h 36 k (w8 (w8 v)) 36) = wb (ub (h 36)) (k : Int) 1 v := by
  rw [ub_wb1]
  funext x
  unfold wb
  have : w8 (w8 v) % 256 = v % 256 := by rw [w8_mod, w8_mod]
  split
  · rename_i c
    rw [show x - (k : Int).toNat = 0 by omega, Int.pow_zero, Int.ediv_one, Int.ediv_one]
    exact this
  · rfl
section BMP
variable {G : GG} {h : AH} {f : Nat → Int}
theorem H_bitmapOctet {P : Int → AH → Prop} {a : Int} {M : Int → Prop} (hn : 16 ≤ h 7 1 ∧ h 7 1 ≤ 100) (hm : Mt (h 24) M) (a0 : 0 ≤ a) (a1 : a < (h 7 1 + 7) / 8) (H : P (mo M (h 7 1) a 8) h) : RunsI G 50 [vR 17, vI a] h P := by
  apply q_H_bitmapOctet
  have key : ∀ (m j : Nat), j + m = 8 → Go G (pI P) 50 4 [some (vR 17), some (vI a), some (vI (mo M (h 7 1) a j)), some (vI (j : Int)), none] [] h := by
    intro m
    induction m with
    | zero =>
      intro j hj
      have ej : j = 8 := (by omega)
      subst ej
      apply q_H_bitmapOctet_c4
      exact ⟨fun _ => H, fun c => absurd (by decide) c⟩
    | succ m ih =>
      intro j hj
      apply q_H_bitmapOctet_c4
      rw [wI_id (z := (j : Int)) (by omega) (by omega)]
      refine ⟨fun c => by omega, fun _ => ?_⟩
      have nx := ih (j + 1) (by omega)
      rw [show ((j + 1 : Nat) : Int) = (j : Int) + 1 by omega] at nx
      have no : ¬ (8 * a + (j : Int) + 2 ≤ h 7 1 + 1 ∧ M (8 * a + (j : Int) + 2)) → Go G (pI P) 50 4 [some (vR 17), some (vI a), some (vI (mo M (h 7 1) a j)), some (vI ((j : Int) + 1)), none] [] h := fun q => by
        rw [mo_n q] at nx
        exact nx
      refine S_isCluster hn (by omega) (fun k => ⟨fun z => absurd z (by decide), fun _ => ?_⟩) (fun k => ⟨fun _ => no (fun q => k ?_), fun z => absurd wI_0 z⟩)
      · unfold clu at k
        refine H_isMet hm (by omega) (fun q => ⟨fun z => absurd z (by decide), fun _ => ?_⟩) (fun q => ⟨fun _ => no (fun z => q z.2), fun z => absurd wI_0 z⟩)
        rw [mo_bO (by omega) ⟨k.2, q⟩]
        exact nx
      · unfold clu; omega
  exact key 8 0 rfl
theorem M_mapOctet {P : Int → AH → Prop} {a : Int} {M : Int → Prop} (hn : 16 ≤ h 34 0 ∧ h 34 0 ≤ 100) (hm : Mt (h 37) M) (a0 : 0 ≤ a) (a1 : a < (h 34 0 + 7) / 8) (H : P (mo M (h 34 0) a 8) h) : RunsI G 225 [vR 34, vI a] h P := by
  apply q_M_mapOctet
  have key : ∀ (m j : Nat), j + m = 8 → Go G (pI P) 225 4 [some (vR 34), some (vI a), some (vI (mo M (h 34 0) a j)), some (vI (j : Int)), none] [] h := by
    intro m
    induction m with
    | zero =>
      intro j hj
      have ej : j = 8 := (by omega)
      subst ej
      apply q_M_mapOctet_c4
      exact ⟨fun _ => H, fun c => absurd (by decide) c⟩
    | succ m ih =>
      intro j hj
      apply q_M_mapOctet_c4
      rw [wI_id (z := (j : Int)) (by omega) (by omega), wI_id (z := h 34 0 + 1) (by omega) (by omega), wI_id (z := 8 * a + (j : Int) + 2) (by omega) (by omega), mo_b0 (by omega)]
      refine ⟨fun c => by omega, fun _ => ?_⟩
      have nx := ih (j + 1) (by omega)
      rw [show ((j + 1 : Nat) : Int) = (j : Int) + 1 by omega] at nx
      have no : ¬ (8 * a + (j : Int) + 2 ≤ h 34 0 + 1 ∧ M (8 * a + (j : Int) + 2)) → Go G (pI P) 225 4 [some (vR 34), some (vI a), some (vI (mo M (h 34 0) a j)), some (vI ((j : Int) + 1)), none] [] h := fun q => by
        rw [mo_n q] at nx
        exact nx
      refine ⟨fun k => no (fun q => by omega), fun k => ⟨by omega, ?_⟩⟩
      have mi := hm (8 * a + (j : Int) + 2).toNat (by omega)
      rw [show (((8 * a + (j : Int) + 2).toNat : Nat) : Int) = 8 * a + (j : Int) + 2 by omega] at mi
      by_cases q : M (8 * a + (j : Int) + 2)
      · rw [mi.1 q]
        refine ⟨fun z => absurd z (by decide), fun _ => ?_⟩
        rw [mo_bO (by omega) ⟨by omega, q⟩]
        exact nx
      · rw [mi.2 q]
        exact ⟨fun _ => no (fun z => q z.2), fun z => absurd wI_0 z⟩
  exact key 8 0 rfl
theorem H_isRightBitmap {P : Int → AH → Prop} {M : Int → Prop} (hb : By (h 3)) (hn : 16 ≤ h 7 1 ∧ h 7 1 ≤ 100) (hp : 2 ≤ h 7 3 ∧ h 7 3 ≤ 101) (hm : Mt (h 24) M) (H1 : Bmp (h 3) (h 7 3) M (h 7 1) → P 1 h) (H0 : ¬ Bmp (h 3) (h 7 3) M (h 7 1) → P 0 h) : RunsI G 51 [vR 17] h P := by
  apply q_H_isRightBitmap
  have key : ∀ (m j : Nat), (j : Int) + m = (h 7 1 + 7) / 8 → (∀ i : Nat, i < j → rd (h 3) (ca (h 7 3) + i) = mo M (h 7 1) i 8) → Go G (pI P) 51 2 [some (vR 17), some (vI (j : Int))] [] h := by
    intro m
    induction m with
    | zero =>
      intro j hj al
      apply q_H_isRightBitmap_c2
      rw [wI_id (z := h 7 1 + 7) (by omega) (by omega), tdiv_pos (by omega), wI_id (z := (h 7 1 + 7) / 8) (by omega) (by omega), wI_id (z := (j : Int)) (by omega) (by omega)]
      exact ⟨by decide, fun _ => ⟨Or.inr rfl, H1 (fun i hi => al i (by omega))⟩, fun c => by omega⟩
    | succ m ih =>
      intro j hj al
      apply q_H_isRightBitmap_c2
      rw [wI_id (z := h 7 1 + 7) (by omega) (by omega), tdiv_pos (by omega), wI_id (z := (h 7 1 + 7) / 8) (by omega) (by omega), wI_id (z := (j : Int)) (by omega) (by omega)]
      refine ⟨by decide, fun c => by omega, fun _ => ?_⟩
      apply q_S_address
      have ec : ca (h 7 3) = 1024 + 128 * (h 7 3 - 2) := rfl
      rw [← ec]
      refine D_get (by omega) (by omega) (H_bitmapOctet hn hm (by omega) (by omega) ?_)
      have b := hb.rd (show 0 ≤ ca (h 7 3) + (j : Int) by omega) (show ca (h 7 3) + (j : Int) < 13824 by omega)
      have r8 := mo_8 M (h 7 1) (j : Int) (j := 8) (by omega)
      rw [wI_id (z := rd (h 3) (ca (h 7 3) + (j : Int))) (by omega) (by omega), wI_id (z := mo M (h 7 1) (j : Int) 8) (by omega) (by omega), show (j : Int) + 1 = ((j + 1 : Nat) : Int) by omega]
      refine ⟨fun c => ih (j + 1) (by omega) (fun i hi => ?_), fun c => ⟨Or.inl rfl, H0 (fun z => c (z j (by omega)))⟩⟩
      by_cases q : i = j
      · rw [q]; exact c
      · exact al i (by omega)
  exact key ((h 7 1 + 7) / 8).toNat 0 (by omega) (fun i hi => by omega)
theorem M_isMapRight {P : Int → AH → Prop} {M : Int → Prop} (hE : E (ub (h 35)) f) (hn : 16 ≤ h 34 0 ∧ h 34 0 ≤ 100) (hp : 2 ≤ h 34 2 ∧ h 34 2 ≤ 101) (hm : Mt (h 37) M) (H1 : Bmp f (h 34 2) M (h 34 0) → P 1 h) (H0 : ¬ Bmp f (h 34 2) M (h 34 0) → P 0 h) : RunsI G 226 [vR 34] h P := by
  have hf : By f := hE.by (ub_By _)
  apply q_M_isMapRight
  have key : ∀ (m j : Nat) (x : Int), (j : Int) + m = (h 34 0 + 7) / 8 → ((x = 1 ∧ ∀ i : Nat, i < j → rd f (ca (h 34 2) + i) = mo M (h 34 0) i 8) ∨ (x = 0 ∧ ¬ Bmp f (h 34 2) M (h 34 0))) → Go G (pI P) 226 4 [some (vR 34), some (vI x), some (vI (j : Int))] [] h := by
    intro m
    induction m with
    | zero =>
      intro j x hj hx
      apply q_M_isMapRight_c4
      rw [wI_id (z := h 34 0 + 7) (by omega) (by omega), tdiv_pos (by omega), wI_id (z := (h 34 0 + 7) / 8) (by omega) (by omega), wI_id (z := (j : Int)) (by omega) (by omega)]
      refine ⟨by decide, fun _ => ?_, fun c => by omega⟩
      rcases hx with ⟨a, b⟩ | ⟨a, b⟩
      · rw [a]; exact ⟨Or.inr rfl, H1 (fun i hi => b i (by omega))⟩
      · rw [a]; exact ⟨Or.inl rfl, H0 b⟩
    | succ m ih =>
      intro j x hj hx
      apply q_M_isMapRight_c4
      rw [wI_id (z := h 34 0 + 7) (by omega) (by omega), tdiv_pos (by omega), wI_id (z := (h 34 0 + 7) / 8) (by omega) (by omega), wI_id (z := (j : Int)) (by omega) (by omega)]
      refine ⟨by decide, fun c => by omega, fun _ => ?_⟩
      apply q_M_clusterAt
      have ec : ca (h 34 2) = 1024 + 128 * (h 34 2 - 2) := rfl
      rw [← ec, wI_id (z := ca (h 34 2) + (j : Int)) (by omega) (by omega)]
      refine ⟨by omega, M_mapOctet hn hm (by omega) (by omega) ?_⟩
      have b := hf.rd (show 0 ≤ ca (h 34 2) + (j : Int) by omega) (show ca (h 34 2) + (j : Int) < 13824 by omega)
      have r8 := mo_8 M (h 34 0) (j : Int) (j := 8) (by omega)
      rw [oct hE (by omega) (by omega), wI_id (z := rd f (ca (h 34 2) + (j : Int))) (by omega) (by omega), wI_id (z := mo M (h 34 0) (j : Int) 8) (by omega) (by omega), show (j : Int) + 1 = ((j + 1 : Nat) : Int) by omega]
      refine ⟨fun c => ih (j + 1) (bA x 1) (by omega) ?_, fun c => ih (j + 1) (bA x 0) (by omega) (Or.inr ⟨?_, fun z => c (z j (by omega))⟩)⟩
      · rcases hx with ⟨a, b⟩ | ⟨a, b⟩
        · refine Or.inl ⟨by rw [a]; exact bA01.2.2.2, fun i hi => ?_⟩
          by_cases q : i = j
          · rw [q]; exact c
          · exact b i (by omega)
        · exact Or.inr ⟨by rw [a]; exact bA01.2.1, b⟩
      · rcases hx with ⟨a, _⟩ | ⟨a, _⟩ <;> rw [a]
        · exact bA01.2.2.1
        · exact bA01.1
  exact key ((h 34 0 + 7) / 8).toNat 0 1 (by omega) (Or.inl ⟨rfl, fun i hi => by omega⟩)
theorem H_layBitmap {P : AH → Prop} {M : Int → Prop} (hd : Dk h) (hn : 16 ≤ h 7 1 ∧ h 7 1 ≤ 100) (hp : 2 ≤ h 7 3 ∧ h 7 3 ≤ 101) (hm : Mt (h 24) M) (H : ∀ h', Upd h h' (lyb (h 3) (h 7 3) M (h 7 1) ((h 7 1 + 7) / 8).toNat) → P h') : RunsV G 52 [vR 17] h P := by
  apply q_H_layBitmap
  have key : ∀ (m j : Nat) (b : AH), (j : Int) + m = (h 7 1 + 7) / 8 → Upd h b (lyb (h 3) (h 7 3) M (h 7 1) j) → Go G (pV P) 52 2 [some (vR 17), some (vI (j : Int))] [] b := by
    intro m
    induction m with
    | zero =>
      intro j b hj u
      have e7 : b 7 = h 7 := u.2.2 7 (by decide) (by decide)
      apply q_H_layBitmap_c2
      rw [e7, wI_id (z := h 7 1 + 7) (by omega) (by omega), tdiv_pos (by omega), wI_id (z := (h 7 1 + 7) / 8) (by omega) (by omega), wI_id (z := (j : Int)) (by omega) (by omega)]
      rw [show j = ((h 7 1 + 7) / 8).toNat by omega] at u
      exact ⟨by decide, fun _ => H b u, fun c => by omega⟩
    | succ m ih =>
      intro j b hj u
      have e7 : b 7 = h 7 := u.2.2 7 (by decide) (by decide)
      apply q_H_layBitmap_c2
      rw [e7, wI_id (z := h 7 1 + 7) (by omega) (by omega), tdiv_pos (by omega), wI_id (z := (h 7 1 + 7) / 8) (by omega) (by omega), wI_id (z := (j : Int)) (by omega) (by omega)]
      refine ⟨by decide, fun c => by omega, fun _ => ?_⟩
      apply q_S_address
      have ec : ca (h 7 3) = 1024 + 128 * (h 7 3 - 2) := rfl
      rw [← ec]
      refine H_bitmapOctet (M := M) (by rw [e7]; exact hn) (by rw [u.2.2 24 (by decide) (by decide)]; exact hm) (by omega) (by rw [e7]; omega) ?_
      rw [e7]
      refine D_wb1 u.1 (by omega) (by omega) (fun b2 u2 => ?_)
      rw [show (j : Int) + 1 = ((j + 1 : Nat) : Int) by omega]
      refine ih (j + 1) b2 (by omega) (u.trans ?_)
      rw [u.2.1] at u2
      exact u2
  exact key ((h 7 1 + 7) / 8).toNat 0 h (by omega) (Upd.rf hd)
end BMP
