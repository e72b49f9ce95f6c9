/-! BOOT REGIONS -/
def zf : Nat → Int := fun _ => 0
def im1 : Nat → Int := wb (wb (wb (wb (wb (wb zf 62 2 43605) 126 2 43605) 190 2 43605) 0 4 1167095531) 4 4 1413563992) 8 4 2105376
def im2 (n root ser : Int) : Nat → Int := wb (wb (wb (wb (wb (wb (wb im1 16 4 (16 + 2 * n)) 20 4 8) 24 4 7) 28 4 16) 32 4 n) 36 4 root) 40 4 ser
def im3 (n root ser fl pc : Int) : Nat → Int := wb (wb (wb (wb (wb (im2 n root ser) 44 1 fl) 46 1 6) 47 1 1) 48 1 1) 49 1 pc
noncomputable def ims (n root ser fl pc : Int) : Int := sm4 1 (im3 n root ser fl pc) 0 192
noncomputable def im (n root ser fl pc : Int) : Nat → Int := fun k => if k < 192 then im3 n root ser fl pc k else ims n root ser fl pc / 256 ^ (k % 4) % 256
/-- the fields of a region -/
def Flds (f : Nat → Int) (a n root ser fl pc : Int) : Prop := lu f a 3 = 9467627 ∧ lu f (a + 3) 8 = 2314885754712905797 ∧ zer f (a + 11) (a + 16) ∧ u4 f (a + 16) = 16 + 2 * n ∧ u4 f (a + 20) = 8 ∧ u4 f (a + 24) = 7 ∧ u4 f (a + 28) = 16 ∧ u4 f (a + 32) = n ∧ u4 f (a + 36) = root ∧ u4 f (a + 40) = ser % 4294967296 ∧ u2 f (a + 44) = fl ∧ rd f (a + 46) = 6 ∧ rd f (a + 47) = 1 ∧ rd f (a + 48) = 1 ∧ rd f (a + 49) = pc ∧ zer f (a + 50) (a + 62) ∧ zer f (a + 64) (a + 126) ∧ zer f (a + 128) (a + 190) ∧ rd f (a + 62) = 85 ∧ rd f (a + 63) = 170 ∧ rd f (a + 126) = 85 ∧ rd f (a + 127) = 170 ∧ rd f (a + 190) = 85 ∧ rd f (a + 191) = 170
theorem im3_z {n root ser fl pc k : Int} (h0 : 0 ≤ k) (h : (11 ≤ k ∧ k < 16) ∨ k = 45 ∨ (50 ≤ k ∧ k < 62) ∨ (64 ≤ k ∧ k < 126) ∨ (128 ≤ k ∧ k < 190)) : rd (im3 n root ser fl pc) k = 0 := by
  unfold im3 im2
  by_cases q : k = 11
  · rw [q]; rfl
  · rw [rd_wb_ne (by decide) h0 (by omega), rd_wb_ne (by decide) h0 (by omega), rd_wb_ne (by decide) h0 (by omega), rd_wb_ne (by decide) h0 (by omega), rd_wb_ne (by decide) h0 (by omega), rd_wb_ne (by decide) h0 (by omega), rd_wb_ne (by decide) h0 (by omega), rd_wb_ne (by decide) h0 (by omega), rd_wb_ne (by decide) h0 (by omega), rd_wb_ne (by decide) h0 (by omega), rd_wb_ne (by decide) h0 (by omega), rd_wb_ne (by decide) h0 (by omega)]
    unfold im1
    rw [rd_wb_ne (by decide) h0 (by omega), rd_wb_ne (by decide) h0 (by omega), rd_wb_ne (by decide) h0 (by omega), rd_wb_ne (by decide) h0 (by omega), rd_wb_ne (by decide) h0 (by omega), rd_wb_ne (by decide) h0 (by omega)]
    rfl
theorem im_fields {f : Nat → Int} (hf : By f) {a n root ser fl pc : Int} (a0 : 0 ≤ a) (a1 : a + 256 ≤ 13824) (hn : 16 ≤ n ∧ n ≤ 100) (hr : 2 ≤ root ∧ root ≤ 101) (hfl : fl = 0 ∨ fl = 2) (hpc : 0 ≤ pc ∧ pc < 256) (A : ∀ k : Int, 0 ≤ k → k < 192 → rd f (a + k) = rd (im3 n root ser fl pc) k) : Flds f a n root ser fl pc := by
  have p0 : rd f (a + 0) = 235 := (A 0 (by decide) (by decide)).trans rfl
  have p1 : rd f (a + 1) = 118 := (A 1 (by decide) (by decide)).trans rfl
  have p2 : rd f (a + 2) = 144 := (A 2 (by decide) (by decide)).trans rfl
  have p3 : rd f (a + 3) = 69 := (A 3 (by decide) (by decide)).trans rfl
  have p4 : rd f (a + 4) = 88 := (A 4 (by decide) (by decide)).trans rfl
  have p5 : rd f (a + 5) = 70 := (A 5 (by decide) (by decide)).trans rfl
  have p6 : rd f (a + 6) = 65 := (A 6 (by decide) (by decide)).trans rfl
  have p7 : rd f (a + 7) = 84 := (A 7 (by decide) (by decide)).trans rfl
  have p8 : rd f (a + 8) = 32 := (A 8 (by decide) (by decide)).trans rfl
  have p9 : rd f (a + 9) = 32 := (A 9 (by decide) (by decide)).trans rfl
  have p10 : rd f (a + 10) = 32 := (A 10 (by decide) (by decide)).trans rfl
  have p16 : rd f (a + 16) = (16 + 2 * n) / 1 % 256 := (A 16 (by decide) (by decide)).trans rfl
  have p17 : rd f (a + 17) = (16 + 2 * n) / 256 % 256 := (A 17 (by decide) (by decide)).trans rfl
  have p18 : rd f (a + 18) = (16 + 2 * n) / 65536 % 256 := (A 18 (by decide) (by decide)).trans rfl
  have p19 : rd f (a + 19) = (16 + 2 * n) / 16777216 % 256 := (A 19 (by decide) (by decide)).trans rfl
  have p20 : rd f (a + 20) = 8 := (A 20 (by decide) (by decide)).trans rfl
  have p21 : rd f (a + 21) = 0 := (A 21 (by decide) (by decide)).trans rfl
  have p22 : rd f (a + 22) = 0 := (A 22 (by decide) (by decide)).trans rfl
  have p23 : rd f (a + 23) = 0 := (A 23 (by decide) (by decide)).trans rfl
  have p24 : rd f (a + 24) = 7 := (A 24 (by decide) (by decide)).trans rfl
  have p25 : rd f (a + 25) = 0 := (A 25 (by decide) (by decide)).trans rfl
  have p26 : rd f (a + 26) = 0 := (A 26 (by decide) (by decide)).trans rfl
  have p27 : rd f (a + 27) = 0 := (A 27 (by decide) (by decide)).trans rfl
  have p28 : rd f (a + 28) = 16 := (A 28 (by decide) (by decide)).trans rfl
  have p29 : rd f (a + 29) = 0 := (A 29 (by decide) (by decide)).trans rfl
  have p30 : rd f (a + 30) = 0 := (A 30 (by decide) (by decide)).trans rfl
  have p31 : rd f (a + 31) = 0 := (A 31 (by decide) (by decide)).trans rfl
  have p32 : rd f (a + 32) = n / 1 % 256 := (A 32 (by decide) (by decide)).trans rfl
  have p33 : rd f (a + 33) = n / 256 % 256 := (A 33 (by decide) (by decide)).trans rfl
  have p34 : rd f (a + 34) = n / 65536 % 256 := (A 34 (by decide) (by decide)).trans rfl
  have p35 : rd f (a + 35) = n / 16777216 % 256 := (A 35 (by decide) (by decide)).trans rfl
  have p36 : rd f (a + 36) = root / 1 % 256 := (A 36 (by decide) (by decide)).trans rfl
  have p37 : rd f (a + 37) = root / 256 % 256 := (A 37 (by decide) (by decide)).trans rfl
  have p38 : rd f (a + 38) = root / 65536 % 256 := (A 38 (by decide) (by decide)).trans rfl
  have p39 : rd f (a + 39) = root / 16777216 % 256 := (A 39 (by decide) (by decide)).trans rfl
  have p40 : rd f (a + 40) = ser / 1 % 256 := (A 40 (by decide) (by decide)).trans rfl
  have p41 : rd f (a + 41) = ser / 256 % 256 := (A 41 (by decide) (by decide)).trans rfl
  have p42 : rd f (a + 42) = ser / 65536 % 256 := (A 42 (by decide) (by decide)).trans rfl
  have p43 : rd f (a + 43) = ser / 16777216 % 256 := (A 43 (by decide) (by decide)).trans rfl
  have p44 : rd f (a + 44) = fl / 1 % 256 := (A 44 (by decide) (by decide)).trans rfl
  have p45 : rd f (a + 45) = 0 := (A 45 (by decide) (by decide)).trans (im3_z (by decide) (by omega))
  have p46 : rd f (a + 46) = 6 := (A 46 (by decide) (by decide)).trans rfl
  have p47 : rd f (a + 47) = 1 := (A 47 (by decide) (by decide)).trans rfl
  have p48 : rd f (a + 48) = 1 := (A 48 (by decide) (by decide)).trans rfl
  have p49 : rd f (a + 49) = pc / 1 % 256 := (A 49 (by decide) (by decide)).trans rfl
  have p62 : rd f (a + 62) = 85 := (A 62 (by decide) (by decide)).trans rfl
  have p63 : rd f (a + 63) = 170 := (A 63 (by decide) (by decide)).trans rfl
  have p126 : rd f (a + 126) = 85 := (A 126 (by decide) (by decide)).trans rfl
  have p127 : rd f (a + 127) = 170 := (A 127 (by decide) (by decide)).trans rfl
  have p190 : rd f (a + 190) = 85 := (A 190 (by decide) (by decide)).trans rfl
  have p191 : rd f (a + 191) = 170 := (A 191 (by decide) (by decide)).trans rfl
  have z : ∀ x y : Int, 0 ≤ x → (∀ k, x ≤ k → k < y → (11 ≤ k ∧ k < 16) ∨ k = 45 ∨ (50 ≤ k ∧ k < 62) ∨ (64 ≤ k ∧ k < 126) ∨ (128 ≤ k ∧ k < 190)) → zer f (a + x) (a + y) := by
    intro x y hx hk b b1 b2
    have q := hk (b - a) (by omega) (by omega)
    have := A (b - a) (by omega) (by omega)
    rw [show a + (b - a) = b by omega] at this
    rw [this]
    exact im3_z (by omega) q
  unfold Flds
  refine ⟨?_, ?_, z 11 16 (by decide) (by omega), ?_, ?_, ?_, ?_, ?_, ?_, ?_, ?_, p46, p47, p48, ?_, z 50 62 (by decide) (by omega), z 64 126 (by decide) (by omega), z 128 190 (by decide) (by omega), p62, p63, p126, p127, p190, p191⟩
  · simp only [lu]
    rw [show a + 1 + 1 = a + 2 by omega, show a = a + 0 by omega]
    rw [show a + 0 + 1 = a + 1 by omega, show a + 0 + 2 = a + 2 by omega, p0, p1, p2]
    omega
  · simp only [lu]
    rw [show a + 3 + 1 = a + 4 by omega, show a + 4 + 1 = a + 5 by omega, show a + 5 + 1 = a + 6 by omega, show a + 6 + 1 = a + 7 by omega, show a + 7 + 1 = a + 8 by omega, show a + 8 + 1 = a + 9 by omega, show a + 9 + 1 = a + 10 by omega, p3, p4, p5, p6, p7, p8, p9, p10]
    omega
  · unfold u4
    rw [show a + 16 + 1 = a + 17 by omega, show a + 16 + 2 = a + 18 by omega, show a + 16 + 3 = a + 19 by omega, p16, p17, p18, p19]
    omega
  · unfold u4
    rw [show a + 20 + 1 = a + 21 by omega, show a + 20 + 2 = a + 22 by omega, show a + 20 + 3 = a + 23 by omega, p20, p21, p22, p23]
    omega
  · unfold u4
    rw [show a + 24 + 1 = a + 25 by omega, show a + 24 + 2 = a + 26 by omega, show a + 24 + 3 = a + 27 by omega, p24, p25, p26, p27]
    omega
  · unfold u4
    rw [show a + 28 + 1 = a + 29 by omega, show a + 28 + 2 = a + 30 by omega, show a + 28 + 3 = a + 31 by omega, p28, p29, p30, p31]
    omega
  · unfold u4
    rw [show a + 32 + 1 = a + 33 by omega, show a + 32 + 2 = a + 34 by omega, show a + 32 + 3 = a + 35 by omega, p32, p33, p34, p35]
    omega
  · unfold u4
    rw [show a + 36 + 1 = a + 37 by omega, show a + 36 + 2 = a + 38 by omega, show a + 36 + 3 = a + 39 by omega, p36, p37, p38, p39]
    omega
  · unfold u4
    rw [show a + 40 + 1 = a + 41 by omega, show a + 40 + 2 = a + 42 by omega, show a + 40 + 3 = a + 43 by omega, p40, p41, p42, p43]
    omega
  · unfold u2
    rw [show a + 44 + 1 = a + 45 by omega, p44, p45]
    omega
  · rw [p49]; omega
theorem u4_dig {f : Nat → Int} (hf : By f) {a v : Int} (h0 : 0 ≤ a) (h1 : a + 3 < 13824) (h : u4 f a = v % 4294967296) : rd f a = v % 256 ∧ rd f (a + 1) = v / 256 % 256 ∧ rd f (a + 2) = v / 65536 % 256 ∧ rd f (a + 3) = v / 16777216 % 256 := by
  have b0 := hf.rd h0 (show a < 13824 by omega)
  have b1 := hf.rd (show 0 ≤ a + 1 by omega) (show a + 1 < 13824 by omega)
  have b2 := hf.rd (show 0 ≤ a + 2 by omega) (show a + 2 < 13824 by omega)
  have b3 := hf.rd (show 0 ≤ a + 3 by omega) h1
  unfold u4 at h
  omega
theorem im_back {f : Nat → Int} (hf : By f) {a n root ser fl pc : Int} (a0 : 0 ≤ a) (a1 : a + 256 ≤ 13824) (hn : 16 ≤ n ∧ n ≤ 100) (hr : 2 ≤ root ∧ root ≤ 101) (hfl : fl = 0 ∨ fl = 2) (hpc : 0 ≤ pc ∧ pc < 256) (F : Flds f a n root ser fl pc) : ∀ k : Int, 0 ≤ k → k < 192 → rd f (a + k) = rd (im3 n root ser fl pc) k := by
  obtain ⟨f1, f2, f3, f4, f5, f6, f7, f8, f9, f10, f11, f12, f13, f14, f15, f16, f17, f18, f19, f20, f21, f22, f23, f24⟩ := F
  intro k k0 k1
  have b : ∀ j : Int, 0 ≤ j → j < 256 → 0 ≤ rd f (a + j) ∧ rd f (a + j) < 256 := fun j p q => hf.rd (by omega) (by omega)
  have d16 := u4_dig hf (v := (16 + 2 * n)) (show 0 ≤ a + 16 by omega) (show a + 16 + 3 < 13824 by omega) (by rw [f4]; omega)
  rw [show a + 16 + 1 = a + 17 by omega, show a + 16 + 2 = a + 18 by omega, show a + 16 + 3 = a + 19 by omega] at d16
  have d20 := u4_dig hf (v := 8) (show 0 ≤ a + 20 by omega) (show a + 20 + 3 < 13824 by omega) (by rw [f5]; omega)
  rw [show a + 20 + 1 = a + 21 by omega, show a + 20 + 2 = a + 22 by omega, show a + 20 + 3 = a + 23 by omega] at d20
  have d24 := u4_dig hf (v := 7) (show 0 ≤ a + 24 by omega) (show a + 24 + 3 < 13824 by omega) (by rw [f6]; omega)
  rw [show a + 24 + 1 = a + 25 by omega, show a + 24 + 2 = a + 26 by omega, show a + 24 + 3 = a + 27 by omega] at d24
  have d28 := u4_dig hf (v := 16) (show 0 ≤ a + 28 by omega) (show a + 28 + 3 < 13824 by omega) (by rw [f7]; omega)
  rw [show a + 28 + 1 = a + 29 by omega, show a + 28 + 2 = a + 30 by omega, show a + 28 + 3 = a + 31 by omega] at d28
  have d32 := u4_dig hf (v := n) (show 0 ≤ a + 32 by omega) (show a + 32 + 3 < 13824 by omega) (by rw [f8]; omega)
  rw [show a + 32 + 1 = a + 33 by omega, show a + 32 + 2 = a + 34 by omega, show a + 32 + 3 = a + 35 by omega] at d32
  have d36 := u4_dig hf (v := root) (show 0 ≤ a + 36 by omega) (show a + 36 + 3 < 13824 by omega) (by rw [f9]; omega)
  rw [show a + 36 + 1 = a + 37 by omega, show a + 36 + 2 = a + 38 by omega, show a + 36 + 3 = a + 39 by omega] at d36
  have d40 := u4_dig hf (v := ser) (show 0 ≤ a + 40 by omega) (show a + 40 + 3 < 13824 by omega) f10
  rw [show a + 40 + 1 = a + 41 by omega, show a + 40 + 2 = a + 42 by omega, show a + 40 + 3 = a + 43 by omega] at d40
  have g0 : rd f (a + 0) = 235 ∧ rd f (a + 1) = 118 ∧ rd f (a + 2) = 144 := by
    have c0 := b 0 (by decide) (by decide)
    have c1 := b 1 (by decide) (by decide)
    have c2 := b 2 (by decide) (by decide)
    simp only [lu] at f1
    rw [show a + 1 + 1 = a + 2 by omega] at f1
    rw [show a + 0 = a by omega] at c0 ⊢
    omega
  have g3 : rd f (a + 3) = 69 ∧ rd f (a + 4) = 88 ∧ rd f (a + 5) = 70 ∧ rd f (a + 6) = 65 ∧ rd f (a + 7) = 84 ∧ rd f (a + 8) = 32 ∧ rd f (a + 9) = 32 ∧ rd f (a + 10) = 32 := by
    have c3 := b 3 (by decide) (by decide)
    have c4 := b 4 (by decide) (by decide)
    have c5 := b 5 (by decide) (by decide)
    have c6 := b 6 (by decide) (by decide)
    have c7 := b 7 (by decide) (by decide)
    have c8 := b 8 (by decide) (by decide)
    have c9 := b 9 (by decide) (by decide)
    have c10 := b 10 (by decide) (by decide)
    simp only [lu] at f2
    rw [show a + 3 + 1 = a + 4 by omega, show a + 4 + 1 = a + 5 by omega, show a + 5 + 1 = a + 6 by omega, show a + 6 + 1 = a + 7 by omega, show a + 7 + 1 = a + 8 by omega, show a + 8 + 1 = a + 9 by omega, show a + 9 + 1 = a + 10 by omega] at f2
    clear d16 d20 d24 d28 d32 d36 d40 f1 f3 f4 f5 f6 f7 f8 f9 f10 f11
    omega
  have g44 : rd f (a + 44) = fl ∧ rd f (a + 45) = 0 := by
    have c0 := b 44 (by decide) (by decide)
    have c1 := b 45 (by decide) (by decide)
    unfold u2 at f11
    rw [show a + 44 + 1 = a + 45 by omega] at f11
    omega
  have zz : ∀ x y : Int, zer f (a + x) (a + y) → x ≤ k → k < y → ((11 ≤ k ∧ k < 16) ∨ k = 45 ∨ (50 ≤ k ∧ k < 62) ∨ (64 ≤ k ∧ k < 126) ∨ (128 ≤ k ∧ k < 190)) → rd f (a + k) = rd (im3 n root ser fl pc) k := fun x y h p q r => by
    rw [h (a + k) (by omega) (by omega), im3_z k0 r]
  have one : ∀ j v : Int, k = j → rd f (a + j) = v → rd (im3 n root ser fl pc) j = v → rd f (a + k) = rd (im3 n root ser fl pc) k := fun j v e p q => by rw [e, p, q]
  by_cases e45 : k = 45
  · rw [e45, g44.2, im3_z (by decide) (by omega)]
  by_cases z1 : 11 ≤ k ∧ k < 16
  · exact zz 11 16 f3 z1.1 z1.2 (by omega)
  by_cases z2 : 50 ≤ k ∧ k < 62
  · exact zz 50 62 f16 z2.1 z2.2 (by omega)
  by_cases z3 : 64 ≤ k ∧ k < 126
  · exact zz 64 126 f17 z3.1 z3.2 (by omega)
  by_cases z4 : 128 ≤ k ∧ k < 190
  · exact zz 128 190 f18 z4.1 z4.2 (by omega)
  by_cases e0 : k = 0
  · exact one 0 _ e0 g0.1 rfl
  by_cases e1 : k = 1
  · exact one 1 _ e1 g0.2.1 rfl
  by_cases e2 : k = 2
  · exact one 2 _ e2 g0.2.2 rfl
  by_cases e3 : k = 3
  · exact one 3 _ e3 g3.1 rfl
  by_cases e4 : k = 4
  · exact one 4 _ e4 g3.2.1 rfl
  by_cases e5 : k = 5
  · exact one 5 _ e5 g3.2.2.1 rfl
  by_cases e6 : k = 6
  · exact one 6 _ e6 g3.2.2.2.1 rfl
  by_cases e7 : k = 7
  · exact one 7 _ e7 g3.2.2.2.2.1 rfl
  by_cases e8 : k = 8
  · exact one 8 _ e8 g3.2.2.2.2.2.1 rfl
  by_cases e9 : k = 9
  · exact one 9 _ e9 g3.2.2.2.2.2.2.1 rfl
  by_cases e10 : k = 10
  · exact one 10 _ e10 g3.2.2.2.2.2.2.2 rfl
  by_cases e16 : k = 16
  · exact one 16 _ e16 d16.1 (by first | rfl | (show _ / 1 % 256 = _; rw [Int.ediv_one]))
  by_cases e17 : k = 17
  · exact one 17 _ e17 d16.2.1 (by first | rfl | (show _ / 1 % 256 = _; rw [Int.ediv_one]))
  by_cases e18 : k = 18
  · exact one 18 _ e18 d16.2.2.1 (by first | rfl | (show _ / 1 % 256 = _; rw [Int.ediv_one]))
  by_cases e19 : k = 19
  · exact one 19 _ e19 d16.2.2.2 (by first | rfl | (show _ / 1 % 256 = _; rw [Int.ediv_one]))
  by_cases e20 : k = 20
  · exact one 20 _ e20 d20.1 (by first | rfl | (show _ / 1 % 256 = _; rw [Int.ediv_one]))
  by_cases e21 : k = 21
  · exact one 21 _ e21 d20.2.1 (by first | rfl | (show _ / 1 % 256 = _; rw [Int.ediv_one]))
  by_cases e22 : k = 22
  · exact one 22 _ e22 d20.2.2.1 (by first | rfl | (show _ / 1 % 256 = _; rw [Int.ediv_one]))
  by_cases e23 : k = 23
  · exact one 23 _ e23 d20.2.2.2 (by first | rfl | (show _ / 1 % 256 = _; rw [Int.ediv_one]))
  by_cases e24 : k = 24
  · exact one 24 _ e24 d24.1 (by first | rfl | (show _ / 1 % 256 = _; rw [Int.ediv_one]))
  by_cases e25 : k = 25
  · exact one 25 _ e25 d24.2.1 (by first | rfl | (show _ / 1 % 256 = _; rw [Int.ediv_one]))
  by_cases e26 : k = 26
  · exact one 26 _ e26 d24.2.2.1 (by first | rfl | (show _ / 1 % 256 = _; rw [Int.ediv_one]))
  by_cases e27 : k = 27
  · exact one 27 _ e27 d24.2.2.2 (by first | rfl | (show _ / 1 % 256 = _; rw [Int.ediv_one]))
  by_cases e28 : k = 28
  · exact one 28 _ e28 d28.1 (by first | rfl | (show _ / 1 % 256 = _; rw [Int.ediv_one]))
  by_cases e29 : k = 29
  · exact one 29 _ e29 d28.2.1 (by first | rfl | (show _ / 1 % 256 = _; rw [Int.ediv_one]))
  by_cases e30 : k = 30
  · exact one 30 _ e30 d28.2.2.1 (by first | rfl | (show _ / 1 % 256 = _; rw [Int.ediv_one]))
  by_cases e31 : k = 31
  · exact one 31 _ e31 d28.2.2.2 (by first | rfl | (show _ / 1 % 256 = _; rw [Int.ediv_one]))
  by_cases e32 : k = 32
  · exact one 32 _ e32 d32.1 (by first | rfl | (show _ / 1 % 256 = _; rw [Int.ediv_one]))
  by_cases e33 : k = 33
  · exact one 33 _ e33 d32.2.1 (by first | rfl | (show _ / 1 % 256 = _; rw [Int.ediv_one]))
  by_cases e34 : k = 34
  · exact one 34 _ e34 d32.2.2.1 (by first | rfl | (show _ / 1 % 256 = _; rw [Int.ediv_one]))
  by_cases e35 : k = 35
  · exact one 35 _ e35 d32.2.2.2 (by first | rfl | (show _ / 1 % 256 = _; rw [Int.ediv_one]))
  by_cases e36 : k = 36
  · exact one 36 _ e36 d36.1 (by first | rfl | (show _ / 1 % 256 = _; rw [Int.ediv_one]))
  by_cases e37 : k = 37
  · exact one 37 _ e37 d36.2.1 (by first | rfl | (show _ / 1 % 256 = _; rw [Int.ediv_one]))
  by_cases e38 : k = 38
  · exact one 38 _ e38 d36.2.2.1 (by first | rfl | (show _ / 1 % 256 = _; rw [Int.ediv_one]))
  by_cases e39 : k = 39
  · exact one 39 _ e39 d36.2.2.2 (by first | rfl | (show _ / 1 % 256 = _; rw [Int.ediv_one]))
  by_cases e40 : k = 40
  · exact one 40 _ e40 d40.1 (by first | rfl | (show _ / 1 % 256 = _; rw [Int.ediv_one]))
  by_cases e41 : k = 41
  · exact one 41 _ e41 d40.2.1 (by first | rfl | (show _ / 1 % 256 = _; rw [Int.ediv_one]))
  by_cases e42 : k = 42
  · exact one 42 _ e42 d40.2.2.1 (by first | rfl | (show _ / 1 % 256 = _; rw [Int.ediv_one]))
  by_cases e43 : k = 43
  · exact one 43 _ e43 d40.2.2.2 (by first | rfl | (show _ / 1 % 256 = _; rw [Int.ediv_one]))
  by_cases e46 : k = 46
  · exact one 46 _ e46 f12 rfl
  by_cases e47 : k = 47
  · exact one 47 _ e47 f13 rfl
  by_cases e48 : k = 48
  · exact one 48 _ e48 f14 rfl
  by_cases e62 : k = 62
  · exact one 62 _ e62 f19 rfl
  by_cases e63 : k = 63
  · exact one 63 _ e63 f20 rfl
  by_cases e126 : k = 126
  · exact one 126 _ e126 f21 rfl
  by_cases e127 : k = 127
  · exact one 127 _ e127 f22 rfl
  by_cases e190 : k = 190
  · exact one 190 _ e190 f23 rfl
  by_cases e191 : k = 191
  · exact one 191 _ e191 f24 rfl
  by_cases e44 : k = 44
  · refine one 44 _ e44 g44.1 ?_
    show fl / 1 % 256 = fl
    omega
  by_cases e49 : k = 49
  · refine one 49 _ e49 f15 ?_
    show pc / 1 % 256 = pc
    omega
  exfalso
  clear f1 f2 f3 f4 f5 f6 f7 f8 f9 f10 f11 d16 d20 d24 d28 d32 d36 d40 one zz b hf
  omega
