/-! what is to be shown of each method, from its entry and from its cuts, by program out of the code tables -/
-- BitmapVolume$Tree.headOf(I)I  []
set_option maxRecDepth 100000 in
theorem q_T_headOf {G : GG} {P : Int → AH → Prop} {x0 : Int} {h : AH}
  (H : P (768 + (32 * x0)) h) :
  RunsI G 122 [vI x0] h P := runs_of (by decide) 0 rfl (go1 ok122 900 H)
-- BitmapVolume$Tree.placeOf(I)I  []
set_option maxRecDepth 100000 in
theorem q_T_placeOf {G : GG} {P : Int → AH → Prop} {x0 : Int} {h : AH}
  (H : ((32 : Int) ≠ 0 ∧ P (Int.tdiv (wI ((x0 - 1024) + 256)) 32) h)) :
  RunsI G 123 [vI x0] h P := runs_of (by decide) 0 rfl (go1 ok123 900 H)
-- BitmapVolume$Tree.tailOf(I)I  [11]
set_option maxRecDepth 100000 in
theorem q_T_tailOf {G : GG} {P : Int → AH → Prop} {x1 : Int} {h : AH}
  (H : ((wI (bA x1 3) = 0 →
    RunsI G 122 [vI x1] h (fun r2 h2 =>
    P (r2 + 64) h2)) ∧
    (¬ wI (bA x1 3) = 0 →
    ((wI (sRI x1 2) < 0 →
      P (-1) h) ∧
      (¬ wI (sRI x1 2) < 0 →
      (((102 : Int) ≤ wI (sRI x1 2) →
        P (-1) h) ∧
        (¬ (102 : Int) ≤ wI (sRI x1 2) →
        ((0 ≤ wI (sRI x1 2) ∧ wI (sRI x1 2) < 102) ∧
        RunsI G 109 [vI (h 13 (wI (sRI x1 2)).toNat)] h (fun r1 h1 =>
        P r1 h1))))))))) :
  RunsI G 124 [vR 11, vI x1] h P := runs_of (by decide) 1 rfl (go1 ok124 900 H)
-- BitmapVolume$Tree.index()V  [11]
set_option maxRecDepth 100000 in
theorem q_T_index {G : GG} {P : AH → Prop} {h : AH}
  (H : RunsV G 277 [vR 12, vI (-1)] h (fun h1 =>
  RunsV G 277 [vR 13, vI 0] h1 (fun h2 =>
  ((0 ≤ (0 : Int) ∧ (0 : Int) < 102) ∧
  Go G (pV P) 125 30 [some (vR 11), some (vI 0), none] [] (hs (hs h2 14 0 0) 11 6 1))))) :
  RunsV G 125 [vR 11] h P := runs_of (by decide) 2 rfl (go1 ok125 900 H)
set_option maxRecDepth 100000 in
theorem q_T_index_c30 {G : GG} {P : AH → Prop} {x1 : Int} {h : AH}
  (H : ((wI (h 11 6) ≤ wI x1 →
    P h) ∧
    (¬ wI (h 11 6) ≤ wI x1 →
    (((102 : Int) ≤ wI x1 →
      P h) ∧
      (¬ (102 : Int) ≤ wI x1 →
      ((0 ≤ wI x1 ∧ wI x1 < 102) ∧
      RunsV G 127 [vR 11, vI (h 14 (wI x1).toNat), vR 15] h (fun h1 =>
      Go G (pV P) 125 63 [some (vR 11), some (vI x1), some (vI 0)] [] h1))))))) :
  Go G (pV P) 125 30 [some (vR 11), some (vI x1), none] [] h := go1 ok125 900 H
set_option maxRecDepth 100000 in
theorem q_T_index_c63 {G : GG} {P : AH → Prop} {x1 x2 : Int} {h : AH}
  (H : ((wI (h 15 1) ≤ wI x2 →
    Go G (pV P) 125 30 [some (vR 11), some (vI (x1 + 1)), none] [] h) ∧
    (¬ wI (h 15 1) ≤ wI x2 →
    ((0 ≤ wI x1 ∧ wI x1 < 102) ∧
    RunsI G 26 [vR 15, vI x2] h (fun r1 h1 =>
    RunsI G 26 [vR 15, vI (x2 + 1)] h1 (fun r2 h2 =>
    RunsV G 126 [vR 11, vI (h 14 (wI x1).toNat), vI r1, vI r2] h2 (fun h3 =>
    Go G (pV P) 125 63 [some (vR 11), some (vI x1), some (vI (x2 + 1))] [] h3))))))) :
  Go G (pV P) 125 63 [some (vR 11), some (vI x1), some (vI x2)] [] h := go1 ok125 900 H
-- BitmapVolume$Tree.indexCluster(III)V  [11]
set_option maxRecDepth 100000 in
theorem q_T_indexCluster {G : GG} {P : AH → Prop} {x1 x2 x3 : Int} {h : AH}
  (H : ((wI x2 < 0 →
    P h) ∧
    (¬ wI x2 < 0 →
    ((wI x2 < (102 : Int) →
      ((0 ≤ wI x2 ∧ wI x2 < 102) ∧
      ((0 ≤ wI x2 ∧ wI x2 < 102) ∧
      Go G (pV P) 126 33 [some (vR 11), none, some (vI x2), none, some (vI (4 * x2)), none] [] (hs (hs h 12 (wI x2).toNat x1) 13 (wI x2).toNat x3)))) ∧
      (¬ wI x2 < (102 : Int) →
      P h))))) :
  RunsV G 126 [vR 11, vI x1, vI x2, vI x3] h P := runs_of (by decide) 2 rfl (go1 ok126 900 H)
set_option maxRecDepth 100000 in
theorem q_T_indexCluster_c33 {G : GG} {P : AH → Prop} {x2 x4 : Int} {h : AH}
  (H : ((wI ((4 * x2) + 4) ≤ wI x4 →
    P h) ∧
    (¬ wI ((4 * x2) + 4) ≤ wI x4 →
    RunsI G 122 [vI x4] h (fun r1 h1 =>
    RunsI G 54 [vR 1, vI r1] h1 (fun r2 h2 =>
    ((wI r2 = (133 : Int) →
      RunsI G 122 [vI x4] h2 (fun r3 h3 =>
      RunsI G 83 [vR 10, vI r3] h3 (fun r4 h4 =>
      ((wI r4 = 0 →
        Go G (pV P) 126 81 [some (vR 11), none, some (vI x2), none, some (vI x4), none] [vI 0] h4) ∧
        (¬ wI r4 = 0 →
        Go G (pV P) 126 81 [some (vR 11), none, some (vI x2), none, some (vI x4), none] [vI 1] h4))))) ∧
      (¬ wI r2 = (133 : Int) →
      Go G (pV P) 126 81 [some (vR 11), none, some (vI x2), none, some (vI x4), none] [vI 0] h2))))))) :
  Go G (pV P) 126 33 [some (vR 11), none, some (vI x2), none, some (vI x4), none] [] h := go1 ok126 900 H
set_option maxRecDepth 100000 in
theorem q_T_indexCluster_c81 {G : GG} {P : AH → Prop} {x2 x4 s0 : Int} {h : AH}
  (H : ((wI s0 = 0 →
    Go G (pV P) 126 33 [some (vR 11), none, some (vI x2), none, some (vI (x4 + 2)), none] [] h) ∧
    (¬ wI s0 = 0 →
    (((102 : Int) ≤ wI (h 11 6) →
      Go G (pV P) 126 33 [some (vR 11), none, some (vI x2), none, some (vI (x4 + 2)), none] [] h) ∧
      (¬ (102 : Int) ≤ wI (h 11 6) →
      ((0 ≤ wI (h 11 6) ∧ wI (h 11 6) < 102) ∧
      Go G (pV P) 126 33 [some (vR 11), none, some (vI x2), none, some (vI (x4 + 2)), none] [] (hs (hs h 11 6 ((h 11 6) + 1)) 14 (wI (h 11 6)).toNat x4))))))) :
  Go G (pV P) 126 81 [some (vR 11), none, some (vI x2), none, some (vI x4), none] [vI s0] h := go1 ok126 900 H
-- BitmapVolume$Tree.open(ILBitmapVolume$Chain;)V  [11, 15]
set_option maxRecDepth 100000 in
theorem q_T_open_15 {G : GG} {P : AH → Prop} {x1 : Int} {h : AH}
  (H : RunsI G 122 [vI x1] h (fun r1 h1 =>
  ((wI x1 = 0 →
    RunsV G 29 [vR 15, vR 7, vI (h1 7 2)] h1 (fun h6 =>
    P h6)) ∧
    (¬ wI x1 = 0 →
    RunsI G 87 [vR 10, vI r1] h1 (fun r2 h2 =>
    RunsI G 85 [vR 10, vI r1] h2 (fun r3 h3 =>
    RunsI G 89 [vR 10, vI r1] h3 (fun r4 h4 =>
    RunsI G 28 [vR 15, vR 7, vI r2, vI r3, vI r4] h4 (fun r5 h5 =>
    P h5)))))))) :
  RunsV G 127 [vR 11, vI x1, vR 15] h P := runs_of (by decide) 1 rfl (go1 ok127 900 H)
-- BitmapVolume$Tree.open(ILBitmapVolume$Chain;)V  [11, 18]
set_option maxRecDepth 100000 in
theorem q_T_open_18 {G : GG} {P : AH → Prop} {x1 : Int} {h : AH}
  (H : RunsI G 122 [vI x1] h (fun r1 h1 =>
  ((wI x1 = 0 →
    RunsV G 29 [vR 18, vR 7, vI (h1 7 2)] h1 (fun h6 =>
    P h6)) ∧
    (¬ wI x1 = 0 →
    RunsI G 87 [vR 10, vI r1] h1 (fun r2 h2 =>
    RunsI G 85 [vR 10, vI r1] h2 (fun r3 h3 =>
    RunsI G 89 [vR 10, vI r1] h3 (fun r4 h4 =>
    RunsI G 28 [vR 18, vR 7, vI r2, vI r3, vI r4] h4 (fun r5 h5 =>
    P h5)))))))) :
  RunsV G 127 [vR 11, vI x1, vR 18] h P := runs_of (by decide) 1 rfl (go1 ok127 900 H)
-- BitmapVolume$Tree.open(ILBitmapVolume$Chain;)V  [11, 28]
set_option maxRecDepth 100000 in
theorem q_T_open_28 {G : GG} {P : AH → Prop} {x1 : Int} {h : AH}
  (H : RunsI G 122 [vI x1] h (fun r1 h1 =>
  ((wI x1 = 0 →
    RunsV G 29 [vR 28, vR 7, vI (h1 7 2)] h1 (fun h6 =>
    P h6)) ∧
    (¬ wI x1 = 0 →
    RunsI G 87 [vR 10, vI r1] h1 (fun r2 h2 =>
    RunsI G 85 [vR 10, vI r1] h2 (fun r3 h3 =>
    RunsI G 89 [vR 10, vI r1] h3 (fun r4 h4 =>
    RunsI G 28 [vR 28, vR 7, vI r2, vI r3, vI r4] h4 (fun r5 h5 =>
    P h5)))))))) :
  RunsV G 127 [vR 11, vI x1, vR 28] h P := runs_of (by decide) 1 rfl (go1 ok127 900 H)
-- BitmapVolume$Tree.isEntry(I)Z  [11]
set_option maxRecDepth 100000 in
theorem q_T_isEntry {G : GG} {P : Int → AH → Prop} {x1 : Int} {h : AH}
  (H : ((wI x1 ≤ 0 →
    (((0 : Int) = 0 ∨ (0 : Int) = 1) ∧ P 0 h)) ∧
    (¬ wI x1 ≤ 0 →
    RunsI G 110 [vR 7, vI (sRI x1 2)] h (fun r1 h1 =>
    ((wI r1 = 0 →
      (((0 : Int) = 0 ∨ (0 : Int) = 1) ∧ P 0 h1)) ∧
      (¬ wI r1 = 0 →
      (((102 : Int) ≤ wI (sRI x1 2) →
        (((0 : Int) = 0 ∨ (0 : Int) = 1) ∧ P 0 h1)) ∧
        (¬ (102 : Int) ≤ wI (sRI x1 2) →
        ((0 ≤ wI (sRI x1 2) ∧ wI (sRI x1 2) < 102) ∧
        ((wI (h1 12 (wI (sRI x1 2)).toNat) < 0 →
          (((0 : Int) = 0 ∨ (0 : Int) = 1) ∧ P 0 h1)) ∧
          (¬ wI (h1 12 (wI (sRI x1 2)).toNat) < 0 →
          RunsI G 122 [vI x1] h1 (fun r2 h2 =>
          RunsI G 54 [vR 1, vI r2] h2 (fun r3 h3 =>
          ((wI r3 = (133 : Int) →
            (((1 : Int) = 0 ∨ (1 : Int) = 1) ∧ P 1 h3)) ∧
            (¬ wI r3 = (133 : Int) →
            (((0 : Int) = 0 ∨ (0 : Int) = 1) ∧ P 0 h3)))))))))))))))) :
  RunsI G 128 [vR 11, vI x1] h P := runs_of (by decide) 1 rfl (go1 ok128 900 H)
-- BitmapVolume$Tree.isPlace(I)Z  [11]
set_option maxRecDepth 100000 in
theorem q_T_isPlace {G : GG} {P : Int → AH → Prop} {x1 : Int} {h : AH}
  (H : ((wI x1 = 0 →
    (((1 : Int) = 0 ∨ (1 : Int) = 1) ∧ P 1 h)) ∧
    (¬ wI x1 = 0 →
    RunsI G 128 [vR 11, vI x1] h (fun r1 h1 =>
    ((wI r1 = 0 →
      (((0 : Int) = 0 ∨ (0 : Int) = 1) ∧ P 0 h1)) ∧
      (¬ wI r1 = 0 →
      (((1 : Int) = 0 ∨ (1 : Int) = 1) ∧ P 1 h1))))))) :
  RunsI G 129 [vR 11, vI x1] h P := runs_of (by decide) 0 rfl (go1 ok129 900 H)
-- BitmapVolume$Tree.isDirectory(I)Z  [11]
set_option maxRecDepth 100000 in
theorem q_T_isDirectory {G : GG} {P : Int → AH → Prop} {x1 : Int} {h : AH}
  (H : ((wI x1 = 0 →
    (((1 : Int) = 0 ∨ (1 : Int) = 1) ∧ P 1 h)) ∧
    (¬ wI x1 = 0 →
    RunsI G 128 [vR 11, vI x1] h (fun r1 h1 =>
    ((wI r1 = 0 →
      (((0 : Int) = 0 ∨ (0 : Int) = 1) ∧ P 0 h1)) ∧
      (¬ wI r1 = 0 →
      RunsI G 122 [vI x1] h1 (fun r2 h2 =>
      RunsI G 83 [vR 10, vI r2] h2 (fun r3 h3 =>
      ((wI r3 = 0 →
        (((0 : Int) = 0 ∨ (0 : Int) = 1) ∧ P 0 h3)) ∧
        (¬ wI r3 = 0 →
        (((1 : Int) = 0 ∨ (1 : Int) = 1) ∧ P 1 h3))))))))))) :
  RunsI G 130 [vR 11, vI x1] h P := runs_of (by decide) 0 rfl (go1 ok130 900 H)
-- BitmapVolume$Tree.isFile(I)Z  [11]
set_option maxRecDepth 100000 in
theorem q_T_isFile {G : GG} {P : Int → AH → Prop} {x1 : Int} {h : AH}
  (H : RunsI G 128 [vR 11, vI x1] h (fun r1 h1 =>
  ((wI r1 = 0 →
    (((0 : Int) = 0 ∨ (0 : Int) = 1) ∧ P 0 h1)) ∧
    (¬ wI r1 = 0 →
    RunsI G 122 [vI x1] h1 (fun r2 h2 =>
    RunsI G 83 [vR 10, vI r2] h2 (fun r3 h3 =>
    ((wI r3 = 0 →
      (((1 : Int) = 0 ∨ (1 : Int) = 1) ∧ P 1 h3)) ∧
      (¬ wI r3 = 0 →
      (((0 : Int) = 0 ∨ (0 : Int) = 1) ∧ P 0 h3))))))))) :
  RunsI G 131 [vR 11, vI x1] h P := runs_of (by decide) 0 rfl (go1 ok131 900 H)
-- BitmapVolume$Tree.isWithin(II)Z  [11]
set_option maxRecDepth 100000 in
theorem q_T_isWithin {G : GG} {P : Int → AH → Prop} {x1 x2 : Int} {h : AH}
  (H : Go G (pI P) 132 5 [some (vR 11), none, some (vI x2), some (vI x1), some (vI 0), none] [] h) :
  RunsI G 132 [vR 11, vI x1, vI x2] h P := runs_of (by decide) 3 rfl (go1 ok132 900 H)
set_option maxRecDepth 100000 in
theorem q_T_isWithin_c5 {G : GG} {P : Int → AH → Prop} {x2 x3 x4 : Int} {h : AH}
  (H : (((102 : Int) ≤ wI x4 →
    (((0 : Int) = 0 ∨ (0 : Int) = 1) ∧ P 0 h)) ∧
    (¬ (102 : Int) ≤ wI x4 →
    ((wI x3 ≤ 0 →
      (((0 : Int) = 0 ∨ (0 : Int) = 1) ∧ P 0 h)) ∧
      (¬ wI x3 ≤ 0 →
      ((wI x3 = wI x2 →
        (((1 : Int) = 0 ∨ (1 : Int) = 1) ∧ P 1 h)) ∧
        (¬ wI x3 = wI x2 →
        (((102 : Int) ≤ wI (sRI x3 2) →
          Go G (pI P) 132 5 [some (vR 11), none, some (vI x2), some (vI 0), some (vI (x4 + 1)), none] [] h) ∧
          (¬ (102 : Int) ≤ wI (sRI x3 2) →
          ((0 ≤ wI (sRI x3 2) ∧ wI (sRI x3 2) < 102) ∧
          Go G (pI P) 132 5 [some (vR 11), none, some (vI x2), some (vI (h 12 (wI (sRI x3 2)).toNat)), some (vI (x4 + 1)), none] [] h)))))))))) :
  Go G (pI P) 132 5 [some (vR 11), none, some (vI x2), some (vI x3), some (vI x4), none] [] h := go1 ok132 900 H
-- BitmapVolume$Tree.find(ILBitmapVolume$Name;)I  [11, 32]
set_option maxRecDepth 100000 in
theorem q_T_find {G : GG} {P : Int → AH → Prop} {x1 : Int} {h : AH}
  (H : RunsI G 134 [vR 11, vI x1, vR 32, vI (-9)] h (fun r1 h1 =>
  P r1 h1)) :
  RunsI G 133 [vR 11, vI x1, vR 32] h P := runs_of (by decide) 0 rfl (go1 ok133 900 H)
-- BitmapVolume$Tree.findBut(ILBitmapVolume$Name;I)I  [11, 32]
set_option maxRecDepth 100000 in
theorem q_T_findBut {G : GG} {P : Int → AH → Prop} {x1 x3 : Int} {h : AH}
  (H : RunsV G 127 [vR 11, vI x1, vR 15] h (fun h1 =>
  Go G (pI P) 134 12 [some (vR 11), none, some (vR 32), some (vI x3), some (vI 0), none] [] h1)) :
  RunsI G 134 [vR 11, vI x1, vR 32, vI x3] h P := runs_of (by decide) 2 rfl (go1 ok134 900 H)
set_option maxRecDepth 100000 in
theorem q_T_findBut_c12 {G : GG} {P : Int → AH → Prop} {x3 x4 : Int} {h : AH}
  (H : RunsI G 31 [vR 15] h (fun r1 h1 =>
  ((wI r1 ≤ wI x4 →
    P (-9) h1) ∧
    (¬ wI r1 ≤ wI x4 →
    RunsI G 32 [vR 15, vI x4] h1 (fun r2 h2 =>
    RunsI G 54 [vR 1, vI r2] h2 (fun r3 h3 =>
    ((wI r3 = (133 : Int) →
      RunsI G 123 [vI r2] h3 (fun r4 h4 =>
      ((wI r4 = wI x3 →
        Go G (pI P) 134 12 [some (vR 11), none, some (vR 32), some (vI x3), some (vI (x4 + 2)), none] [] h4) ∧
        (¬ wI r4 = wI x3 →
        RunsI G 32 [vR 15, vI (x4 + 2)] h4 (fun r5 h5 =>
        RunsI G 95 [vR 10, vR 32, vI r2, vI r5] h5 (fun r6 h6 =>
        ((wI r6 = 0 →
          Go G (pI P) 134 12 [some (vR 11), none, some (vR 32), some (vI x3), some (vI (x4 + 2)), none] [] h6) ∧
          (¬ wI r6 = 0 →
          RunsI G 123 [vI r2] h6 (fun r7 h7 =>
          P r7 h7))))))))) ∧
      (¬ wI r3 = (133 : Int) →
      Go G (pI P) 134 12 [some (vR 11), none, some (vR 32), some (vI x3), some (vI (x4 + 2)), none] [] h3)))))))) :
  Go G (pI P) 134 12 [some (vR 11), none, some (vR 32), some (vI x3), some (vI x4), none] [] h := go1 ok134 900 H
-- BitmapVolume$Tree.child(II)I  [11]
set_option maxRecDepth 100000 in
theorem q_T_child {G : GG} {P : Int → AH → Prop} {x1 x2 : Int} {h : AH}
  (H : RunsV G 127 [vR 11, vI x1, vR 15] h (fun h1 =>
  Go G (pI P) 135 14 [some (vR 11), none, none, some (vI x2), some (vI 0), none] [] h1)) :
  RunsI G 135 [vR 11, vI x1, vI x2] h P := runs_of (by decide) 3 rfl (go1 ok135 900 H)
set_option maxRecDepth 100000 in
theorem q_T_child_c14 {G : GG} {P : Int → AH → Prop} {x3 x4 : Int} {h : AH}
  (H : RunsI G 31 [vR 15] h (fun r1 h1 =>
  ((wI r1 ≤ wI x4 →
    P (-9) h1) ∧
    (¬ wI r1 ≤ wI x4 →
    ((wI x3 < 0 →
      P (-9) h1) ∧
      (¬ wI x3 < 0 →
      RunsI G 32 [vR 15, vI x4] h1 (fun r2 h2 =>
      RunsI G 54 [vR 1, vI r2] h2 (fun r3 h3 =>
      ((wI r3 = (133 : Int) →
        ((wI x3 = 0 →
          RunsI G 123 [vI r2] h3 (fun r4 h4 =>
          P r4 h4)) ∧
          (¬ wI x3 = 0 →
          Go G (pI P) 135 14 [some (vR 11), none, none, some (vI (x3 + (-1))), some (vI (x4 + 2)), none] [] h3))) ∧
        (¬ wI r3 = (133 : Int) →
        Go G (pI P) 135 14 [some (vR 11), none, none, some (vI x3), some (vI (x4 + 2)), none] [] h3)))))))))) :
  Go G (pI P) 135 14 [some (vR 11), none, none, some (vI x3), some (vI x4), none] [] h := go1 ok135 900 H
-- BitmapVolume$Tree.clusterOf(II)I  [11]
set_option maxRecDepth 100000 in
theorem q_T_clusterOf {G : GG} {P : Int → AH → Prop} {x1 x2 : Int} {h : AH}
  (H : RunsV G 127 [vR 11, vI x1, vR 15] h (fun h1 =>
  ((wI x2 < 0 →
    P (-9) h1) ∧
    (¬ wI x2 < 0 →
    ((wI (h1 15 1) ≤ wI x2 →
      P (-9) h1) ∧
      (¬ wI (h1 15 1) ≤ wI x2 →
      RunsI G 26 [vR 15, vI x2] h1 (fun r2 h2 =>
      P r2 h2))))))) :
  RunsI G 136 [vR 11, vI x1, vI x2] h P := runs_of (by decide) 0 rfl (go1 ok136 900 H)
-- BitmapVolume$Tree.rootTells(I)I  [11]
set_option maxRecDepth 100000 in
theorem q_T_rootTells {G : GG} {P : Int → AH → Prop} {x1 : Int} {h : AH}
  (H : RunsV G 127 [vR 11, vI 0, vR 15] h (fun h1 =>
  ((wI x1 = 0 → P 16 h1) ∧
    (¬ wI x1 = 0 → ((wI x1 = 1 → P (128 * (h1 15 1)) h1) ∧
    (¬ wI x1 = 1 → ((wI x1 = 2 → P (h1 7 2) h1) ∧
    (¬ wI x1 = 2 → P 0 h1)))))))) :
  RunsI G 137 [vR 11, vI x1] h P := runs_of (by decide) 0 rfl (go1 ok137 900 H)
-- BitmapVolume$Tree.octets(II)J  [11]
set_option maxRecDepth 100000 in
theorem q_T_octets {G : GG} {P : Int → AH → Prop} {x1 x2 : Int} {h : AH}
  (H : RunsI G 122 [vI x1] h (fun r1 h1 =>
  RunsI G 88 [vR 10, vI r1] h1 (fun r2 h2 =>
  ((wI x2 < 0 →
    P 0 h2) ∧
    (¬ wI x2 < 0 →
    ((wI x2 < wI r2 →
      RunsV G 127 [vR 11, vI x1, vR 15] h2 (fun h3 =>
      Go G (pL P) 138 38 [some (vR 11), none, some (vI x2), some (vI r2), some (vL 0), none, some (vI 0), none] [] h3)) ∧
      (¬ wI x2 < wI r2 →
      P 0 h2))))))) :
  RunsL G 138 [vR 11, vI x1, vI x2] h P := runs_of (by decide) 5 rfl (go1 ok138 900 H)
set_option maxRecDepth 100000 in
theorem q_T_octets_c38 {G : GG} {P : Int → AH → Prop} {x2 x3 y4 x6 : Int} {h : AH}
  (H : (((8 : Int) ≤ wI x6 →
    P y4 h) ∧
    (¬ (8 : Int) ≤ wI x6 →
    ((wI x3 ≤ wI (x2 + x6) →
      P y4 h) ∧
      (¬ wI x3 ≤ wI (x2 + x6) →
      ((128 : Int) ≠ 0 ∧ RunsI G 26 [vR 15, vI (Int.tdiv (wI (x2 + x6)) 128)] h (fun r1 h1 =>
      RunsI G 109 [vI r1] h1 (fun r2 h2 =>
      ((128 : Int) ≠ 0 ∧ RunsI G 54 [vR 1, vI (r2 + (Int.tmod (wI (x2 + x6)) 128))] h2 (fun r3 h3 =>
      Go G (pL P) 138 38 [some (vR 11), none, some (vI x2), some (vI x3), some (vL (bOL y4 (sLL (wI r3) (8 * x6)))), none, some (vI (x6 + 1)), none] [] h3)))))))))) :
  Go G (pL P) 138 38 [some (vR 11), none, some (vI x2), some (vI x3), some (vL y4), none, some (vI x6), none] [] h := go1 ok138 900 H
-- BitmapVolume$Acts.create(ILBitmapVolume$Name;Z)I  [26, 32]
set_option maxRecDepth 100000 in
theorem q_A_create {G : GG} {P : Int → AH → Prop} {x1 x3 : Int} {h : AH}
  (H : RunsI G 130 [vR 11, vI x1] h (fun r1 h1 =>
  ((wI r1 = 0 →
    P (-1) h1) ∧
    (¬ wI r1 = 0 →
    RunsI G 77 [vR 32] h1 (fun r2 h2 =>
    ((wI r2 = 0 →
      P (-3) h2) ∧
      (¬ wI r2 = 0 →
      RunsI G 133 [vR 11, vI x1, vR 32] h2 (fun r3 h3 =>
      ((wI r3 = ((-9) : Int) →
        ((wI x3 = 0 →
          Go G (pI P) 0 63 [some (vR 26), some (vI x1), some (vR 32), some (vI x3), none] [vI 0] (hs h3 7 4 0)) ∧
          (¬ wI x3 = 0 →
          RunsI G 116 [vR 7] (hs h3 7 4 0) (fun r4 h4 =>
          Go G (pI P) 0 63 [some (vR 26), some (vI x1), some (vR 32), some (vI x3), none] [vI r4] h4)))) ∧
        (¬ wI r3 = ((-9) : Int) →
        P (-4) h3)))))))))) :
  RunsI G 0 [vR 26, vI x1, vR 32, vI x3] h P := runs_of (by decide) 1 rfl (go1 ok0 900 H)
set_option maxRecDepth 100000 in
theorem q_A_create_c63 {G : GG} {P : Int → AH → Prop} {x1 x3 s0 : Int} {h : AH}
  (H : ((wI x3 = 0 →
    Go G (pI P) 0 77 [some (vR 26), some (vI x1), some (vR 32), some (vI x3), some (vI s0)] [] h) ∧
    (¬ wI x3 = 0 →
    ((wI s0 = 0 →
      P (-6) h) ∧
      (¬ wI s0 = 0 →
      Go G (pI P) 0 77 [some (vR 26), some (vI x1), some (vR 32), some (vI x3), some (vI s0)] [] h))))) :
  Go G (pI P) 0 63 [some (vR 26), some (vI x1), some (vR 32), some (vI x3), none] [vI s0] h := go1 ok0 900 H
set_option maxRecDepth 100000 in
theorem q_A_create_c77 {G : GG} {P : Int → AH → Prop} {x1 x3 x4 : Int} {h : AH}
  (H : RunsI G 2 [vR 26, vI x1, vR 32] (hs h 7 4 x4) (fun r1 h1 =>
  ((wI r1 = 0 →
    P (-6) h1) ∧
    (¬ wI r1 = 0 →
    RunsI G 4 [vR 26, vI x1, vR 32] h1 (fun r2 h2 =>
    ((wI r2 = 0 →
      P (-7) h2) ∧
      (¬ wI r2 = 0 →
      RunsV G 100 [vR 10, vI (h2 26 6), vI (h2 26 7), vR 32] h2 (fun h3 =>
      RunsV G 102 [vR 10, vI (h3 26 6), vI (h3 26 5)] h3 (fun h4 =>
      RunsV G 103 [vR 10, vI (h4 26 6), vI (h4 26 5)] h4 (fun h5 =>
      ((wI x3 = 0 →
        Go G (pI P) 0 190 [some (vR 26), none, none, none, none] [] h5) ∧
        (¬ wI x3 = 0 →
        RunsV G 101 [vR 10, vI (h5 26 6), vI 16] h5 (fun h6 =>
        RunsV G 104 [vR 10, vI (h6 26 6), vI 1, vI x4, vI 128] h6 (fun h7 =>
        Go G (pI P) 0 190 [some (vR 26), none, none, none, none] [] h7)))))))))))))) :
  Go G (pI P) 0 77 [some (vR 26), some (vI x1), some (vR 32), some (vI x3), some (vI x4)] [] h := go1 ok0 900 H
set_option maxRecDepth 100000 in
theorem q_A_create_c190 {G : GG} {P : Int → AH → Prop} {h : AH}
  (H : RunsV G 106 [vR 10, vI (h 26 6), vI (h 26 7)] h (fun h1 =>
  RunsI G 64 [vR 1] h1 (fun r2 h2 =>
  ((wI r2 = 0 →
    P (-7) h2) ∧
    (¬ wI r2 = 0 →
    RunsV G 125 [vR 11] h2 (fun h3 =>
    RunsI G 123 [vI (h3 26 6)] h3 (fun r4 h4 =>
    P r4 h4))))))) :
  Go G (pI P) 0 190 [some (vR 26), none, none, none, none] [] h := go1 ok0 900 H
-- BitmapVolume$Acts.rename(IILBitmapVolume$Name;)I  [26, 32]
set_option maxRecDepth 100000 in
theorem q_A_rename {G : GG} {P : Int → AH → Prop} {x1 x2 : Int} {h : AH}
  (H : RunsI G 128 [vR 11, vI x1] h (fun r1 h1 =>
  ((wI r1 = 0 →
    P (-1) h1) ∧
    (¬ wI r1 = 0 →
    RunsI G 130 [vR 11, vI x2] h1 (fun r2 h2 =>
    ((wI r2 = 0 →
      P (-1) h2) ∧
      (¬ wI r2 = 0 →
      RunsI G 132 [vR 11, vI x2, vI x1] h2 (fun r3 h3 =>
      ((wI r3 = 0 →
        RunsI G 77 [vR 32] h3 (fun r4 h4 =>
        ((wI r4 = 0 →
          P (-3) h4) ∧
          (¬ wI r4 = 0 →
          RunsI G 134 [vR 11, vI x2, vR 32, vI x1] h4 (fun r5 h5 =>
          ((wI r5 = ((-9) : Int) →
            RunsI G 122 [vI x1] h5 (fun r6 h6 =>
            RunsI G 124 [vR 11, vI x1] h6 (fun r7 h7 =>
            RunsI G 84 [vR 10, vI r6] h7 (fun r8 h8 =>
            ((wI r8 = 0 →
              RunsI G 2 [vR 26, vI x2, vR 32] (hs h8 7 4 0) (fun r9 h9 =>
              ((wI r9 = 0 →
                P (-6) h9) ∧
                (¬ wI r9 = 0 →
                RunsI G 4 [vR 26, vI x2, vR 32] h9 (fun r10 h10 =>
                ((wI r10 = 0 →
                  P (-7) h10) ∧
                  (¬ wI r10 = 0 →
                  RunsV G 100 [vR 10, vI (h10 26 6), vI (h10 26 7), vR 32] h10 (fun h11 =>
                  RunsV G 105 [vR 10, vI (h11 26 6), vI r6] h11 (fun h12 =>
                  RunsV G 106 [vR 10, vI (h12 26 6), vI (h12 26 7)] h12 (fun h13 =>
                  RunsI G 64 [vR 1] h13 (fun r14 h14 =>
                  ((wI r14 = 0 →
                    P (-7) h14) ∧
                    (¬ wI r14 = 0 →
                    RunsV G 107 [vR 10, vI r6, vI r7] h14 (fun h15 =>
                    RunsI G 64 [vR 1] h15 (fun r16 h16 =>
                    ((wI r16 = 0 →
                      P (-7) h16) ∧
                      (¬ wI r16 = 0 →
                      RunsV G 125 [vR 11] h16 (fun h17 =>
                      RunsI G 123 [vI (h17 26 6)] h17 (fun r18 h18 =>
                      P r18 h18))))))))))))))))))) ∧
              (¬ wI r8 = 0 →
              P (-5) h8)))))) ∧
            (¬ wI r5 = ((-9) : Int) →
            P (-4) h5))))))) ∧
        (¬ wI r3 = 0 →
        P (-1) h3)))))))))) :
  RunsI G 1 [vR 26, vI x1, vI x2, vR 32] h P := runs_of (by decide) 2 rfl (go1 ok1 900 H)
-- BitmapVolume$Acts.planRow(ILBitmapVolume$Name;)Z  [26, 32]
set_option maxRecDepth 100000 in
theorem q_A_planRow {G : GG} {P : Int → AH → Prop} {x1 : Int} {h : AH}
  (H : RunsV G 127 [vR 11, vI x1, vR 28] h (fun h1 =>
  ((wI x1 = 0 →
    Go G (pI P) 2 42 [some (vR 26), none, some (vR 32)] [vI 0, vR 27] h1) ∧
    (¬ wI x1 = 0 →
    RunsI G 122 [vI x1] h1 (fun r2 h2 =>
    RunsI G 85 [vR 10, vI r2] h2 (fun r3 h3 =>
    ((wI r3 = 0 →
      Go G (pI P) 2 42 [some (vR 26), none, some (vR 32)] [vI 0, vR 27] h3) ∧
      (¬ wI r3 = 0 →
      Go G (pI P) 2 42 [some (vR 26), none, some (vR 32)] [vI 1, vR 27] h3)))))))) :
  RunsI G 2 [vR 26, vI x1, vR 32] h P := runs_of (by decide) 0 rfl (go1 ok2 900 H)
set_option maxRecDepth 100000 in
theorem q_A_planRow_c42 {G : GG} {P : Int → AH → Prop} {s1 : Int} {h : AH}
  (H : RunsV G 68 [vR 27, vI s1] h (fun h1 =>
  RunsI G 79 [vI (h1 32 1)] h1 (fun r2 h2 =>
  RunsI G 3 [vR 26, vI r2] h2 (fun r3 h3 =>
  ((0 ≤ wI r3 →
    (((1 : Int) = 0 ∨ (1 : Int) = 1) ∧ P 1 h3)) ∧
    (¬ 0 ≤ wI r3 →
    RunsI G 69 [vR 27, vI 1] h3 (fun r4 h4 =>
    ((wI r4 = 0 →
      (((0 : Int) = 0 ∨ (0 : Int) = 1) ∧ P 0 h4)) ∧
      (¬ wI r4 = 0 →
      (((1 : Int) = 0 ∨ (1 : Int) = 1) ∧ P 1 h4)))))))))) :
  Go G (pI P) 2 42 [some (vR 26), none, some (vR 32)] [vI s1, vR 27] h := go1 ok2 900 H
-- BitmapVolume$Acts.freeRow(I)I  [26]
set_option maxRecDepth 100000 in
theorem q_A_freeRow {G : GG} {P : Int → AH → Prop} {x1 : Int} {h : AH}
  (H : Go G (pI P) 3 10 [some (vR 26), some (vI x1), some (vR 28), some (vI 0), none, none] [] h) :
  RunsI G 3 [vR 26, vI x1] h P := runs_of (by decide) 4 rfl (go1 ok3 900 H)
set_option maxRecDepth 100000 in
theorem q_A_freeRow_c10 {G : GG} {P : Int → AH → Prop} {x1 x3 : Int} {h : AH}
  (H : RunsI G 31 [vR 28] h (fun r1 h1 =>
  ((wI r1 < wI (x3 + x1) →
    P (-1) h1) ∧
    (¬ wI r1 < wI (x3 + x1) →
    Go G (pI P) 3 26 [some (vR 26), some (vI x1), some (vR 28), some (vI x3), some (vI 1), some (vI 0)] [] h1)))) :
  Go G (pI P) 3 10 [some (vR 26), some (vI x1), some (vR 28), some (vI x3), none, none] [] h := go1 ok3 900 H
set_option maxRecDepth 100000 in
theorem q_A_freeRow_c26 {G : GG} {P : Int → AH → Prop} {x1 x3 x4 x5 : Int} {h : AH}
  (H : ((wI x1 ≤ wI x5 →
    ((wI x4 = 0 →
      Go G (pI P) 3 10 [some (vR 26), some (vI x1), some (vR 28), some (vI (x3 + 2)), none, none] [] h) ∧
      (¬ wI x4 = 0 →
      P x3 h))) ∧
    (¬ wI x1 ≤ wI x5 →
    ((wI x4 = 0 →
      Go G (pI P) 3 26 [some (vR 26), some (vI x1), some (vR 28), some (vI x3), some (vI 0), some (vI (x5 + 1))] [] h) ∧
      (¬ wI x4 = 0 →
      RunsI G 32 [vR 28, vI (x3 + x5)] h (fun r1 h1 =>
      RunsI G 54 [vR 1, vI r1] h1 (fun r2 h2 =>
      (((128 : Int) ≤ wI r2 →
        Go G (pI P) 3 26 [some (vR 26), some (vI x1), some (vR 28), some (vI x3), some (vI 0), some (vI (x5 + 1))] [] h2) ∧
        (¬ (128 : Int) ≤ wI r2 →
        Go G (pI P) 3 26 [some (vR 26), some (vI x1), some (vR 28), some (vI x3), some (vI 1), some (vI (x5 + 1))] [] h2))))))))) :
  Go G (pI P) 3 26 [some (vR 26), some (vI x1), some (vR 28), some (vI x3), some (vI x4), some (vI x5)] [] h := go1 ok3 900 H
-- BitmapVolume$Acts.openRow(ILBitmapVolume$Name;)Z  [26, 32]
set_option maxRecDepth 100000 in
theorem q_A_openRow {G : GG} {P : Int → AH → Prop} {x1 : Int} {h : AH}
  (H : RunsI G 12 [vR 26] h (fun r1 h1 =>
  ((wI r1 = 0 →
    (((0 : Int) = 0 ∨ (0 : Int) = 1) ∧ P 0 h1)) ∧
    (¬ wI r1 = 0 →
    ((wI (h1 7 4) = 0 →
      Go G (pI P) 4 41 [some (vR 26), some (vI x1), some (vR 32), some (vI 0), none] [] h1) ∧
      (¬ wI (h1 7 4) = 0 →
      RunsI G 109 [vI (h1 7 4)] h1 (fun r2 h2 =>
      RunsV G 60 [vR 1, vI r2, vI 128] h2 (fun h3 =>
      Go G (pI P) 4 41 [some (vR 26), some (vI x1), some (vR 32), some (vI 0), none] [] h3)))))))) :
  RunsI G 4 [vR 26, vI x1, vR 32] h P := runs_of (by decide) 2 rfl (go1 ok4 900 H)
set_option maxRecDepth 100000 in
theorem q_A_openRow_c41 {G : GG} {P : Int → AH → Prop} {x1 x3 : Int} {h : AH}
  (H : ((wI (h 30 1) ≤ wI x3 →
    RunsI G 64 [vR 1] h (fun r1 h1 =>
    ((wI r1 = 0 →
      (((0 : Int) = 0 ∨ (0 : Int) = 1) ∧ P 0 h1)) ∧
      (¬ wI r1 = 0 →
      RunsI G 71 [vR 27] h1 (fun r2 h2 =>
      ((wI r2 = 0 →
        (((0 : Int) = 0 ∨ (0 : Int) = 1) ∧ P 0 h2)) ∧
        (¬ wI r2 = 0 →
        ((wI (h2 30 1) ≤ 0 →
          Go G (pI P) 4 131 [some (vR 26), some (vI x1), some (vR 32), some (vI 0), none] [] h2) ∧
          (¬ wI (h2 30 1) ≤ 0 →
          ((wI x1 = 0 →
            Go G (pI P) 4 131 [some (vR 26), some (vI x1), some (vR 32), some (vI 0), none] [] h2) ∧
            (¬ wI x1 = 0 →
            RunsV G 5 [vR 26, vI x1] h2 (fun h3 =>
            Go G (pI P) 4 131 [some (vR 26), some (vI x1), some (vR 32), some (vI 0), none] [] h3)))))))))))) ∧
    (¬ wI (h 30 1) ≤ wI x3 →
    RunsI G 26 [vR 30, vI x3] h (fun r4 h4 =>
    RunsI G 109 [vI r4] h4 (fun r5 h5 =>
    RunsV G 60 [vR 1, vI r5, vI 128] h5 (fun h6 =>
    Go G (pI P) 4 41 [some (vR 26), some (vI x1), some (vR 32), some (vI (x3 + 1)), none] [] h6)))))) :
  Go G (pI P) 4 41 [some (vR 26), some (vI x1), some (vR 32), some (vI x3), none] [] h := go1 ok4 900 H
set_option maxRecDepth 100000 in
theorem q_A_openRow_c131 {G : GG} {P : Int → AH → Prop} {x1 x3 : Int} {h : AH}
  (H : ((wI (h 30 1) ≤ wI x3 →
    RunsI G 79 [vI (h 32 1)] h (fun r1 h1 =>
    RunsI G 3 [vR 26, vI r1] h1 (fun r2 h2 =>
    ((wI x1 = 0 →
      Go G (pI P) 4 195 [some (vR 26), none, none, some (vI r2), some (vI 2)] [] h2) ∧
      (¬ wI x1 = 0 →
      Go G (pI P) 4 195 [some (vR 26), none, none, some (vI r2), some (vI 0)] [] h2))))) ∧
    (¬ wI (h 30 1) ≤ wI x3 →
    RunsI G 26 [vR 30, vI x3] h (fun r3 h3 =>
    RunsV G 25 [vR 28, vI r3] h3 (fun h4 =>
    Go G (pI P) 4 131 [some (vR 26), some (vI x1), some (vR 32), some (vI (x3 + 1)), none] [] h4))))) :
  Go G (pI P) 4 131 [some (vR 26), some (vI x1), some (vR 32), some (vI x3), none] [] h := go1 ok4 900 H
set_option maxRecDepth 100000 in
theorem q_A_openRow_c195 {G : GG} {P : Int → AH → Prop} {x3 x4 : Int} {h : AH}
  (H : ((wI x3 ≤ wI x4 →
    RunsI G 32 [vR 28, vI x3] h (fun r1 h1 =>
    RunsI G 32 [vR 28, vI (x3 + 2)] (hs h1 26 6 r1) (fun r2 h2 =>
    (((1 : Int) = 0 ∨ (1 : Int) = 1) ∧ P 1 (hs h2 26 7 r2))))) ∧
    (¬ wI x3 ≤ wI x4 →
    RunsI G 32 [vR 28, vI x4] h (fun r3 h3 =>
    RunsI G 54 [vR 1, vI r3] h3 (fun r4 h4 =>
    ((wI r4 = 0 →
      RunsI G 32 [vR 28, vI x4] h4 (fun r5 h5 =>
      RunsV G 57 [vR 1, vI r5, vI 1] h5 (fun h6 =>
      Go G (pI P) 4 195 [some (vR 26), none, none, some (vI x3), some (vI (x4 + 1))] [] h6))) ∧
      (¬ wI r4 = 0 →
      Go G (pI P) 4 195 [some (vR 26), none, none, some (vI x3), some (vI (x4 + 1))] [] h4))))))) :
  Go G (pI P) 4 195 [some (vR 26), none, none, some (vI x3), some (vI x4)] [] h := go1 ok4 900 H
-- BitmapVolume$Acts.growDirectory(I)V  [26]
set_option maxRecDepth 100000 in
theorem q_A_growDirectory {G : GG} {P : AH → Prop} {x1 : Int} {h : AH}
  (H : RunsI G 122 [vI x1] h (fun r1 h1 =>
  RunsI G 70 [vR 27, vI 0] h1 (fun r2 h2 =>
  RunsI G 88 [vR 10, vI r1] h2 (fun r3 h3 =>
  RunsV G 104 [vR 10, vI r1, vI (h1 27 5), vI r2, vI (r3 + (128 * (h3 30 1)))] h3 (fun h4 =>
  RunsV G 103 [vR 10, vI r1, vI (h4 26 5)] h4 (fun h5 =>
  RunsI G 124 [vR 11, vI x1] h5 (fun r6 h6 =>
  RunsV G 106 [vR 10, vI r1, vI r6] h6 (fun h7 =>
  P h7)))))))) :
  RunsV G 5 [vR 26, vI x1] h P := runs_of (by decide) 1 rfl (go1 ok5 900 H)
-- BitmapVolume$Acts.fill(IIII)I  [26]
set_option maxRecDepth 100000 in
theorem q_A_fill {G : GG} {P : Int → AH → Prop} {x1 x2 x3 x4 : Int} {h : AH}
  (H : RunsI G 131 [vR 11, vI x1] h (fun r1 h1 =>
  ((wI r1 = 0 →
    P (-1) h1) ∧
    (¬ wI r1 = 0 →
    ((wI x3 < (1 : Int) →
      P (-1) h1) ∧
      (¬ wI x3 < (1 : Int) →
      ((wI x3 ≤ (1024 : Int) →
        RunsI G 122 [vI x1] h1 (fun r2 h2 =>
        RunsI G 88 [vR 10, vI r2] h2 (fun r3 h3 =>
        ((wI x2 < 0 →
          P (-1) h3) ∧
          (¬ wI x2 < 0 →
          ((wI x2 ≤ wI r3 →
            RunsI G 84 [vR 10, vI r2] h3 (fun r4 h4 =>
            ((wI r4 = 0 →
              RunsV G 10 [vR 26, vI x1] h4 (fun h5 =>
              ((128 : Int) ≠ 0 ∧ ((wI ((Int.tdiv (wI (((mm 0 r3 (x2 + x3)) + 128) - 1)) 128) - ((hs h5 7 4 0) 28 1)) ≤ 0 →
                RunsI G 12 [vR 26] (hs h5 7 4 0) (fun r6 h6 =>
                ((wI r6 = 0 →
                  P (-7) h6) ∧
                  (¬ wI r6 = 0 →
                  Go G (pI P) 6 150 [some (vR 26), some (vI x1), some (vI x2), some (vI x3), some (vI x4), none, some (vI (mm 0 r3 (x2 + x3))), none, some (vI 0)] [] h6)))) ∧
                (¬ wI ((Int.tdiv (wI (((mm 0 r3 (x2 + x3)) + 128) - 1)) 128) - ((hs h5 7 4 0) 28 1)) ≤ 0 →
                RunsI G 69 [vR 27, vI ((Int.tdiv (wI (((mm 0 r3 (x2 + x3)) + 128) - 1)) 128) - ((hs h5 7 4 0) 28 1))] (hs h5 7 4 0) (fun r7 h7 =>
                ((wI r7 = 0 →
                  P (-6) h7) ∧
                  (¬ wI r7 = 0 →
                  RunsI G 12 [vR 26] h7 (fun r8 h8 =>
                  ((wI r8 = 0 →
                    P (-7) h8) ∧
                    (¬ wI r8 = 0 →
                    Go G (pI P) 6 150 [some (vR 26), some (vI x1), some (vI x2), some (vI x3), some (vI x4), none, some (vI (mm 0 r3 (x2 + x3))), none, some (vI 0)] [] h8))))))))))) ∧
              (¬ wI r4 = 0 →
              P (-5) h4)))) ∧
            (¬ wI x2 ≤ wI r3 →
            P (-1) h3))))))) ∧
        (¬ wI x3 ≤ (1024 : Int) →
        P (-1) h1)))))))) :
  RunsI G 6 [vR 26, vI x1, vI x2, vI x3, vI x4] h P := runs_of (by decide) 4 rfl (go1 ok6 900 H)
set_option maxRecDepth 100000 in
theorem q_A_fill_c150 {G : GG} {P : Int → AH → Prop} {x1 x2 x3 x4 x6 x8 : Int} {h : AH}
  (H : ((wI x3 ≤ wI x8 →
    RunsI G 64 [vR 1] h (fun r1 h1 =>
    ((wI r1 = 0 →
      P (-7) h1) ∧
      (¬ wI r1 = 0 →
      RunsI G 71 [vR 27] h1 (fun r2 h2 =>
      ((wI r2 = 0 →
        P (-7) h2) ∧
        (¬ wI r2 = 0 →
        RunsI G 70 [vR 27, vI 0] h2 (fun r3 h3 =>
        RunsI G 11 [vR 26, vI x1, vI (h2 27 5), vI r3, vI x6] h3 (fun r4 h4 =>
        ((wI r4 = 0 →
          P (-7) h4) ∧
          (¬ wI r4 = 0 →
          P x6 h4))))))))))) ∧
    (¬ wI x3 ≤ wI x8 →
    ((128 : Int) ≠ 0 ∧ RunsI G 70 [vR 27, vI (Int.tdiv (wI (x2 + x8)) 128)] h (fun r5 h5 =>
    RunsI G 109 [vI r5] h5 (fun r6 h6 =>
    ((128 : Int) ≠ 0 ∧ RunsV G 57 [vR 1, vI (r6 + (Int.tmod (wI (x2 + x8)) 128)), vI (x4 + x8)] h6 (fun h7 =>
    Go G (pI P) 6 150 [some (vR 26), some (vI x1), some (vI x2), some (vI x3), some (vI x4), none, some (vI x6), none, some (vI (x8 + 1))] [] h7)))))))) :
  Go G (pI P) 6 150 [some (vR 26), some (vI x1), some (vI x2), some (vI x3), some (vI x4), none, some (vI x6), none, some (vI x8)] [] h := go1 ok6 900 H
-- BitmapVolume$Acts.shorten(II)I  [26]
set_option maxRecDepth 100000 in
theorem q_A_shorten {G : GG} {P : Int → AH → Prop} {x1 x2 : Int} {h : AH}
  (H : RunsI G 131 [vR 11, vI x1] h (fun r1 h1 =>
  ((wI r1 = 0 →
    P (-1) h1) ∧
    (¬ wI r1 = 0 →
    RunsI G 122 [vI x1] h1 (fun r2 h2 =>
    ((wI x2 < 0 →
      P (-1) h2) ∧
      (¬ wI x2 < 0 →
      RunsI G 88 [vR 10, vI r2] h2 (fun r3 h3 =>
      ((wI x2 ≤ wI r3 →
        RunsI G 84 [vR 10, vI r2] h3 (fun r4 h4 =>
        ((wI r4 = 0 →
          RunsV G 10 [vR 26, vI x1] h4 (fun h5 =>
          ((128 : Int) ≠ 0 ∧ RunsI G 12 [vR 26] h5 (fun r6 h6 =>
          ((wI r6 = 0 →
            P (-7) h6) ∧
            (¬ wI r6 = 0 →
            ((wI (Int.tdiv (wI ((x2 + 128) - 1)) 128) ≤ 0 →
              Go G (pI P) 7 115 [some (vR 26), none, some (vI x2), none, some (vI (Int.tdiv (wI ((x2 + 128) - 1)) 128)), some (vI ((h5 28 1) - (Int.tdiv (wI ((x2 + 128) - 1)) 128)))] [vI 0, vI x1, vR 26] h6) ∧
              (¬ wI (Int.tdiv (wI ((x2 + 128) - 1)) 128) ≤ 0 →
              ((wI (h6 27 4) = 0 →
                Go G (pI P) 7 115 [some (vR 26), none, some (vI x2), none, some (vI (Int.tdiv (wI ((x2 + 128) - 1)) 128)), some (vI ((h5 28 1) - (Int.tdiv (wI ((x2 + 128) - 1)) 128)))] [vI 0, vI x1, vR 26] h6) ∧
                (¬ wI (h6 27 4) = 0 →
                Go G (pI P) 7 115 [some (vR 26), none, some (vI x2), none, some (vI (Int.tdiv (wI ((x2 + 128) - 1)) 128)), some (vI ((h5 28 1) - (Int.tdiv (wI ((x2 + 128) - 1)) 128)))] [vI 1, vI x1, vR 26] h6)))))))))) ∧
          (¬ wI r4 = 0 →
          P (-5) h4)))) ∧
        (¬ wI x2 ≤ wI r3 →
        P (-1) h3)))))))))) :
  RunsI G 7 [vR 26, vI x1, vI x2] h P := runs_of (by decide) 3 rfl (go1 ok7 900 H)
set_option maxRecDepth 100000 in
theorem q_A_shorten_c115 {G : GG} {P : Int → AH → Prop} {x2 x4 x5 s1 s2 : Int} {h : AH}
  (H : ((wI x4 ≤ 0 →
    Go G (pI P) 7 135 [some (vR 26), none, some (vI x2), none, some (vI x4), some (vI x5)] [vI 0, vI s2, vI s1, vR 26] h) ∧
    (¬ wI x4 ≤ 0 →
    RunsI G 26 [vR 28, vI 0] h (fun r1 h1 =>
    Go G (pI P) 7 135 [some (vR 26), none, some (vI x2), none, some (vI x4), some (vI x5)] [vI r1, vI s2, vI s1, vR 26] h1)))) :
  Go G (pI P) 7 115 [some (vR 26), none, some (vI x2), none, some (vI x4), some (vI x5)] [vI s2, vI s1, vR 26] h := go1 ok7 900 H
set_option maxRecDepth 100000 in
theorem q_A_shorten_c135 {G : GG} {P : Int → AH → Prop} {x2 x4 x5 s1 s2 s3 : Int} {h : AH}
  (H : RunsI G 11 [vR 26, vI s1, vI s2, vI s3, vI x2] h (fun r1 h1 =>
  ((wI r1 = 0 →
    P (-7) h1) ∧
    (¬ wI r1 = 0 →
    RunsI G 73 [vR 27, vI x4] h1 (fun r2 h2 =>
    ((wI r2 = 0 →
      P (-7) h2) ∧
      (¬ wI r2 = 0 →
      P x5 h2))))))) :
  Go G (pI P) 7 135 [some (vR 26), none, some (vI x2), none, some (vI x4), some (vI x5)] [vI s3, vI s2, vI s1, vR 26] h := go1 ok7 900 H
-- BitmapVolume$Acts.remove(I)I  [26]
set_option maxRecDepth 100000 in
theorem q_A_remove {G : GG} {P : Int → AH → Prop} {x1 : Int} {h : AH}
  (H : RunsI G 128 [vR 11, vI x1] h (fun r1 h1 =>
  ((wI r1 = 0 →
    P (-1) h1) ∧
    (¬ wI r1 = 0 →
    RunsI G 122 [vI x1] h1 (fun r2 h2 =>
    RunsI G 83 [vR 10, vI r2] h2 (fun r3 h3 =>
    ((wI r3 = 0 →
      Go G (pI P) 8 45 [some (vR 26), some (vI x1), some (vI r2)] [] h3) ∧
      (¬ wI r3 = 0 →
      RunsI G 135 [vR 11, vI x1, vI 0] h3 (fun r4 h4 =>
      ((wI r4 = ((-9) : Int) →
        Go G (pI P) 8 45 [some (vR 26), some (vI x1), some (vI r2)] [] h4) ∧
        (¬ wI r4 = ((-9) : Int) →
        P (-1) h4))))))))))) :
  RunsI G 8 [vR 26, vI x1] h P := runs_of (by decide) 1 rfl (go1 ok8 900 H)
set_option maxRecDepth 100000 in
theorem q_A_remove_c45 {G : GG} {P : Int → AH → Prop} {x1 x2 : Int} {h : AH}
  (H : RunsI G 84 [vR 10, vI x2] h (fun r1 h1 =>
  ((wI r1 = 0 →
    RunsV G 10 [vR 26, vI x1] h1 (fun h2 =>
    RunsI G 12 [vR 26] h2 (fun r3 h3 =>
    ((wI r3 = 0 →
      P (-7) h3) ∧
      (¬ wI r3 = 0 →
      RunsI G 124 [vR 11, vI x1] h3 (fun r4 h4 =>
      RunsV G 107 [vR 10, vI x2, vI r4] h4 (fun h5 =>
      RunsI G 64 [vR 1] h5 (fun r6 h6 =>
      ((wI r6 = 0 →
        P (-7) h6) ∧
        (¬ wI r6 = 0 →
        RunsI G 73 [vR 27, vI 0] h6 (fun r7 h7 =>
        ((wI r7 = 0 →
          P (-7) h7) ∧
          (¬ wI r7 = 0 →
          RunsV G 125 [vR 11] h7 (fun h8 =>
          P (h8 28 1) h8)))))))))))))) ∧
    (¬ wI r1 = 0 →
    P (-5) h1)))) :
  Go G (pI P) 8 45 [some (vR 26), some (vI x1), some (vI x2)] [] h := go1 ok8 900 H
-- BitmapVolume$Acts.protect(IZ)I  [26]
set_option maxRecDepth 100000 in
theorem q_A_protect {G : GG} {P : Int → AH → Prop} {x1 x2 : Int} {h : AH}
  (H : RunsI G 128 [vR 11, vI x1] h (fun r1 h1 =>
  ((wI r1 = 0 →
    P (-1) h1) ∧
    (¬ wI r1 = 0 →
    RunsI G 122 [vI x1] h1 (fun r2 h2 =>
    RunsI G 82 [vR 10, vI r2] h2 (fun r3 h3 =>
    RunsI G 12 [vR 26] h3 (fun r4 h4 =>
    ((wI r4 = 0 →
      P (-7) h4) ∧
      (¬ wI r4 = 0 →
      ((wI x2 = 0 →
        Go G (pI P) 9 59 [some (vR 26), some (vI x1), none, some (vI r2), some (vI r3)] [vI (bA r3 (-2)), vI r2, vR 10] h4) ∧
        (¬ wI x2 = 0 →
        Go G (pI P) 9 59 [some (vR 26), some (vI x1), none, some (vI r2), some (vI r3)] [vI (bO r3 1), vI r2, vR 10] h4))))))))))) :
  RunsI G 9 [vR 26, vI x1, vI x2] h P := runs_of (by decide) 2 rfl (go1 ok9 900 H)
set_option maxRecDepth 100000 in
theorem q_A_protect_c59 {G : GG} {P : Int → AH → Prop} {x1 x3 x4 s1 s2 : Int} {h : AH}
  (H : RunsV G 101 [vR 10, vI s1, vI s2] h (fun h1 =>
  RunsI G 124 [vR 11, vI x1] h1 (fun r2 h2 =>
  RunsV G 106 [vR 10, vI x3, vI r2] h2 (fun h3 =>
  RunsI G 64 [vR 1] h3 (fun r4 h4 =>
  ((wI r4 = 0 →
    P (-7) h4) ∧
    (¬ wI r4 = 0 →
    P (bA x4 1) h4))))))) :
  Go G (pI P) 9 59 [some (vR 26), some (vI x1), none, some (vI x3), some (vI x4)] [vI s2, vI s1, vR 10] h := go1 ok9 900 H
-- BitmapVolume$Acts.openFile(I)V  [26]
set_option maxRecDepth 100000 in
theorem q_A_openFile {G : GG} {P : AH → Prop} {x1 : Int} {h : AH}
  (H : RunsV G 127 [vR 11, vI x1, vR 28] h (fun h1 =>
  RunsI G 122 [vI x1] h1 (fun r2 h2 =>
  RunsI G 85 [vR 10, vI r2] h2 (fun r3 h3 =>
  RunsV G 68 [vR 27, vI r3] h3 (fun h4 =>
  P h4))))) :
  RunsV G 10 [vR 26, vI x1] h P := runs_of (by decide) 0 rfl (go1 ok10 900 H)
-- BitmapVolume$Acts.relay(IZII)Z  [26]
set_option maxRecDepth 100000 in
theorem q_A_relay {G : GG} {P : Int → AH → Prop} {x1 x2 x3 x4 : Int} {h : AH}
  (H : RunsI G 122 [vI x1] h (fun r1 h1 =>
  RunsV G 104 [vR 10, vI r1, vI x2, vI x3, vI x4] h1 (fun h2 =>
  RunsV G 103 [vR 10, vI r1, vI (h2 26 5)] h2 (fun h3 =>
  RunsI G 124 [vR 11, vI x1] h3 (fun r4 h4 =>
  RunsV G 106 [vR 10, vI r1, vI r4] h4 (fun h5 =>
  RunsI G 64 [vR 1] h5 (fun r6 h6 =>
  ((r6 = 0 ∨ r6 = 1) ∧ P r6 h6)))))))) :
  RunsI G 11 [vR 26, vI x1, vI x2, vI x3, vI x4] h P := runs_of (by decide) 1 rfl (go1 ok11 900 H)
-- BitmapVolume$Acts.soil()Z  [26]
set_option maxRecDepth 100000 in
theorem q_A_soil {G : GG} {P : Int → AH → Prop} {h : AH}
  (H : RunsI G 54 [vR 1, vI 44] h (fun r1 h1 =>
  RunsV G 57 [vR 1, vI 44, vI (bO r1 2)] h1 (fun h2 =>
  RunsI G 64 [vR 1] h2 (fun r3 h3 =>
  ((r3 = 0 ∨ r3 = 1) ∧ P r3 h3))))) :
  RunsI G 12 [vR 26] h P := runs_of (by decide) 0 rfl (go1 ok12 900 H)
-- BitmapVolume$Check.found(III)I  [17]
set_option maxRecDepth 100000 in
theorem q_H_found {G : GG} {P : Int → AH → Prop} {x1 x2 x3 : Int} {h : AH}
  (H : P x1 (hs (hs (hs h 17 15 x1) 17 16 x2) 17 17 x3)) :
  RunsI G 33 [vR 17, vI x1, vI x2, vI x3] h P := runs_of (by decide) 0 rfl (go1 ok33 900 H)
-- BitmapVolume$Check.askBase()I  [17]
set_option maxRecDepth 100000 in
theorem q_H_askBase {G : GG} {P : Int → AH → Prop} {h : AH}
  (H : RunsI G 17 [vR 5, vI 0] h (fun r1 h1 =>
  ((wI r1 = 0 →
    RunsI G 17 [vR 5, vI 256] h1 (fun r2 h2 =>
    ((wI r2 = 0 →
      RunsI G 33 [vR 17, vI 1, vI 0, vI 0] h2 (fun r3 h3 =>
      P r3 h3)) ∧
      (¬ wI r2 = 0 →
      Go G (pI P) 34 34 [some (vR 17), some (vI r1), none, none] [] h2)))) ∧
    (¬ wI r1 = 0 →
    Go G (pI P) 34 34 [some (vR 17), some (vI r1), none, none] [] h1)))) :
  RunsI G 34 [vR 17] h P := runs_of (by decide) 3 rfl (go1 ok34 900 H)
set_option maxRecDepth 100000 in
theorem q_H_askBase_c34 {G : GG} {P : Int → AH → Prop} {x1 : Int} {h : AH}
  (H : ((wI x1 = 0 →
    (((1 : Int) = 0 ∨ (1 : Int) = 1) ∧ ((wI x1 = 0 →
      Go G (pI P) 34 58 [some (vR 17), none, none, none] [vI 256] (hs h 17 14 1)) ∧
      (¬ wI x1 = 0 →
      Go G (pI P) 34 58 [some (vR 17), none, none, none] [vI 0] (hs h 17 14 1))))) ∧
    (¬ wI x1 = 0 →
    (((0 : Int) = 0 ∨ (0 : Int) = 1) ∧ ((wI x1 = 0 →
      Go G (pI P) 34 58 [some (vR 17), none, none, none] [vI 256] (hs h 17 14 0)) ∧
      (¬ wI x1 = 0 →
      Go G (pI P) 34 58 [some (vR 17), none, none, none] [vI 0] (hs h 17 14 0))))))) :
  Go G (pI P) 34 34 [some (vR 17), some (vI x1), none, none] [] h := go1 ok34 900 H
set_option maxRecDepth 100000 in
theorem q_H_askBase_c58 {G : GG} {P : Int → AH → Prop} {s0 : Int} {h : AH}
  (H : RunsI G 56 [vR 1, vI (s0 + 32)] h (fun r1 h1 =>
  RunsI G 56 [vR 1, vI (s0 + 36)] (hs h1 7 1 r1) (fun r2 h2 =>
  RunsI G 111 [vR 7, vI 0] (hs h2 7 2 r2) (fun r3 h3 =>
  ((wI r3 = ((-8) : Int) →
    RunsI G 111 [vR 7, vI 1] h3 (fun r4 h4 =>
    ((wI r4 = ((-1) : Int) →
      RunsI G 35 [vR 17] h4 (fun r5 h5 =>
      ((wI r5 = 0 →
        RunsI G 109 [vI (h5 7 2)] h5 (fun r6 h6 =>
        RunsI G 39 [vR 17, vI r6] h6 (fun r7 h7 =>
        ((wI r7 = 0 →
          RunsI G 33 [vR 17, vI 4, vI (h7 7 2), vI 0] h7 (fun r11 h11 =>
          P r11 h11)) ∧
          (¬ wI r7 = 0 →
          RunsI G 109 [vI (h7 7 2)] h7 (fun r8 h8 =>
          RunsI G 40 [vR 17, vI (r8 + 32)] h8 (fun r9 h9 =>
          ((wI r9 = 0 →
            RunsI G 33 [vR 17, vI 4, vI (h9 7 2), vI 1] h9 (fun r10 h10 =>
            P r10 h10)) ∧
            (¬ wI r9 = 0 →
            P 0 h9))))))))) ∧
        (¬ wI r5 = 0 →
        RunsI G 33 [vR 17, vI 3, vI r5, vI 0] h5 (fun r12 h12 =>
        P r12 h12))))) ∧
      (¬ wI r4 = ((-1) : Int) →
      RunsI G 33 [vR 17, vI 2, vI 1, vI 0] h4 (fun r13 h13 =>
      P r13 h13))))) ∧
    (¬ wI r3 = ((-8) : Int) →
    RunsI G 33 [vR 17, vI 2, vI 0, vI 0] h3 (fun r14 h14 =>
    P r14 h14))))))) :
  Go G (pI P) 34 58 [some (vR 17), none, none, none] [vI s0] h := go1 ok34 900 H
-- BitmapVolume$Check.meetRoot()I  [17]
set_option maxRecDepth 100000 in
theorem q_H_meetRoot {G : GG} {P : Int → AH → Prop} {h : AH}
  (H : Go G (pI P) 35 2 [some (vR 17), some (vI 0), none, none] [] h) :
  RunsI G 35 [vR 17] h P := runs_of (by decide) 3 rfl (go1 ok35 900 H)
set_option maxRecDepth 100000 in
theorem q_H_meetRoot_c2 {G : GG} {P : Int → AH → Prop} {x1 : Int} {h : AH}
  (H : (((102 : Int) ≤ wI x1 →
    Go G (pI P) 35 34 [some (vR 17), some (vI (h 7 2)), some (vI 0), none] [] h) ∧
    (¬ (102 : Int) ≤ wI x1 →
    ((0 ≤ wI x1 ∧ wI x1 < 102) ∧
    (((0 : Int) = 0 ∨ (0 : Int) = 1) ∧ Go G (pI P) 35 2 [some (vR 17), some (vI (x1 + 1)), none, none] [] (hs h 24 (wI x1).toNat 0)))))) :
  Go G (pI P) 35 2 [some (vR 17), some (vI x1), none, none] [] h := go1 ok35 900 H
set_option maxRecDepth 100000 in
theorem q_H_meetRoot_c34 {G : GG} {P : Int → AH → Prop} {x1 x2 : Int} {h : AH}
  (H : (((102 : Int) ≤ wI x2 →
    P x1 h) ∧
    (¬ (102 : Int) ≤ wI x2 →
    RunsV G 36 [vR 17, vI x1] h (fun h1 =>
    RunsI G 111 [vR 7, vI x1] h1 (fun r2 h2 =>
    ((wI r2 = ((-1) : Int) →
      P 0 h2) ∧
      (¬ wI r2 = ((-1) : Int) →
      RunsI G 110 [vR 7, vI r2] h2 (fun r3 h3 =>
      ((wI r3 = 0 →
        P x1 h3) ∧
        (¬ wI r3 = 0 →
        RunsI G 37 [vR 17, vI r2] h3 (fun r4 h4 =>
        ((wI r4 = 0 →
          Go G (pI P) 35 34 [some (vR 17), some (vI r2), some (vI (x2 + 1)), none] [] h4) ∧
          (¬ wI r4 = 0 →
          P x1 h4))))))))))))) :
  Go G (pI P) 35 34 [some (vR 17), some (vI x1), some (vI x2), none] [] h := go1 ok35 900 H
-- BitmapVolume$Check.meet(I)V  [17]
set_option maxRecDepth 100000 in
theorem q_H_meet {G : GG} {P : AH → Prop} {x1 : Int} {h : AH}
  (H : ((wI x1 < 0 →
    P h) ∧
    (¬ wI x1 < 0 →
    (((102 : Int) ≤ wI x1 →
      P h) ∧
      (¬ (102 : Int) ≤ wI x1 →
      ((0 ≤ wI x1 ∧ wI x1 < 102) ∧
      (((1 : Int) = 0 ∨ (1 : Int) = 1) ∧ P (hs h 24 (wI x1).toNat 1)))))))) :
  RunsV G 36 [vR 17, vI x1] h P := runs_of (by decide) 0 rfl (go1 ok36 900 H)
-- BitmapVolume$Check.isMet(I)Z  [17]
set_option maxRecDepth 100000 in
theorem q_H_isMet {G : GG} {P : Int → AH → Prop} {x1 : Int} {h : AH}
  (H : ((wI x1 < 0 →
    (((0 : Int) = 0 ∨ (0 : Int) = 1) ∧ P 0 h)) ∧
    (¬ wI x1 < 0 →
    (((102 : Int) ≤ wI x1 →
      (((0 : Int) = 0 ∨ (0 : Int) = 1) ∧ P 0 h)) ∧
      (¬ (102 : Int) ≤ wI x1 →
      ((0 ≤ wI x1 ∧ wI x1 < 102) ∧
      ((wI (h 24 (wI x1).toNat) = 0 →
        (((0 : Int) = 0 ∨ (0 : Int) = 1) ∧ P 0 h)) ∧
        (¬ wI (h 24 (wI x1).toNat) = 0 →
        (((1 : Int) = 0 ∨ (1 : Int) = 1) ∧ P 1 h))))))))) :
  RunsI G 37 [vR 17, vI x1] h P := runs_of (by decide) 0 rfl (go1 ok37 900 H)
-- BitmapVolume$Check.meetSingle(I)Z  [17]
set_option maxRecDepth 100000 in
theorem q_H_meetSingle {G : GG} {P : Int → AH → Prop} {x1 : Int} {h : AH}
  (H : RunsI G 110 [vR 7, vI x1] h (fun r1 h1 =>
  ((wI r1 = 0 →
    (((0 : Int) = 0 ∨ (0 : Int) = 1) ∧ P 0 h1)) ∧
    (¬ wI r1 = 0 →
    RunsI G 37 [vR 17, vI x1] h1 (fun r2 h2 =>
    ((wI r2 = 0 →
      RunsI G 111 [vR 7, vI x1] h2 (fun r3 h3 =>
      ((wI r3 = ((-1) : Int) →
        RunsV G 36 [vR 17, vI x1] h3 (fun h4 =>
        (((1 : Int) = 0 ∨ (1 : Int) = 1) ∧ P 1 h4))) ∧
        (¬ wI r3 = ((-1) : Int) →
        (((0 : Int) = 0 ∨ (0 : Int) = 1) ∧ P 0 h3))))) ∧
      (¬ wI r2 = 0 →
      (((0 : Int) = 0 ∨ (0 : Int) = 1) ∧ P 0 h2)))))))) :
  RunsI G 38 [vR 17, vI x1] h P := runs_of (by decide) 0 rfl (go1 ok38 900 H)
-- BitmapVolume$Check.meetBitmap(I)Z  [17]
set_option maxRecDepth 100000 in
theorem q_H_meetBitmap {G : GG} {P : Int → AH → Prop} {x1 : Int} {h : AH}
  (H : RunsI G 54 [vR 1, vI x1] h (fun r1 h1 =>
  ((wI r1 = (129 : Int) →
    RunsI G 61 [vR 1, vI (x1 + 1), vI (x1 + 20)] h1 (fun r2 h2 =>
    ((wI r2 = 0 →
      (((0 : Int) = 0 ∨ (0 : Int) = 1) ∧ P 0 h2)) ∧
      (¬ wI r2 = 0 →
      RunsI G 56 [vR 1, vI (x1 + 24)] h2 (fun r3 h3 =>
      ((8 : Int) ≠ 0 ∧ ((wI r3 = wI (Int.tdiv (wI ((h3 7 1) + 7)) 8) →
        RunsI G 61 [vR 1, vI (x1 + 28), vI (x1 + 32)] h3 (fun r4 h4 =>
        ((wI r4 = 0 →
          (((0 : Int) = 0 ∨ (0 : Int) = 1) ∧ P 0 h4)) ∧
          (¬ wI r4 = 0 →
          RunsI G 56 [vR 1, vI (x1 + 20)] h4 (fun r5 h5 =>
          RunsI G 38 [vR 17, vI ((hs h5 7 3 r5) 7 3)] (hs h5 7 3 r5) (fun r6 h6 =>
          ((r6 = 0 ∨ r6 = 1) ∧ P r6 h6))))))) ∧
        (¬ wI r3 = wI (Int.tdiv (wI ((h3 7 1) + 7)) 8) →
        (((0 : Int) = 0 ∨ (0 : Int) = 1) ∧ P 0 h3))))))))) ∧
    (¬ wI r1 = (129 : Int) →
    (((0 : Int) = 0 ∨ (0 : Int) = 1) ∧ P 0 h1))))) :
  RunsI G 39 [vR 17, vI x1] h P := runs_of (by decide) 0 rfl (go1 ok39 900 H)
-- BitmapVolume$Check.meetCases(I)Z  [17]
set_option maxRecDepth 100000 in
theorem q_H_meetCases {G : GG} {P : Int → AH → Prop} {x1 : Int} {h : AH}
  (H : RunsI G 54 [vR 1, vI x1] h (fun r1 h1 =>
  ((wI r1 = (130 : Int) →
    RunsI G 61 [vR 1, vI (x1 + 1), vI (x1 + 4)] h1 (fun r2 h2 =>
    ((wI r2 = 0 →
      (((0 : Int) = 0 ∨ (0 : Int) = 1) ∧ P 0 h2)) ∧
      (¬ wI r2 = 0 →
      RunsI G 61 [vR 1, vI (x1 + 8), vI (x1 + 20)] h2 (fun r3 h3 =>
      ((wI r3 = 0 →
        (((0 : Int) = 0 ∨ (0 : Int) = 1) ∧ P 0 h3)) ∧
        (¬ wI r3 = 0 →
        RunsI G 56 [vR 1, vI (x1 + 24)] h3 (fun r4 h4 =>
        ((wI r4 < (2 : Int) →
          (((0 : Int) = 0 ∨ (0 : Int) = 1) ∧ P 0 h4)) ∧
          (¬ wI r4 < (2 : Int) →
          (((128 : Int) < wI r4 →
            (((0 : Int) = 0 ∨ (0 : Int) = 1) ∧ P 0 h4)) ∧
            (¬ (128 : Int) < wI r4 →
            ((2 : Int) ≠ 0 ∧ ((wI (Int.tmod (wI r4) 2) = 0 →
              RunsI G 61 [vR 1, vI (x1 + 28), vI (x1 + 32)] h4 (fun r5 h5 =>
              ((wI r5 = 0 →
                (((0 : Int) = 0 ∨ (0 : Int) = 1) ∧ P 0 h5)) ∧
                (¬ wI r5 = 0 →
                RunsI G 56 [vR 1, vI (x1 + 20)] h5 (fun r6 h6 =>
                RunsI G 38 [vR 17, vI r6] h6 (fun r7 h7 =>
                ((wI r7 = 0 →
                  (((0 : Int) = 0 ∨ (0 : Int) = 1) ∧ P 0 h7)) ∧
                  (¬ wI r7 = 0 →
                  RunsI G 109 [vI r6] h7 (fun r8 h8 =>
                  RunsI G 21 [vR 1, vI r8, vI r4] h8 (fun r9 h9 =>
                  RunsI G 56 [vR 1, vI (x1 + 4)] h9 (fun r10 h10 =>
                  ((wI r9 = wI r10 →
                    RunsI G 109 [vI r6] h10 (fun r11 h11 =>
                    RunsI G 18 [vR 8, vI r11, vI r4] h11 (fun r12 h12 =>
                    ((r12 = 0 ∨ r12 = 1) ∧ P r12 h12)))) ∧
                    (¬ wI r9 = wI r10 →
                    (((0 : Int) = 0 ∨ (0 : Int) = 1) ∧ P 0 h10)))))))))))))) ∧
              (¬ wI (Int.tmod (wI r4) 2) = 0 →
              (((0 : Int) = 0 ∨ (0 : Int) = 1) ∧ P 0 h4)))))))))))))))) ∧
    (¬ wI r1 = (130 : Int) →
    (((0 : Int) = 0 ∨ (0 : Int) = 1) ∧ P 0 h1))))) :
  RunsI G 40 [vR 17, vI x1] h P := runs_of (by decide) 2 rfl (go1 ok40 900 H)
-- BitmapVolume$Check.askBitmap()I  [17]
set_option maxRecDepth 100000 in
theorem q_H_askBitmap {G : GG} {P : Int → AH → Prop} {h : AH}
  (H : RunsI G 51 [vR 17] h (fun r1 h1 =>
  ((wI r1 = 0 →
    RunsI G 33 [vR 17, vI 9, vI 0, vI 0] h1 (fun r2 h2 =>
    P r2 h2)) ∧
    (¬ wI r1 = 0 →
    P 0 h1)))) :
  RunsI G 41 [vR 17] h P := runs_of (by decide) 0 rfl (go1 ok41 900 H)
-- BitmapVolume$Check.mendBoot()Z  [17]
set_option maxRecDepth 100000 in
theorem q_H_mendBoot {G : GG} {P : Int → AH → Prop} {h : AH}
  (H : Go G (pI P) 42 2 [some (vR 17), some (vI 0)] [] h) :
  RunsI G 42 [vR 17] h P := runs_of (by decide) 1 rfl (go1 ok42 900 H)
set_option maxRecDepth 100000 in
theorem q_H_mendBoot_c2 {G : GG} {P : Int → AH → Prop} {x1 : Int} {h : AH}
  (H : (((256 : Int) ≤ wI x1 →
    RunsI G 64 [vR 1] h (fun r1 h1 =>
    ((r1 = 0 ∨ r1 = 1) ∧ P r1 h1))) ∧
    (¬ (256 : Int) ≤ wI x1 →
    ((wI (h 17 14) = 0 →
      RunsI G 64 [vR 1] h (fun r2 h2 =>
      ((r2 = 0 ∨ r2 = 1) ∧ P r2 h2))) ∧
      (¬ wI (h 17 14) = 0 →
      RunsI G 54 [vR 1, vI (256 + x1)] h (fun r3 h3 =>
      RunsV G 57 [vR 1, vI x1, vI r3] h3 (fun h4 =>
      Go G (pI P) 42 2 [some (vR 17), some (vI (x1 + 1))] [] h4))))))) :
  Go G (pI P) 42 2 [some (vR 17), some (vI x1)] [] h := go1 ok42 900 H
-- BitmapVolume$Check.mendRest()Z  [17]
set_option maxRecDepth 100000 in
theorem q_H_mendRest {G : GG} {P : Int → AH → Prop} {h : AH}
  (H : RunsI G 65 [vR 1, vI 8, vI 14] h (fun r1 h1 =>
  ((wI r1 = 0 →
    (((0 : Int) = 0 ∨ (0 : Int) = 1) ∧ P 0 h1)) ∧
    (¬ wI r1 = 0 →
    RunsI G 64 [vR 1] h1 (fun r2 h2 =>
    ((wI r2 = 0 →
      (((0 : Int) = 0 ∨ (0 : Int) = 1) ∧ P 0 h2)) ∧
      (¬ wI r2 = 0 →
      RunsI G 51 [vR 17] h2 (fun r3 h3 =>
      ((wI r3 = 0 →
        RunsV G 52 [vR 17] (hs h3 17 13 ((h3 17 13) + 1)) (fun h5 =>
        RunsI G 64 [vR 1] h5 (fun r6 h6 =>
        ((r6 = 0 ∨ r6 = 1) ∧ P r6 h6)))) ∧
        (¬ wI r3 = 0 →
        RunsI G 64 [vR 1] h3 (fun r4 h4 =>
        ((r4 = 0 ∨ r4 = 1) ∧ P r4 h4)))))))))))) :
  RunsI G 43 [vR 17] h P := runs_of (by decide) 0 rfl (go1 ok43 900 H)
-- BitmapVolume$Check.askTree(Z)I  [17]
set_option maxRecDepth 100000 in
theorem q_H_askTree {G : GG} {P : Int → AH → Prop} {x1 : Int} {h : AH}
  (H : ((x1 = 0 ∨ x1 = 1) ∧ ((0 ≤ (0 : Int) ∧ (0 : Int) < 102) ∧
  Go G (pI P) 44 24 [some (vR 17), none, some (vI 0)] [] (hs (hs (hs (hs h 17 12 x1) 17 13 0) 25 0 0) 17 11 1)))) :
  RunsI G 44 [vR 17, vI x1] h P := runs_of (by decide) 1 rfl (go1 ok44 900 H)
set_option maxRecDepth 100000 in
theorem q_H_askTree_c24 {G : GG} {P : Int → AH → Prop} {x2 : Int} {h : AH}
  (H : ((wI (h 17 11) ≤ wI x2 →
    P 0 h) ∧
    (¬ wI (h 17 11) ≤ wI x2 →
    (((102 : Int) ≤ wI x2 →
      P 0 h) ∧
      (¬ (102 : Int) ≤ wI x2 →
      ((0 ≤ wI x2 ∧ wI x2 < 102) ∧
      RunsI G 45 [vR 17, vI (h 25 (wI x2).toNat)] h (fun r1 h1 =>
      ((wI r1 = 0 →
        P (h1 17 15) h1) ∧
        (¬ wI r1 = 0 →
        Go G (pI P) 44 24 [some (vR 17), none, some (vI (x2 + 1))] [] h1))))))))) :
  Go G (pI P) 44 24 [some (vR 17), none, some (vI x2)] [] h := go1 ok44 900 H
-- BitmapVolume$Check.askDirectory(I)Z  [17]
set_option maxRecDepth 100000 in
theorem q_H_askDirectory {G : GG} {P : Int → AH → Prop} {x1 : Int} {h : AH}
  (H : RunsV G 127 [vR 11, vI x1, vR 18] h (fun h1 =>
  ((wI x1 = 0 →
    Go G (pI P) 45 27 [some (vR 17), none, some (vI 0), some (vI 2), some (vI 2), none] [] h1) ∧
    (¬ wI x1 = 0 →
    Go G (pI P) 45 27 [some (vR 17), none, some (vI 0), some (vI 0), some (vI 0), none] [] h1)))) :
  RunsI G 45 [vR 17, vI x1] h P := runs_of (by decide) 4 rfl (go1 ok45 900 H)
set_option maxRecDepth 100000 in
theorem q_H_askDirectory_c27 {G : GG} {P : Int → AH → Prop} {x2 x3 x4 : Int} {h : AH}
  (H : RunsI G 31 [vR 18] h (fun r1 h1 =>
  ((wI r1 ≤ wI x4 →
    (((1 : Int) = 0 ∨ (1 : Int) = 1) ∧ P 1 h1)) ∧
    (¬ wI r1 ≤ wI x4 →
    ((wI x3 ≤ wI x4 →
      RunsI G 32 [vR 18, vI x4] h1 (fun r2 h2 =>
      RunsI G 54 [vR 1, vI r2] h2 (fun r3 h3 =>
      ((wI x2 = 0 →
        Go G (pI P) 45 112 [some (vR 17), none, some (vI x2), some (vI (x4 + 1)), some (vI x4), some (vI r3)] [] h3) ∧
        (¬ wI x2 = 0 →
        ((wI r3 = 0 →
          Go G (pI P) 45 112 [some (vR 17), none, some (vI x2), some (vI (x4 + 1)), some (vI x4), some (vI r3)] [] h3) ∧
          (¬ wI r3 = 0 →
          RunsI G 46 [vR 17, vI x4, vI 5] h3 (fun r4 h4 =>
          ((wI r4 = 0 →
            (((0 : Int) = 0 ∨ (0 : Int) = 1) ∧ P 0 h4)) ∧
            (¬ wI r4 = 0 →
            RunsI G 32 [vR 18, vI x4] h4 (fun r5 h5 =>
            RunsV G 57 [vR 1, vI r5, vI 0] h5 (fun h6 =>
            Go G (pI P) 45 138 [some (vR 17), none, some (vI x2), some (vI (x4 + 1)), some (vI x4), some (vI r3)] [] h6)))))))))))) ∧
      (¬ wI x3 ≤ wI x4 →
      Go G (pI P) 45 27 [some (vR 17), none, some (vI x2), some (vI x3), some (vI (x4 + 1)), none] [] h1)))))) :
  Go G (pI P) 45 27 [some (vR 17), none, some (vI x2), some (vI x3), some (vI x4), none] [] h := go1 ok45 900 H
set_option maxRecDepth 100000 in
theorem q_H_askDirectory_c112 {G : GG} {P : Int → AH → Prop} {x2 x3 x4 x5 : Int} {h : AH}
  (H : ((wI x5 < (128 : Int) →
    Go G (pI P) 45 138 [some (vR 17), none, some (vI x2), some (vI x3), some (vI x4), some (vI x5)] [] h) ∧
    (¬ wI x5 < (128 : Int) →
    RunsI G 47 [vR 17, vI x4] h (fun r1 h1 =>
    ((wI (x4 + r1) = wI x4 →
      (((0 : Int) = 0 ∨ (0 : Int) = 1) ∧ P 0 h1)) ∧
      (¬ wI (x4 + r1) = wI x4 →
      Go G (pI P) 45 138 [some (vR 17), none, some (vI x2), some (vI (x4 + r1)), some (vI x4), some (vI x5)] [] h1)))))) :
  Go G (pI P) 45 112 [some (vR 17), none, some (vI x2), some (vI x3), some (vI x4), some (vI x5)] [] h := go1 ok45 900 H
set_option maxRecDepth 100000 in
theorem q_H_askDirectory_c138 {G : GG} {P : Int → AH → Prop} {x2 x3 x4 x5 : Int} {h : AH}
  (H : ((wI x2 = 0 →
    ((wI x5 = 0 →
      Go G (pI P) 45 27 [some (vR 17), none, some (vI 1), some (vI x3), some (vI (x4 + 1)), none] [] h) ∧
      (¬ wI x5 = 0 →
      Go G (pI P) 45 27 [some (vR 17), none, some (vI 0), some (vI x3), some (vI (x4 + 1)), none] [] h))) ∧
    (¬ wI x2 = 0 →
    Go G (pI P) 45 27 [some (vR 17), none, some (vI 1), some (vI x3), some (vI (x4 + 1)), none] [] h))) :
  Go G (pI P) 45 138 [some (vR 17), none, some (vI x2), some (vI x3), some (vI x4), some (vI x5)] [] h := go1 ok45 900 H
-- BitmapVolume$Check.strike(II)Z  [17]
set_option maxRecDepth 100000 in
theorem q_H_strike {G : GG} {P : Int → AH → Prop} {x1 x2 : Int} {h : AH}
  (H : ((wI (h 17 12) = 0 →
    ((4 : Int) ≠ 0 ∧ RunsI G 26 [vR 18, vI (Int.tdiv (wI x1) 4)] h (fun r1 h1 =>
    ((4 : Int) ≠ 0 ∧ RunsI G 33 [vR 17, vI x2, vI r1, vI (Int.tmod (wI x1) 4)] h1 (fun r2 h2 =>
    (((h2 17 12) = 0 ∨ (h2 17 12) = 1) ∧ P (h2 17 12) h2)))))) ∧
    (¬ wI (h 17 12) = 0 →
    ((((hs h 17 13 ((h 17 13) + 1)) 17 12) = 0 ∨ ((hs h 17 13 ((h 17 13) + 1)) 17 12) = 1) ∧ P ((hs h 17 13 ((h 17 13) + 1)) 17 12) (hs h 17 13 ((h 17 13) + 1)))))) :
  RunsI G 46 [vR 17, vI x1, vI x2] h P := runs_of (by decide) 0 rfl (go1 ok46 900 H)
-- BitmapVolume$Check.meetSet(I)I  [17]
set_option maxRecDepth 100000 in
theorem q_H_meetSet {G : GG} {P : Int → AH → Prop} {x1 : Int} {h : AH}
  (H : RunsI G 32 [vR 18, vI x1] h (fun r1 h1 =>
  RunsI G 32 [vR 18, vI (x1 + 2)] h1 (fun r2 h2 =>
  ((2 : Int) ≠ 0 ∧ ((wI (Int.tmod (wI x1) 2) = 0 →
    RunsI G 31 [vR 18] h2 (fun r5 h5 =>
    RunsI G 96 [vR 10, vI r1, vI r2, vI (r5 - x1), vI (h5 7 1), vR 22] h5 (fun r6 h6 =>
    ((wI r6 = 0 →
      RunsI G 46 [vR 17, vI x1, vI 5] h6 (fun r17 h17 =>
      ((wI r17 = 0 →
        P 0 h17) ∧
        (¬ wI r17 = 0 →
        RunsV G 108 [vR 10, vI r1] h17 (fun h18 =>
        P 1 h18))))) ∧
      (¬ wI r6 = 0 →
      RunsI G 81 [vR 10, vI r1] h6 (fun r7 h7 =>
      RunsI G 87 [vR 10, vI r1] h7 (fun r8 h8 =>
      RunsI G 85 [vR 10, vI r1] h8 (fun r9 h9 =>
      RunsI G 89 [vR 10, vI r1] h9 (fun r10 h10 =>
      RunsI G 28 [vR 20, vR 7, vI r8, vI r9, vI r10] h10 (fun r11 h11 =>
      RunsI G 48 [vR 17, vI x1, vI r11] h11 (fun r12 h12 =>
      ((wI r12 = 0 →
        ((wI r11 = (2 : Int) →
          RunsI G 27 [vR 20] (hs h12 17 13 ((h12 17 13) + 1)) (fun r13 h13 =>
          RunsV G 112 [vR 7, vI r13, vI (-1)] h13 (fun h14 =>
          Go G (pI P) 47 198 [some (vR 17), none, some (vI r1), none, some (vI r7), none, none, some (vI 0)] [] h14))) ∧
          (¬ wI r11 = (2 : Int) →
          Go G (pI P) 47 198 [some (vR 17), none, some (vI r1), none, some (vI r7), none, none, some (vI 0)] [] h12))) ∧
        (¬ wI r12 = 0 →
        RunsI G 46 [vR 17, vI x1, vI r12] h12 (fun r15 h15 =>
        ((wI r15 = 0 →
          P 0 h15) ∧
          (¬ wI r15 = 0 →
          RunsV G 107 [vR 10, vI r1, vI r2] h15 (fun h16 =>
          P r7 h16))))))))))))))))) ∧
    (¬ wI (Int.tmod (wI x1) 2) = 0 →
    RunsI G 46 [vR 17, vI x1, vI 5] h2 (fun r3 h3 =>
    ((wI r3 = 0 →
      P 0 h3) ∧
      (¬ wI r3 = 0 →
      RunsV G 108 [vR 10, vI r1] h3 (fun h4 =>
      P 1 h4)))))))))) :
  RunsI G 47 [vR 17, vI x1] h P := runs_of (by decide) 6 rfl (go1 ok47 900 H)
set_option maxRecDepth 100000 in
theorem q_H_meetSet_c198 {G : GG} {P : Int → AH → Prop} {x2 x4 x7 : Int} {h : AH}
  (H : ((wI (h 20 1) ≤ wI x7 →
    RunsI G 83 [vR 10, vI x2] h (fun r1 h1 =>
    ((wI r1 = 0 →
      P x4 h1) ∧
      (¬ wI r1 = 0 →
      (((102 : Int) ≤ wI (h1 17 11) →
        P x4 h1) ∧
        (¬ (102 : Int) ≤ wI (h1 17 11) →
        RunsI G 123 [vI x2] (hs h1 17 11 ((h1 17 11) + 1)) (fun r2 h2 =>
        ((0 ≤ wI (h1 17 11) ∧ wI (h1 17 11) < 102) ∧
        P x4 (hs h2 25 (wI (h1 17 11)).toNat r2))))))))) ∧
    (¬ wI (h 20 1) ≤ wI x7 →
    RunsI G 26 [vR 20, vI x7] h (fun r3 h3 =>
    RunsV G 36 [vR 17, vI r3] h3 (fun h4 =>
    Go G (pI P) 47 198 [some (vR 17), none, some (vI x2), none, some (vI x4), none, none, some (vI (x7 + 1))] [] h4))))) :
  Go G (pI P) 47 198 [some (vR 17), none, some (vI x2), none, some (vI x4), none, none, some (vI x7)] [] h := go1 ok47 900 H
-- BitmapVolume$Check.faultOf(II)I  [17]
set_option maxRecDepth 100000 in
theorem q_H_faultOf {G : GG} {P : Int → AH → Prop} {x1 x2 : Int} {h : AH}
  (H : ((wI x2 = (1 : Int) →
    P 6 h) ∧
    (¬ wI x2 = (1 : Int) →
    ((wI x2 = (2 : Int) →
      ((wI (h 17 12) = 0 →
        P 6 h) ∧
        (¬ wI (h 17 12) = 0 →
        Go G (pI P) 48 22 [some (vR 17), some (vI x1), some (vI x2), some (vI 0)] [] h))) ∧
      (¬ wI x2 = (2 : Int) →
      Go G (pI P) 48 22 [some (vR 17), some (vI x1), some (vI x2), some (vI 0)] [] h))))) :
  RunsI G 48 [vR 17, vI x1, vI x2] h P := runs_of (by decide) 1 rfl (go1 ok48 900 H)
set_option maxRecDepth 100000 in
theorem q_H_faultOf_c22 {G : GG} {P : Int → AH → Prop} {x1 x2 x3 : Int} {h : AH}
  (H : ((wI (h 20 1) ≤ wI x3 →
    ((wI x2 = (2 : Int) →
      RunsI G 30 [vR 20] h (fun r2 h2 =>
      ((wI r2 = 0 →
        RunsI G 49 [vR 17, vI x1] h2 (fun r3 h3 =>
        ((wI r3 = 0 →
          P 0 h3) ∧
          (¬ wI r3 = 0 →
          P 8 h3)))) ∧
        (¬ wI r2 = 0 →
        P 7 h2)))) ∧
      (¬ wI x2 = (2 : Int) →
      RunsI G 49 [vR 17, vI x1] h (fun r1 h1 =>
      ((wI r1 = 0 →
        P 0 h1) ∧
        (¬ wI r1 = 0 →
        P 8 h1)))))) ∧
    (¬ wI (h 20 1) ≤ wI x3 →
    RunsI G 26 [vR 20, vI x3] h (fun r4 h4 =>
    RunsI G 37 [vR 17, vI r4] h4 (fun r5 h5 =>
    ((wI r5 = 0 →
      Go G (pI P) 48 22 [some (vR 17), some (vI x1), some (vI x2), some (vI (x3 + 1))] [] h5) ∧
      (¬ wI r5 = 0 →
      P 7 h5))))))) :
  Go G (pI P) 48 22 [some (vR 17), some (vI x1), some (vI x2), some (vI x3)] [] h := go1 ok48 900 H
-- BitmapVolume$Check.hasLikeBefore(I)Z  [17]
set_option maxRecDepth 100000 in
theorem q_H_hasLikeBefore {G : GG} {P : Int → AH → Prop} {x1 : Int} {h : AH}
  (H : Go G (pI P) 49 2 [some (vR 17), some (vI x1), some (vI 0), none] [] h) :
  RunsI G 49 [vR 17, vI x1] h P := runs_of (by decide) 2 rfl (go1 ok49 900 H)
set_option maxRecDepth 100000 in
theorem q_H_hasLikeBefore_c2 {G : GG} {P : Int → AH → Prop} {x1 x2 : Int} {h : AH}
  (H : ((wI x1 ≤ wI x2 →
    (((0 : Int) = 0 ∨ (0 : Int) = 1) ∧ P 0 h)) ∧
    (¬ wI x1 ≤ wI x2 →
    RunsI G 32 [vR 18, vI x2] h (fun r1 h1 =>
    RunsI G 54 [vR 1, vI r1] h1 (fun r2 h2 =>
    ((wI r2 = (133 : Int) →
      RunsI G 32 [vR 18, vI (x2 + 2)] h2 (fun r3 h3 =>
      RunsI G 95 [vR 10, vR 22, vI r1, vI r3] h3 (fun r4 h4 =>
      ((wI r4 = 0 →
        Go G (pI P) 49 2 [some (vR 17), some (vI x1), some (vI (x2 + 2)), none] [] h4) ∧
        (¬ wI r4 = 0 →
        (((1 : Int) = 0 ∨ (1 : Int) = 1) ∧ P 1 h4)))))) ∧
      (¬ wI r2 = (133 : Int) →
      Go G (pI P) 49 2 [some (vR 17), some (vI x1), some (vI (x2 + 2)), none] [] h2))))))) :
  Go G (pI P) 49 2 [some (vR 17), some (vI x1), some (vI x2), none] [] h := go1 ok49 900 H
-- BitmapVolume$Check.bitmapOctet(I)I  [17]
set_option maxRecDepth 100000 in
theorem q_H_bitmapOctet {G : GG} {P : Int → AH → Prop} {x1 : Int} {h : AH}
  (H : Go G (pI P) 50 4 [some (vR 17), some (vI x1), some (vI 0), some (vI 0), none] [] h) :
  RunsI G 50 [vR 17, vI x1] h P := runs_of (by decide) 3 rfl (go1 ok50 900 H)
set_option maxRecDepth 100000 in
theorem q_H_bitmapOctet_c4 {G : GG} {P : Int → AH → Prop} {x1 x2 x3 : Int} {h : AH}
  (H : (((8 : Int) ≤ wI x3 →
    P x2 h) ∧
    (¬ (8 : Int) ≤ wI x3 →
    RunsI G 110 [vR 7, vI (((8 * x1) + x3) + 2)] h (fun r1 h1 =>
    ((wI r1 = 0 →
      Go G (pI P) 50 4 [some (vR 17), some (vI x1), some (vI x2), some (vI (x3 + 1)), none] [] h1) ∧
      (¬ wI r1 = 0 →
      RunsI G 37 [vR 17, vI (((8 * x1) + x3) + 2)] h1 (fun r2 h2 =>
      ((wI r2 = 0 →
        Go G (pI P) 50 4 [some (vR 17), some (vI x1), some (vI x2), some (vI (x3 + 1)), none] [] h2) ∧
        (¬ wI r2 = 0 →
        Go G (pI P) 50 4 [some (vR 17), some (vI x1), some (vI (bO x2 (sLI 1 x3))), some (vI (x3 + 1)), none] [] h2))))))))) :
  Go G (pI P) 50 4 [some (vR 17), some (vI x1), some (vI x2), some (vI x3), none] [] h := go1 ok50 900 H
-- BitmapVolume$Check.isRightBitmap()Z  [17]
set_option maxRecDepth 100000 in
theorem q_H_isRightBitmap {G : GG} {P : Int → AH → Prop} {h : AH}
  (H : Go G (pI P) 51 2 [some (vR 17), some (vI 0)] [] h) :
  RunsI G 51 [vR 17] h P := runs_of (by decide) 1 rfl (go1 ok51 900 H)
set_option maxRecDepth 100000 in
theorem q_H_isRightBitmap_c2 {G : GG} {P : Int → AH → Prop} {x1 : Int} {h : AH}
  (H : ((8 : Int) ≠ 0 ∧ ((wI (Int.tdiv (wI ((h 7 1) + 7)) 8) ≤ wI x1 →
    (((1 : Int) = 0 ∨ (1 : Int) = 1) ∧ P 1 h)) ∧
    (¬ wI (Int.tdiv (wI ((h 7 1) + 7)) 8) ≤ wI x1 →
    RunsI G 109 [vI (h 7 3)] h (fun r1 h1 =>
    RunsI G 54 [vR 1, vI (r1 + x1)] h1 (fun r2 h2 =>
    RunsI G 50 [vR 17, vI x1] h2 (fun r3 h3 =>
    ((wI r2 = wI r3 →
      Go G (pI P) 51 2 [some (vR 17), some (vI (x1 + 1))] [] h3) ∧
      (¬ wI r2 = wI r3 →
      (((0 : Int) = 0 ∨ (0 : Int) = 1) ∧ P 0 h3)))))))))) :
  Go G (pI P) 51 2 [some (vR 17), some (vI x1)] [] h := go1 ok51 900 H
-- BitmapVolume$Check.layBitmap()V  [17]
set_option maxRecDepth 100000 in
theorem q_H_layBitmap {G : GG} {P : AH → Prop} {h : AH}
  (H : Go G (pV P) 52 2 [some (vR 17), some (vI 0)] [] h) :
  RunsV G 52 [vR 17] h P := runs_of (by decide) 1 rfl (go1 ok52 900 H)
set_option maxRecDepth 100000 in
theorem q_H_layBitmap_c2 {G : GG} {P : AH → Prop} {x1 : Int} {h : AH}
  (H : ((8 : Int) ≠ 0 ∧ ((wI (Int.tdiv (wI ((h 7 1) + 7)) 8) ≤ wI x1 →
    P h) ∧
    (¬ wI (Int.tdiv (wI ((h 7 1) + 7)) 8) ≤ wI x1 →
    RunsI G 109 [vI (h 7 3)] h (fun r1 h1 =>
    RunsI G 50 [vR 17, vI x1] h1 (fun r2 h2 =>
    RunsV G 57 [vR 1, vI (r1 + x1), vI r2] h2 (fun h3 =>
    Go G (pV P) 52 2 [some (vR 17), some (vI (x1 + 1))] [] h3))))))) :
  Go G (pV P) 52 2 [some (vR 17), some (vI x1)] [] h := go1 ok52 900 H
-- BitmapVolume.format(II)I  [0]
set_option maxRecDepth 100000 in
theorem q_V_format {G : GG} {P : Int → AH → Prop} {x1 x2 : Int} {h : AH}
  (H : ((wI (h 0 8) = 0 →
    ((wI x1 < (16 : Int) →
      P (-1) h) ∧
      (¬ wI x1 < (16 : Int) →
      ((wI x1 ≤ (100 : Int) →
        RunsV G 62 [vR 1] h (fun h1 =>
        RunsV G 13 [vR 5, vI x1, vI 4, vI x2, vI 0, vI 255] h1 (fun h2 =>
        RunsV G 16 [vR 5, vI 0] h2 (fun h3 =>
        RunsV G 16 [vR 5, vI 256] h3 (fun h4 =>
        RunsV G 59 [vR 1, vI 512, vI (-8)] h4 (fun h5 =>
        Go G (pI P) 139 77 [some (vR 0), some (vI x1), none, some (vI 1), none] [] h5)))))) ∧
        (¬ wI x1 ≤ (100 : Int) →
        P (-1) h))))) ∧
    (¬ wI (h 0 8) = 0 →
    P (-2) h))) :
  RunsI G 139 [vR 0, vI x1, vI x2] h P := runs_of (by decide) 2 rfl (go1 ok139 900 H)
set_option maxRecDepth 100000 in
theorem q_V_format_c77 {G : GG} {P : Int → AH → Prop} {x1 x3 : Int} {h : AH}
  (H : (((4 : Int) < wI x3 →
    RunsI G 109 [vI 2] h (fun r1 h1 =>
    RunsV G 57 [vR 1, vI r1, vI 7] h1 (fun h2 =>
    RunsI G 109 [vI 3] h2 (fun r3 h3 =>
    RunsI G 22 [vR 1, vI r3] h3 (fun r4 h4 =>
    RunsI G 109 [vI 4] h4 (fun r5 h5 =>
    RunsV G 57 [vR 1, vI r5, vI 129] h5 (fun h6 =>
    RunsV G 59 [vR 1, vI (r5 + 20), vI 2] h6 (fun h7 =>
    ((8 : Int) ≠ 0 ∧ RunsV G 59 [vR 1, vI (r5 + 24), vI (Int.tdiv (wI (x1 + 7)) 8)] h7 (fun h8 =>
    RunsV G 57 [vR 1, vI (r5 + 32), vI 130] h8 (fun h9 =>
    RunsI G 109 [vI 3] h9 (fun r10 h10 =>
    RunsI G 21 [vR 1, vI r10, vI r4] h10 (fun r11 h11 =>
    RunsV G 59 [vR 1, vI ((r5 + 32) + 4), vI r11] h11 (fun h12 =>
    RunsV G 59 [vR 1, vI ((r5 + 32) + 20), vI 3] h12 (fun h13 =>
    RunsV G 59 [vR 1, vI ((r5 + 32) + 24), vI r4] h13 (fun h14 =>
    RunsV G 63 [vR 1] h14 (fun h15 =>
    P (16 + (2 * x1)) h15))))))))))))))))) ∧
    (¬ (4 : Int) < wI x3 →
    RunsV G 59 [vR 1, vI (512 + (4 * x3)), vI (-1)] h (fun h16 =>
    Go G (pI P) 139 77 [some (vR 0), some (vI x1), none, some (vI (x3 + 1)), none] [] h16)))) :
  Go G (pI P) 139 77 [some (vR 0), some (vI x1), none, some (vI x3), none] [] h := go1 ok139 900 H
-- BitmapVolume.octet(II)I  [0]
set_option maxRecDepth 100000 in
theorem q_V_octet {G : GG} {P : Int → AH → Prop} {x1 x2 : Int} {h : AH}
  (H : RunsI G 53 [vI x1, vI x2] h (fun r1 h1 =>
  ((wI r1 = 0 →
    P (-1) h1) ∧
    (¬ wI r1 = 0 →
    RunsI G 54 [vR 1, vI ((x1 * 64) + x2)] h1 (fun r2 h2 =>
    P r2 h2))))) :
  RunsI G 140 [vR 0, vI x1, vI x2] h P := runs_of (by decide) 0 rfl (go1 ok140 900 H)
-- BitmapVolume.spoil(III)I  [0]
set_option maxRecDepth 100000 in
theorem q_V_spoil {G : GG} {P : Int → AH → Prop} {x1 x2 x3 : Int} {h : AH}
  (H : ((wI (h 0 8) = 0 →
    RunsI G 53 [vI x1, vI x2] h (fun r1 h1 =>
    ((wI r1 = 0 →
      P (-1) h1) ∧
      (¬ wI r1 = 0 →
      ((wI x3 < 0 →
        P (-1) h1) ∧
        (¬ wI x3 < 0 →
        ((wI x3 ≤ (255 : Int) →
          RunsI G 54 [vR 1, vI ((x1 * 64) + x2)] h1 (fun r2 h2 =>
          RunsV G 57 [vR 1, vI ((x1 * 64) + x2), vI x3] h2 (fun h3 =>
          RunsV G 63 [vR 1] h3 (fun h4 =>
          P r2 h4)))) ∧
          (¬ wI x3 ≤ (255 : Int) →
          P (-1) h1)))))))) ∧
    (¬ wI (h 0 8) = 0 →
    P (-2) h))) :
  RunsI G 141 [vR 0, vI x1, vI x2, vI x3] h P := runs_of (by decide) 1 rfl (go1 ok141 900 H)
-- BitmapVolume.fail(I)I  [0]
set_option maxRecDepth 100000 in
theorem q_V_fail {G : GG} {P : Int → AH → Prop} {x1 : Int} {h : AH}
  (H : ((wI x1 < 0 →
    P (-1) h) ∧
    (¬ wI x1 < 0 →
    ((wI x1 ≤ (1000 : Int) →
      P 1 (hs h 1 3 x1)) ∧
      (¬ wI x1 ≤ (1000 : Int) →
      P (-1) h))))) :
  RunsI G 142 [vR 0, vI x1] h P := runs_of (by decide) 0 rfl (go1 ok142 900 H)
-- BitmapVolume.mount()I  [0]
set_option maxRecDepth 100000 in
theorem q_V_mount {G : GG} {P : Int → AH → Prop} {h : AH}
  (H : ((wI (h 0 8) = 0 →
    RunsI G 34 [vR 17] h (fun r1 h1 =>
    ((wI r1 = 0 →
      RunsI G 44 [vR 17, vI 0] h1 (fun r2 h2 =>
      Go G (pI P) 143 31 [some (vR 0), some (vI r2)] [] h2)) ∧
      (¬ wI r1 = 0 →
      Go G (pI P) 143 31 [some (vR 0), some (vI r1)] [] h1)))) ∧
    (¬ wI (h 0 8) = 0 →
    P (-2) h))) :
  RunsI G 143 [vR 0] h P := runs_of (by decide) 1 rfl (go1 ok143 900 H)
set_option maxRecDepth 100000 in
theorem q_V_mount_c31 {G : GG} {P : Int → AH → Prop} {x1 : Int} {h : AH}
  (H : ((wI x1 = 0 →
    RunsI G 41 [vR 17] h (fun r2 h2 =>
    ((wI r2 = 0 →
      (((1 : Int) = 0 ∨ (1 : Int) = 1) ∧ RunsV G 125 [vR 11] (hs h2 0 8 1) (fun h3 =>
      ((wI (h3 17 14) = 0 →
        P 1 h3) ∧
        (¬ wI (h3 17 14) = 0 →
        P 2 h3))))) ∧
      (¬ wI r2 = 0 →
      P ((-10) - r2) h2)))) ∧
    (¬ wI x1 = 0 →
    ((wI x1 = 0 →
      (((1 : Int) = 0 ∨ (1 : Int) = 1) ∧ RunsV G 125 [vR 11] (hs h 0 8 1) (fun h1 =>
      ((wI (h1 17 14) = 0 →
        P 1 h1) ∧
        (¬ wI (h1 17 14) = 0 →
        P 2 h1))))) ∧
      (¬ wI x1 = 0 →
      P ((-10) - x1) h))))) :
  Go G (pI P) 143 31 [some (vR 0), some (vI x1)] [] h := go1 ok143 900 H
-- BitmapVolume.fault(I)I  [0]
set_option maxRecDepth 100000 in
theorem q_V_fault {G : GG} {P : Int → AH → Prop} {x1 : Int} {h : AH}
  (H : ((wI x1 = 0 → P (h 17 15) h) ∧
    (¬ wI x1 = 0 → ((wI x1 = 1 → P (h 17 16) h) ∧
    (¬ wI x1 = 1 → ((wI x1 = 2 → P (h 17 17) h) ∧
    (¬ wI x1 = 2 → P (-1) h))))))) :
  RunsI G 144 [vR 0, vI x1] h P := runs_of (by decide) 0 rfl (go1 ok144 900 H)
-- BitmapVolume.unmount()I  [0]
set_option maxRecDepth 100000 in
theorem q_V_unmount {G : GG} {P : Int → AH → Prop} {h : AH}
  (H : ((wI (h 0 8) = 0 →
    P (-2) h) ∧
    (¬ wI (h 0 8) = 0 →
    (((0 : Int) = 0 ∨ (0 : Int) = 1) ∧ RunsI G 54 [vR 1, vI 44] (hs h 0 8 0) (fun r1 h1 =>
    RunsV G 57 [vR 1, vI 44, vI (bA r1 (-3))] h1 (fun h2 =>
    RunsI G 121 [vR 7] h2 (fun r3 h3 =>
    RunsV G 57 [vR 1, vI 49, vI r3] h3 (fun h4 =>
    RunsI G 64 [vR 1] h4 (fun r5 h5 =>
    ((wI r5 = 0 →
      P (-7) h5) ∧
      (¬ wI r5 = 0 →
      P 1 h5))))))))))) :
  RunsI G 145 [vR 0] h P := runs_of (by decide) 0 rfl (go1 ok145 900 H)
-- BitmapVolume.mend()I  [0]
set_option maxRecDepth 100000 in
theorem q_V_mend {G : GG} {P : Int → AH → Prop} {h : AH}
  (H : ((wI (h 0 8) = 0 →
    RunsI G 34 [vR 17] h (fun r1 h1 =>
    ((wI r1 = 0 →
      RunsI G 42 [vR 17] h1 (fun r2 h2 =>
      ((wI r2 = 0 →
        P (-7) h2) ∧
        (¬ wI r2 = 0 →
        RunsI G 44 [vR 17, vI 1] h2 (fun r3 h3 =>
        RunsI G 43 [vR 17] h3 (fun r4 h4 =>
        ((wI r4 = 0 →
          P (-7) h4) ∧
          (¬ wI r4 = 0 →
          P (h4 17 13) h4)))))))) ∧
      (¬ wI r1 = 0 →
      P ((-10) - r1) h1)))) ∧
    (¬ wI (h 0 8) = 0 →
    P (-2) h))) :
  RunsI G 146 [vR 0] h P := runs_of (by decide) 1 rfl (go1 ok146 900 H)
-- BitmapVolume.letters(J)I  [0]
set_option maxRecDepth 100000 in
theorem q_V_letters {G : GG} {P : Int → AH → Prop} {y1 : Int} {h : AH}
  (H : RunsI G 75 [vR 32, vL y1] h (fun r1 h1 =>
  ((wI r1 = 0 →
    P (-1) h1) ∧
    (¬ wI r1 = 0 →
    P (h1 32 1) h1)))) :
  RunsI G 147 [vR 0, vL y1] h P := runs_of (by decide) 0 rfl (go1 ok147 900 H)
-- BitmapVolume.clear()I  [0]
set_option maxRecDepth 100000 in
theorem q_V_clear {G : GG} {P : Int → AH → Prop} {h : AH}
  (H : P (h 32 1) (hs h 32 1 0)) :
  RunsI G 148 [vR 0] h P := runs_of (by decide) 1 rfl (go1 ok148 900 H)
-- BitmapVolume.clock(I)V  [0]
set_option maxRecDepth 100000 in
theorem q_V_clock {G : GG} {P : AH → Prop} {x1 : Int} {h : AH}
  (H : P (hs h 26 5 x1)) :
  RunsV G 149 [vR 0, vI x1] h P := runs_of (by decide) 0 rfl (go1 ok149 900 H)
-- BitmapVolume.look(I)I  [0]
set_option maxRecDepth 100000 in
theorem q_V_look {G : GG} {P : Int → AH → Prop} {x1 : Int} {h : AH}
  (H : ((wI (h 0 8) = 0 →
    P (-2) (hs h 32 1 0)) ∧
    (¬ wI (h 0 8) = 0 →
    RunsI G 130 [vR 11, vI x1] h (fun r1 h1 =>
    ((wI r1 = 0 →
      P (-1) (hs h1 32 1 0)) ∧
      (¬ wI r1 = 0 →
      RunsI G 77 [vR 32] h1 (fun r2 h2 =>
      ((wI r2 = 0 →
        P (-3) (hs h2 32 1 0)) ∧
        (¬ wI r2 = 0 →
        RunsI G 133 [vR 11, vI x1, vR 32] h2 (fun r3 h3 =>
        P r3 (hs h3 32 1 0))))))))))) :
  RunsI G 150 [vR 0, vI x1] h P := runs_of (by decide) 1 rfl (go1 ok150 900 H)
-- BitmapVolume.list(II)I  [0]
set_option maxRecDepth 100000 in
theorem q_V_list {G : GG} {P : Int → AH → Prop} {x1 x2 : Int} {h : AH}
  (H : ((wI (h 0 8) = 0 →
    P (-2) h) ∧
    (¬ wI (h 0 8) = 0 →
    RunsI G 130 [vR 11, vI x1] h (fun r1 h1 =>
    ((wI r1 = 0 →
      P (-1) h1) ∧
      (¬ wI r1 = 0 →
      RunsI G 135 [vR 11, vI x1, vI x2] h1 (fun r2 h2 =>
      P r2 h2))))))) :
  RunsI G 151 [vR 0, vI x1, vI x2] h P := runs_of (by decide) 0 rfl (go1 ok151 900 H)
-- BitmapVolume.make(IZ)I  [0]
set_option maxRecDepth 100000 in
theorem q_V_make {G : GG} {P : Int → AH → Prop} {x1 x2 : Int} {h : AH}
  (H : ((wI (h 0 8) = 0 →
    RunsI G 163 [vR 0, vI (-2)] (hs h 32 1 0) (fun r1 h1 =>
    P r1 h1)) ∧
    (¬ wI (h 0 8) = 0 →
    RunsI G 0 [vR 26, vI x1, vR 32, vI x2] h (fun r2 h2 =>
    RunsI G 163 [vR 0, vI r2] (hs h2 32 1 0) (fun r3 h3 =>
    P r3 h3))))) :
  RunsI G 152 [vR 0, vI x1, vI x2] h P := runs_of (by decide) 1 rfl (go1 ok152 900 H)
-- BitmapVolume.write(IIII)I  [0]
set_option maxRecDepth 100000 in
theorem q_V_write {G : GG} {P : Int → AH → Prop} {x1 x2 x3 x4 : Int} {h : AH}
  (H : ((wI (h 0 8) = 0 →
    P (-2) h) ∧
    (¬ wI (h 0 8) = 0 →
    RunsI G 6 [vR 26, vI x1, vI x2, vI x3, vI x4] h (fun r1 h1 =>
    RunsI G 163 [vR 0, vI r1] h1 (fun r2 h2 =>
    P r2 h2))))) :
  RunsI G 153 [vR 0, vI x1, vI x2, vI x3, vI x4] h P := runs_of (by decide) 0 rfl (go1 ok153 900 H)
-- BitmapVolume.cut(II)I  [0]
set_option maxRecDepth 100000 in
theorem q_V_cut {G : GG} {P : Int → AH → Prop} {x1 x2 : Int} {h : AH}
  (H : ((wI (h 0 8) = 0 →
    P (-2) h) ∧
    (¬ wI (h 0 8) = 0 →
    RunsI G 7 [vR 26, vI x1, vI x2] h (fun r1 h1 =>
    RunsI G 163 [vR 0, vI r1] h1 (fun r2 h2 =>
    P r2 h2))))) :
  RunsI G 154 [vR 0, vI x1, vI x2] h P := runs_of (by decide) 0 rfl (go1 ok154 900 H)
-- BitmapVolume.drop(I)I  [0]
set_option maxRecDepth 100000 in
theorem q_V_drop {G : GG} {P : Int → AH → Prop} {x1 : Int} {h : AH}
  (H : ((wI (h 0 8) = 0 →
    P (-2) h) ∧
    (¬ wI (h 0 8) = 0 →
    RunsI G 8 [vR 26, vI x1] h (fun r1 h1 =>
    RunsI G 163 [vR 0, vI r1] h1 (fun r2 h2 =>
    P r2 h2))))) :
  RunsI G 155 [vR 0, vI x1] h P := runs_of (by decide) 0 rfl (go1 ok155 900 H)
-- BitmapVolume.move(II)I  [0]
set_option maxRecDepth 100000 in
theorem q_V_move {G : GG} {P : Int → AH → Prop} {x1 x2 : Int} {h : AH}
  (H : ((wI (h 0 8) = 0 →
    RunsI G 163 [vR 0, vI (-2)] (hs h 32 1 0) (fun r1 h1 =>
    P r1 h1)) ∧
    (¬ wI (h 0 8) = 0 →
    RunsI G 1 [vR 26, vI x1, vI x2, vR 32] h (fun r2 h2 =>
    RunsI G 163 [vR 0, vI r2] (hs h2 32 1 0) (fun r3 h3 =>
    P r3 h3))))) :
  RunsI G 156 [vR 0, vI x1, vI x2] h P := runs_of (by decide) 1 rfl (go1 ok156 900 H)
-- BitmapVolume.bar(IZ)I  [0]
set_option maxRecDepth 100000 in
theorem q_V_bar {G : GG} {P : Int → AH → Prop} {x1 x2 : Int} {h : AH}
  (H : ((wI (h 0 8) = 0 →
    P (-2) h) ∧
    (¬ wI (h 0 8) = 0 →
    RunsI G 9 [vR 26, vI x1, vI x2] h (fun r1 h1 =>
    RunsI G 163 [vR 0, vI r1] h1 (fun r2 h2 =>
    P r2 h2))))) :
  RunsI G 157 [vR 0, vI x1, vI x2] h P := runs_of (by decide) 0 rfl (go1 ok157 900 H)
-- BitmapVolume.read(II)J  [0]
set_option maxRecDepth 100000 in
theorem q_V_read {G : GG} {P : Int → AH → Prop} {x1 x2 : Int} {h : AH}
  (H : ((wI (h 0 8) = 0 →
    P 0 h) ∧
    (¬ wI (h 0 8) = 0 →
    RunsI G 131 [vR 11, vI x1] h (fun r1 h1 =>
    ((wI r1 = 0 →
      P 0 h1) ∧
      (¬ wI r1 = 0 →
      RunsL G 138 [vR 11, vI x1, vI x2] h1 (fun r2 h2 =>
      P r2 h2))))))) :
  RunsL G 158 [vR 0, vI x1, vI x2] h P := runs_of (by decide) 0 rfl (go1 ok158 900 H)
-- BitmapVolume.told(II)I  [0]
set_option maxRecDepth 100000 in
theorem q_V_told {G : GG} {P : Int → AH → Prop} {x1 x2 : Int} {h : AH}
  (H : ((wI (h 0 8) = 0 →
    P (-2) h) ∧
    (¬ wI (h 0 8) = 0 →
    RunsI G 129 [vR 11, vI x1] h (fun r1 h1 =>
    ((wI r1 = 0 →
      P (-1) h1) ∧
      (¬ wI r1 = 0 →
      ((wI x2 < 0 →
        P (-1) h1) ∧
        (¬ wI x2 < 0 →
        ((wI x2 ≤ (8 : Int) →
          ((wI x1 = 0 →
            RunsI G 137 [vR 11, vI x2] h1 (fun r4 h4 =>
            P r4 h4)) ∧
            (¬ wI x1 = 0 →
            RunsI G 122 [vI x1] h1 (fun r2 h2 =>
            RunsI G 92 [vR 10, vI r2, vI x2] h2 (fun r3 h3 =>
            P r3 h3))))) ∧
          (¬ wI x2 ≤ (8 : Int) →
          P (-1) h1)))))))))) :
  RunsI G 159 [vR 0, vI x1, vI x2] h P := runs_of (by decide) 0 rfl (go1 ok159 900 H)
-- BitmapVolume.letter(II)I  [0]
set_option maxRecDepth 100000 in
theorem q_V_letter {G : GG} {P : Int → AH → Prop} {x1 x2 : Int} {h : AH}
  (H : ((wI (h 0 8) = 0 →
    P (-2) h) ∧
    (¬ wI (h 0 8) = 0 →
    RunsI G 128 [vR 11, vI x1] h (fun r1 h1 =>
    ((wI r1 = 0 →
      P (-1) h1) ∧
      (¬ wI r1 = 0 →
      ((wI x2 < 0 →
        P (-1) h1) ∧
        (¬ wI x2 < 0 →
        RunsI G 122 [vI x1] h1 (fun r2 h2 =>
        RunsI G 86 [vR 10, vI r2] h2 (fun r3 h3 =>
        ((wI x2 < wI r3 →
          RunsI G 124 [vR 11, vI x1] h3 (fun r4 h4 =>
          RunsI G 90 [vR 10, vI r4, vI x2] h4 (fun r5 h5 =>
          P r5 h5))) ∧
          (¬ wI x2 < wI r3 →
          P (-1) h3)))))))))))) :
  RunsI G 160 [vR 0, vI x1, vI x2] h P := runs_of (by decide) 0 rfl (go1 ok160 900 H)
-- BitmapVolume.cluster(II)I  [0]
set_option maxRecDepth 100000 in
theorem q_V_cluster {G : GG} {P : Int → AH → Prop} {x1 x2 : Int} {h : AH}
  (H : ((wI (h 0 8) = 0 →
    P (-2) h) ∧
    (¬ wI (h 0 8) = 0 →
    RunsI G 129 [vR 11, vI x1] h (fun r1 h1 =>
    ((wI r1 = 0 →
      P (-1) h1) ∧
      (¬ wI r1 = 0 →
      RunsI G 136 [vR 11, vI x1, vI x2] h1 (fun r2 h2 =>
      P r2 h2))))))) :
  RunsI G 161 [vR 0, vI x1, vI x2] h P := runs_of (by decide) 0 rfl (go1 ok161 900 H)
-- BitmapVolume.count(I)I  [0]
set_option maxRecDepth 100000 in
theorem q_V_count {G : GG} {P : Int → AH → Prop} {x1 : Int} {h : AH}
  (H : ((wI x1 < 0 →
    P (-1) h) ∧
    (¬ wI x1 < 0 →
    ((wI x1 ≤ (5 : Int) →
      ((wI x1 = (4 : Int) →
        P (h 1 4) h) ∧
        (¬ wI x1 = (4 : Int) →
        ((wI x1 = (5 : Int) →
          ((wI (h 0 8) = 0 →
            P 0 h) ∧
            (¬ wI (h 0 8) = 0 →
            P 1 h))) ∧
          (¬ wI x1 = (5 : Int) →
          ((wI (h 0 8) = 0 →
            P (-2) h) ∧
            (¬ wI (h 0 8) = 0 →
            ((wI x1 = 0 → P (h 7 1) h) ∧
              (¬ wI x1 = 0 → ((wI x1 = 1 → RunsI G 119 [vR 7] h (fun r3 h3 =>
              P r3 h3)) ∧
              (¬ wI x1 = 1 → ((wI x1 = 2 → RunsI G 120 [vR 7] h (fun r2 h2 =>
              P r2 h2)) ∧
              (¬ wI x1 = 2 → RunsI G 54 [vR 1, vI 44] h (fun r1 h1 =>
              ((wI (bA r1 2) = 0 →
                P 0 h1) ∧
                (¬ wI (bA r1 2) = 0 →
                P 1 h1)))))))))))))))) ∧
      (¬ wI x1 ≤ (5 : Int) →
      P (-1) h))))) :
  RunsI G 162 [vR 0, vI x1] h P := runs_of (by decide) 0 rfl (go1 ok162 900 H)
-- BitmapVolume.settled(I)I  [0]
set_option maxRecDepth 100000 in
theorem q_V_settled {G : GG} {P : Int → AH → Prop} {x1 : Int} {h : AH}
  (H : ((wI x1 = ((-7) : Int) →
    (((0 : Int) = 0 ∨ (0 : Int) = 1) ∧ P x1 (hs h 0 8 0))) ∧
    (¬ wI x1 = ((-7) : Int) →
    P x1 h))) :
  RunsI G 163 [vR 0, vI x1] h P := runs_of (by decide) 0 rfl (go1 ok163 900 H)
