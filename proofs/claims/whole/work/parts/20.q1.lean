/-! what is to be shown of each method, from its entry and from its cuts, by program out of the code tables -/
-- java/util/Arrays.fill([II)V  [3]
set_option maxRecDepth 100000 in
theorem q_J_fill_3 {G : GG} {P : AH → Prop} {x1 : Int} {h : AH}
  (H : Go G (pV P) 277 5 [some (vR 3), some (vI x1), some (vI 0), some (vI (ob_ln 3 : Int))] [] h) :
  RunsV G 277 [vR 3, vI x1] h P := runs_of (by decide) 2 rfl (go1 ok277 900 H)
set_option maxRecDepth 100000 in
theorem q_J_fill_3_c5 {G : GG} {P : AH → Prop} {x1 x2 x3 : Int} {h : AH}
  (H : ((wI x3 ≤ wI x2 →
    P h) ∧
    (¬ wI x3 ≤ wI x2 →
    ((0 ≤ wI x2 ∧ wI x2 < (ob_ln 3 : Int)) ∧
    Go G (pV P) 277 5 [some (vR 3), some (vI x1), some (vI (x2 + 1)), some (vI x3)] [] (hs h 3 (wI x2).toNat x1))))) :
  Go G (pV P) 277 5 [some (vR 3), some (vI x1), some (vI x2), some (vI x3)] [] h := go1 ok277 900 H
-- java/util/Arrays.fill([II)V  [6]
set_option maxRecDepth 100000 in
theorem q_J_fill_6 {G : GG} {P : AH → Prop} {x1 : Int} {h : AH}
  (H : Go G (pV P) 277 5 [some (vR 6), some (vI x1), some (vI 0), some (vI (ob_ln 6 : Int))] [] h) :
  RunsV G 277 [vR 6, vI x1] h P := runs_of (by decide) 2 rfl (go1 ok277 900 H)
set_option maxRecDepth 100000 in
theorem q_J_fill_6_c5 {G : GG} {P : AH → Prop} {x1 x2 x3 : Int} {h : AH}
  (H : ((wI x3 ≤ wI x2 →
    P h) ∧
    (¬ wI x3 ≤ wI x2 →
    ((0 ≤ wI x2 ∧ wI x2 < (ob_ln 6 : Int)) ∧
    Go G (pV P) 277 5 [some (vR 6), some (vI x1), some (vI (x2 + 1)), some (vI x3)] [] (hs h 6 (wI x2).toNat x1))))) :
  Go G (pV P) 277 5 [some (vR 6), some (vI x1), some (vI x2), some (vI x3)] [] h := go1 ok277 900 H
-- java/util/Arrays.fill([II)V  [12]
set_option maxRecDepth 100000 in
theorem q_J_fill_12 {G : GG} {P : AH → Prop} {x1 : Int} {h : AH}
  (H : Go G (pV P) 277 5 [some (vR 12), some (vI x1), some (vI 0), some (vI (ob_ln 12 : Int))] [] h) :
  RunsV G 277 [vR 12, vI x1] h P := runs_of (by decide) 2 rfl (go1 ok277 900 H)
set_option maxRecDepth 100000 in
theorem q_J_fill_12_c5 {G : GG} {P : AH → Prop} {x1 x2 x3 : Int} {h : AH}
  (H : ((wI x3 ≤ wI x2 →
    P h) ∧
    (¬ wI x3 ≤ wI x2 →
    ((0 ≤ wI x2 ∧ wI x2 < (ob_ln 12 : Int)) ∧
    Go G (pV P) 277 5 [some (vR 12), some (vI x1), some (vI (x2 + 1)), some (vI x3)] [] (hs h 12 (wI x2).toNat x1))))) :
  Go G (pV P) 277 5 [some (vR 12), some (vI x1), some (vI x2), some (vI x3)] [] h := go1 ok277 900 H
-- java/util/Arrays.fill([II)V  [13]
set_option maxRecDepth 100000 in
theorem q_J_fill_13 {G : GG} {P : AH → Prop} {x1 : Int} {h : AH}
  (H : Go G (pV P) 277 5 [some (vR 13), some (vI x1), some (vI 0), some (vI (ob_ln 13 : Int))] [] h) :
  RunsV G 277 [vR 13, vI x1] h P := runs_of (by decide) 2 rfl (go1 ok277 900 H)
set_option maxRecDepth 100000 in
theorem q_J_fill_13_c5 {G : GG} {P : AH → Prop} {x1 x2 x3 : Int} {h : AH}
  (H : ((wI x3 ≤ wI x2 →
    P h) ∧
    (¬ wI x3 ≤ wI x2 →
    ((0 ≤ wI x2 ∧ wI x2 < (ob_ln 13 : Int)) ∧
    Go G (pV P) 277 5 [some (vR 13), some (vI x1), some (vI (x2 + 1)), some (vI x3)] [] (hs h 13 (wI x2).toNat x1))))) :
  Go G (pV P) 277 5 [some (vR 13), some (vI x1), some (vI x2), some (vI x3)] [] h := go1 ok277 900 H
-- BitmapVolume$Disk.isOctet(II)Z  []
set_option maxRecDepth 100000 in
theorem q_D_isOctet {G : GG} {P : Int → AH → Prop} {x0 x1 : Int} {h : AH}
  (H : ((wI x0 < 0 →
    (((0 : Int) = 0 ∨ (0 : Int) = 1) ∧ P 0 h)) ∧
    (¬ wI x0 < 0 →
    (((216 : Int) ≤ wI x0 →
      (((0 : Int) = 0 ∨ (0 : Int) = 1) ∧ P 0 h)) ∧
      (¬ (216 : Int) ≤ wI x0 →
      ((wI x1 < 0 →
        (((0 : Int) = 0 ∨ (0 : Int) = 1) ∧ P 0 h)) ∧
        (¬ wI x1 < 0 →
        (((64 : Int) ≤ wI x1 →
          (((0 : Int) = 0 ∨ (0 : Int) = 1) ∧ P 0 h)) ∧
          (¬ (64 : Int) ≤ wI x1 →
          (((1 : Int) = 0 ∨ (1 : Int) = 1) ∧ P 1 h)))))))))) :
  RunsI G 53 [vI x0, vI x1] h P := runs_of (by decide) 0 rfl (go1 ok53 900 H)
-- BitmapVolume$Disk.get(I)I  [1]
set_option maxRecDepth 100000 in
theorem q_D_get {G : GG} {P : Int → AH → Prop} {x1 : Int} {h : AH}
  (H : ((wI x1 < 0 →
    P 0 h) ∧
    (¬ wI x1 < 0 →
    (((13824 : Int) ≤ wI x1 →
      P 0 h) ∧
      (¬ (13824 : Int) ≤ wI x1 →
      ((0 ≤ wI x1 ∧ wI x1 < 13824) ∧
      P (h 3 (wI x1).toNat) h)))))) :
  RunsI G 54 [vR 1, vI x1] h P := runs_of (by decide) 0 rfl (go1 ok54 900 H)
-- BitmapVolume$Disk.get2(I)I  [1]
set_option maxRecDepth 100000 in
theorem q_D_get2 {G : GG} {P : Int → AH → Prop} {x1 : Int} {h : AH}
  (H : ((wI x1 < 0 →
    P 0 h) ∧
    (¬ wI x1 < 0 →
    ((wI (13824 - 1) ≤ wI x1 →
      P 0 h) ∧
      (¬ wI (13824 - 1) ≤ wI x1 →
      ((0 ≤ wI x1 ∧ wI x1 < 13824) ∧
      ((0 ≤ wI (x1 + 1) ∧ wI (x1 + 1) < 13824) ∧
      P (bO (h 3 (wI x1).toNat) (sLI (h 3 (wI (x1 + 1)).toNat) 8)) h))))))) :
  RunsI G 55 [vR 1, vI x1] h P := runs_of (by decide) 0 rfl (go1 ok55 900 H)
-- BitmapVolume$Disk.get4(I)I  [1]
set_option maxRecDepth 100000 in
theorem q_D_get4 {G : GG} {P : Int → AH → Prop} {x1 : Int} {h : AH}
  (H : ((wI x1 < 0 →
    P 0 h) ∧
    (¬ wI x1 < 0 →
    ((wI x1 < wI (13824 - 3) →
      ((0 ≤ wI x1 ∧ wI x1 < 13824) ∧
      ((0 ≤ wI (x1 + 1) ∧ wI (x1 + 1) < 13824) ∧
      ((0 ≤ wI (x1 + 2) ∧ wI (x1 + 2) < 13824) ∧
      ((0 ≤ wI (x1 + 3) ∧ wI (x1 + 3) < 13824) ∧
      P (bO (bO (bO (h 3 (wI x1).toNat) (sLI (h 3 (wI (x1 + 1)).toNat) 8)) (sLI (h 3 (wI (x1 + 2)).toNat) 16)) (sLI (h 3 (wI (x1 + 3)).toNat) 24)) h))))) ∧
      (¬ wI x1 < wI (13824 - 3) →
      P 0 h))))) :
  RunsI G 56 [vR 1, vI x1] h P := runs_of (by decide) 0 rfl (go1 ok56 900 H)
-- BitmapVolume$Disk.put(II)V  [1]
set_option maxRecDepth 100000 in
theorem q_D_put {G : GG} {P : AH → Prop} {x1 x2 : Int} {h : AH}
  (H : ((wI x1 < 0 →
    P h) ∧
    (¬ wI x1 < 0 →
    (((13824 : Int) ≤ wI x1 →
      P h) ∧
      (¬ (13824 : Int) ≤ wI x1 →
      ((0 ≤ wI x1 ∧ wI x1 < 13824) ∧
      ((64 : Int) ≠ 0 ∧ ((0 ≤ wI (Int.tdiv (wI x1) 64) ∧ wI (Int.tdiv (wI x1) 64) < 216) ∧
      (((1 : Int) = 0 ∨ (1 : Int) = 1) ∧ P (hs (hs h 3 (wI x1).toNat (bA x2 255)) 4 (wI (Int.tdiv (wI x1) 64)).toNat 1)))))))))) :
  RunsV G 57 [vR 1, vI x1, vI x2] h P := runs_of (by decide) 0 rfl (go1 ok57 900 H)
-- BitmapVolume$Disk.put2(II)V  [1]
set_option maxRecDepth 100000 in
theorem q_D_put2 {G : GG} {P : AH → Prop} {x1 x2 : Int} {h : AH}
  (H : RunsV G 57 [vR 1, vI x1, vI x2] h (fun h1 =>
  RunsV G 57 [vR 1, vI (x1 + 1), vI (sUI x2 8)] h1 (fun h2 =>
  P h2))) :
  RunsV G 58 [vR 1, vI x1, vI x2] h P := runs_of (by decide) 0 rfl (go1 ok58 900 H)
-- BitmapVolume$Disk.put4(II)V  [1]
set_option maxRecDepth 100000 in
theorem q_D_put4 {G : GG} {P : AH → Prop} {x1 x2 : Int} {h : AH}
  (H : Go G (pV P) 59 2 [some (vR 1), some (vI x1), some (vI x2), some (vI 0)] [] h) :
  RunsV G 59 [vR 1, vI x1, vI x2] h P := runs_of (by decide) 1 rfl (go1 ok59 900 H)
set_option maxRecDepth 100000 in
theorem q_D_put4_c2 {G : GG} {P : AH → Prop} {x1 x2 x3 : Int} {h : AH}
  (H : (((4 : Int) ≤ wI x3 →
    P h) ∧
    (¬ (4 : Int) ≤ wI x3 →
    RunsV G 57 [vR 1, vI (x1 + x3), vI (sUI x2 (8 * x3))] h (fun h1 =>
    Go G (pV P) 59 2 [some (vR 1), some (vI x1), some (vI x2), some (vI (x3 + 1))] [] h1)))) :
  Go G (pV P) 59 2 [some (vR 1), some (vI x1), some (vI x2), some (vI x3)] [] h := go1 ok59 900 H
-- BitmapVolume$Disk.blank(II)V  [1]
set_option maxRecDepth 100000 in
theorem q_D_blank {G : GG} {P : AH → Prop} {x1 x2 : Int} {h : AH}
  (H : Go G (pV P) 60 2 [some (vR 1), some (vI x1), some (vI x2), some (vI 0)] [] h) :
  RunsV G 60 [vR 1, vI x1, vI x2] h P := runs_of (by decide) 1 rfl (go1 ok60 900 H)
set_option maxRecDepth 100000 in
theorem q_D_blank_c2 {G : GG} {P : AH → Prop} {x1 x2 x3 : Int} {h : AH}
  (H : ((wI x2 ≤ wI x3 →
    P h) ∧
    (¬ wI x2 ≤ wI x3 →
    RunsV G 57 [vR 1, vI (x1 + x3), vI 0] h (fun h1 =>
    Go G (pV P) 60 2 [some (vR 1), some (vI x1), some (vI x2), some (vI (x3 + 1))] [] h1)))) :
  Go G (pV P) 60 2 [some (vR 1), some (vI x1), some (vI x2), some (vI x3)] [] h := go1 ok60 900 H
-- BitmapVolume$Disk.isBlank(II)Z  [1]
set_option maxRecDepth 100000 in
theorem q_D_isBlank {G : GG} {P : Int → AH → Prop} {x1 x2 : Int} {h : AH}
  (H : Go G (pI P) 61 2 [some (vR 1), none, some (vI x2), some (vI x1)] [] h) :
  RunsI G 61 [vR 1, vI x1, vI x2] h P := runs_of (by decide) 1 rfl (go1 ok61 900 H)
set_option maxRecDepth 100000 in
theorem q_D_isBlank_c2 {G : GG} {P : Int → AH → Prop} {x2 x3 : Int} {h : AH}
  (H : ((wI x2 ≤ wI x3 →
    (((1 : Int) = 0 ∨ (1 : Int) = 1) ∧ P 1 h)) ∧
    (¬ wI x2 ≤ wI x3 →
    RunsI G 54 [vR 1, vI x3] h (fun r1 h1 =>
    ((wI r1 = 0 →
      Go G (pI P) 61 2 [some (vR 1), none, some (vI x2), some (vI (x3 + 1))] [] h1) ∧
      (¬ wI r1 = 0 →
      (((0 : Int) = 0 ∨ (0 : Int) = 1) ∧ P 0 h1))))))) :
  Go G (pI P) 61 2 [some (vR 1), none, some (vI x2), some (vI x3)] [] h := go1 ok61 900 H
-- BitmapVolume$Disk.wipe()V  [1]
set_option maxRecDepth 100000 in
theorem q_D_wipe {G : GG} {P : AH → Prop} {h : AH}
  (H : RunsV G 277 [vR 3, vI 0] h (fun h1 =>
  Go G (pV P) 62 10 [some (vR 1), some (vI 0)] [] h1)) :
  RunsV G 62 [vR 1] h P := runs_of (by decide) 1 rfl (go1 ok62 900 H)
set_option maxRecDepth 100000 in
theorem q_D_wipe_c10 {G : GG} {P : AH → Prop} {x1 : Int} {h : AH}
  (H : (((216 : Int) ≤ wI x1 →
    P h) ∧
    (¬ (216 : Int) ≤ wI x1 →
    ((0 ≤ wI x1 ∧ wI x1 < 216) ∧
    (((1 : Int) = 0 ∨ (1 : Int) = 1) ∧ Go G (pV P) 62 10 [some (vR 1), some (vI (x1 + 1))] [] (hs h 4 (wI x1).toNat 1)))))) :
  Go G (pV P) 62 10 [some (vR 1), some (vI x1)] [] h := go1 ok62 900 H
-- BitmapVolume$Disk.settle()V  [1]
set_option maxRecDepth 100000 in
theorem q_D_settle {G : GG} {P : AH → Prop} {h : AH}
  (H : Go G (pV P) 63 2 [some (vR 1), some (vI 0)] [] h) :
  RunsV G 63 [vR 1] h P := runs_of (by decide) 1 rfl (go1 ok63 900 H)
set_option maxRecDepth 100000 in
theorem q_D_settle_c2 {G : GG} {P : AH → Prop} {x1 : Int} {h : AH}
  (H : (((216 : Int) ≤ wI x1 →
    P h) ∧
    (¬ (216 : Int) ≤ wI x1 →
    ((0 ≤ wI x1 ∧ wI x1 < 216) ∧
    ((wI (h 4 (wI x1).toNat) = 0 →
      ((0 ≤ wI x1 ∧ wI x1 < 216) ∧
      (((0 : Int) = 0 ∨ (0 : Int) = 1) ∧ Go G (pV P) 63 2 [some (vR 1), some (vI (x1 + 1))] [] (hs h 4 (wI x1).toNat 0)))) ∧
      (¬ wI (h 4 (wI x1).toNat) = 0 →
      ((0 ≤ wI (x1 * 64) ∧ 0 ≤ wI (x1 * 64) ∧ 0 ≤ (64 : Int) ∧ wI (x1 * 64) + (64 : Int) ≤ 13824 ∧ wI (x1 * 64) + (64 : Int) ≤ 13824) ∧
      ((0 ≤ wI x1 ∧ wI x1 < 216) ∧
      (((0 : Int) = 0 ∨ (0 : Int) = 1) ∧ Go G (pV P) 63 2 [some (vR 1), some (vI (x1 + 1))] [] (hs (hcp h 3 2 (wI (x1 * 64)).toNat (wI (x1 * 64)).toNat 64) 4 (wI x1).toNat 0)))))))))) :
  Go G (pV P) 63 2 [some (vR 1), some (vI x1)] [] h := go1 ok63 900 H
-- BitmapVolume$Disk.flush()Z  [1]
set_option maxRecDepth 100000 in
theorem q_D_flush {G : GG} {P : Int → AH → Prop} {h : AH}
  (H : RunsI G 65 [vR 1, vI 0, vI 215] h (fun r1 h1 =>
  ((r1 = 0 ∨ r1 = 1) ∧ P r1 h1))) :
  RunsI G 64 [vR 1] h P := runs_of (by decide) 0 rfl (go1 ok64 900 H)
-- BitmapVolume$Disk.flush(II)Z  [1]
set_option maxRecDepth 100000 in
theorem q_D_flush2 {G : GG} {P : Int → AH → Prop} {x1 x2 : Int} {h : AH}
  (H : Go G (pI P) 65 6 [some (vR 1), none, some (vI x2), some (vI (mm 0 x1 0))] [] h) :
  RunsI G 65 [vR 1, vI x1, vI x2] h P := runs_of (by decide) 1 rfl (go1 ok65 900 H)
set_option maxRecDepth 100000 in
theorem q_D_flush2_c6 {G : GG} {P : Int → AH → Prop} {x2 x3 : Int} {h : AH}
  (H : ((wI x2 < wI x3 →
    (((1 : Int) = 0 ∨ (1 : Int) = 1) ∧ P 1 h)) ∧
    (¬ wI x2 < wI x3 →
    (((216 : Int) ≤ wI x3 →
      (((1 : Int) = 0 ∨ (1 : Int) = 1) ∧ P 1 h)) ∧
      (¬ (216 : Int) ≤ wI x3 →
      ((0 ≤ wI x3 ∧ wI x3 < 216) ∧
      ((wI (h 4 (wI x3).toNat) = 0 →
        ((0 ≤ wI x3 ∧ wI x3 < 216) ∧
        (((0 : Int) = 0 ∨ (0 : Int) = 1) ∧ Go G (pI P) 65 6 [some (vR 1), none, some (vI x2), some (vI (x3 + 1))] [] (hs h 4 (wI x3).toNat 0)))) ∧
        (¬ wI (h 4 (wI x3).toNat) = 0 →
        RunsI G 66 [vR 1, vI x3] h (fun r1 h1 =>
        ((wI r1 = 0 →
          ((0 ≤ wI x3 ∧ wI x3 < 216) ∧
          (((0 : Int) = 0 ∨ (0 : Int) = 1) ∧ Go G (pI P) 65 6 [some (vR 1), none, some (vI x2), some (vI (x3 + 1))] [] (hs h1 4 (wI x3).toNat 0)))) ∧
          (¬ wI r1 = 0 →
          ((wI (h1 1 3) = (1 : Int) →
            RunsV G 67 [vR 1] h1 (fun h2 =>
            (((0 : Int) = 0 ∨ (0 : Int) = 1) ∧ P 0 h2))) ∧
            (¬ wI (h1 1 3) = (1 : Int) →
            ((wI (h1 1 3) ≤ 0 →
              ((0 ≤ wI (x3 * 64) ∧ 0 ≤ wI (x3 * 64) ∧ 0 ≤ (64 : Int) ∧ wI (x3 * 64) + (64 : Int) ≤ 13824 ∧ wI (x3 * 64) + (64 : Int) ≤ 13824) ∧
              ((0 ≤ wI x3 ∧ wI x3 < 216) ∧
              (((0 : Int) = 0 ∨ (0 : Int) = 1) ∧ Go G (pI P) 65 6 [some (vR 1), none, some (vI x2), some (vI (x3 + 1))] [] (hs (hs (hcp h1 3 2 (wI (x3 * 64)).toNat (wI (x3 * 64)).toNat 64) 1 4 (((hcp h1 3 2 (wI (x3 * 64)).toNat (wI (x3 * 64)).toNat 64) 1 4) + 1)) 4 (wI x3).toNat 0))))) ∧
              (¬ wI (h1 1 3) ≤ 0 →
              ((0 ≤ wI (x3 * 64) ∧ 0 ≤ wI (x3 * 64) ∧ 0 ≤ (64 : Int) ∧ wI (x3 * 64) + (64 : Int) ≤ 13824 ∧ wI (x3 * 64) + (64 : Int) ≤ 13824) ∧
              ((0 ≤ wI x3 ∧ wI x3 < 216) ∧
              (((0 : Int) = 0 ∨ (0 : Int) = 1) ∧ Go G (pI P) 65 6 [some (vR 1), none, some (vI x2), some (vI (x3 + 1))] [] (hs (hs (hcp (hs h1 1 3 ((h1 1 3) - 1)) 3 2 (wI (x3 * 64)).toNat (wI (x3 * 64)).toNat 64) 1 4 (((hcp (hs h1 1 3 ((h1 1 3) - 1)) 3 2 (wI (x3 * 64)).toNat (wI (x3 * 64)).toNat 64) 1 4) + 1)) 4 (wI x3).toNat 0))))))))))))))))))) :
  Go G (pI P) 65 6 [some (vR 1), none, some (vI x2), some (vI x3)] [] h := go1 ok65 900 H
-- BitmapVolume$Disk.differs(I)Z  [1]
set_option maxRecDepth 100000 in
theorem q_D_differs {G : GG} {P : Int → AH → Prop} {x1 : Int} {h : AH}
  (H : Go G (pI P) 66 5 [some (vR 1), some (vI x1), some (vI (x1 * 64))] [] h) :
  RunsI G 66 [vR 1, vI x1] h P := runs_of (by decide) 1 rfl (go1 ok66 900 H)
set_option maxRecDepth 100000 in
theorem q_D_differs_c5 {G : GG} {P : Int → AH → Prop} {x1 x2 : Int} {h : AH}
  (H : ((wI ((x1 + 1) * 64) ≤ wI x2 →
    (((0 : Int) = 0 ∨ (0 : Int) = 1) ∧ P 0 h)) ∧
    (¬ wI ((x1 + 1) * 64) ≤ wI x2 →
    (((13824 : Int) ≤ wI x2 →
      (((0 : Int) = 0 ∨ (0 : Int) = 1) ∧ P 0 h)) ∧
      (¬ (13824 : Int) ≤ wI x2 →
      ((0 ≤ wI x2 ∧ wI x2 < 13824) ∧
      ((0 ≤ wI x2 ∧ wI x2 < 13824) ∧
      ((wI (h 3 (wI x2).toNat) = wI (h 2 (wI x2).toNat) →
        Go G (pI P) 66 5 [some (vR 1), some (vI x1), some (vI (x2 + 1))] [] h) ∧
        (¬ wI (h 3 (wI x2).toNat) = wI (h 2 (wI x2).toNat) →
        (((1 : Int) = 0 ∨ (1 : Int) = 1) ∧ P 1 h)))))))))) :
  Go G (pI P) 66 5 [some (vR 1), some (vI x1), some (vI x2)] [] h := go1 ok66 900 H
-- BitmapVolume$Disk.forget()V  [1]
set_option maxRecDepth 100000 in
theorem q_D_forget {G : GG} {P : AH → Prop} {h : AH}
  (H : Go G (pV P) 67 7 [some (vR 1), some (vI 0)] [] (hs h 1 3 0)) :
  RunsV G 67 [vR 1] h P := runs_of (by decide) 1 rfl (go1 ok67 900 H)
set_option maxRecDepth 100000 in
theorem q_D_forget_c7 {G : GG} {P : AH → Prop} {x1 : Int} {h : AH}
  (H : (((216 : Int) ≤ wI x1 →
    P h) ∧
    (¬ (216 : Int) ≤ wI x1 →
    ((0 ≤ wI x1 ∧ wI x1 < 216) ∧
    ((wI (h 4 (wI x1).toNat) = 0 →
      ((0 ≤ wI x1 ∧ wI x1 < 216) ∧
      (((0 : Int) = 0 ∨ (0 : Int) = 1) ∧ Go G (pV P) 67 7 [some (vR 1), some (vI (x1 + 1))] [] (hs h 4 (wI x1).toNat 0)))) ∧
      (¬ wI (h 4 (wI x1).toNat) = 0 →
      ((0 ≤ wI (x1 * 64) ∧ 0 ≤ wI (x1 * 64) ∧ 0 ≤ (64 : Int) ∧ wI (x1 * 64) + (64 : Int) ≤ 13824 ∧ wI (x1 * 64) + (64 : Int) ≤ 13824) ∧
      ((0 ≤ wI x1 ∧ wI x1 < 216) ∧
      (((0 : Int) = 0 ∨ (0 : Int) = 1) ∧ Go G (pV P) 67 7 [some (vR 1), some (vI (x1 + 1))] [] (hs (hcp h 2 3 (wI (x1 * 64)).toNat (wI (x1 * 64)).toNat 64) 4 (wI x1).toNat 0)))))))))) :
  Go G (pV P) 67 7 [some (vR 1), some (vI x1)] [] h := go1 ok67 900 H
-- BitmapVolume$Name.at(I)I  [22]
set_option maxRecDepth 100000 in
theorem q_N_at_22 {G : GG} {P : Int → AH → Prop} {x1 : Int} {h : AH}
  (H : ((wI x1 < 0 →
    P 0 h) ∧
    (¬ wI x1 < 0 →
    ((wI (h 22 1) ≤ wI x1 →
      P 0 h) ∧
      (¬ wI (h 22 1) ≤ wI x1 →
      (((30 : Int) ≤ wI x1 →
        P 0 h) ∧
        (¬ (30 : Int) ≤ wI x1 →
        ((0 ≤ wI x1 ∧ wI x1 < 30) ∧
        P (h 23 (wI x1).toNat) h)))))))) :
  RunsI G 74 [vR 22, vI x1] h P := runs_of (by decide) 0 rfl (go1 ok74 900 H)
-- BitmapVolume$Name.at(I)I  [32]
set_option maxRecDepth 100000 in
theorem q_N_at_32 {G : GG} {P : Int → AH → Prop} {x1 : Int} {h : AH}
  (H : ((wI x1 < 0 →
    P 0 h) ∧
    (¬ wI x1 < 0 →
    ((wI (h 32 1) ≤ wI x1 →
      P 0 h) ∧
      (¬ wI (h 32 1) ≤ wI x1 →
      (((30 : Int) ≤ wI x1 →
        P 0 h) ∧
        (¬ (30 : Int) ≤ wI x1 →
        ((0 ≤ wI x1 ∧ wI x1 < 30) ∧
        P (h 33 (wI x1).toNat) h)))))))) :
  RunsI G 74 [vR 32, vI x1] h P := runs_of (by decide) 0 rfl (go1 ok74 900 H)
-- BitmapVolume$Name.append(J)Z  [32]
set_option maxRecDepth 100000 in
theorem q_N_append {G : GG} {P : Int → AH → Prop} {y1 : Int} {h : AH}
  (H : Go G (pI P) 75 5 [some (vR 32), some (vL y1), none, some (vI 0), some (vI 0)] [] h) :
  RunsI G 75 [vR 32, vL y1] h P := runs_of (by decide) 2 rfl (go1 ok75 900 H)
set_option maxRecDepth 100000 in
theorem q_N_append_c5 {G : GG} {P : Int → AH → Prop} {y1 x3 x4 : Int} {h : AH}
  (H : (((4 : Int) ≤ wI x4 →
    ((wI ((h 32 1) + x3) ≤ (30 : Int) →
      Go G (pI P) 75 55 [some (vR 32), some (vL y1), none, none, some (vI 0)] [] h) ∧
      (¬ wI ((h 32 1) + x3) ≤ (30 : Int) →
      (((0 : Int) = 0 ∨ (0 : Int) = 1) ∧ P 0 h)))) ∧
    (¬ (4 : Int) ≤ wI x4 →
    ((wL (bAL (sUL y1 (16 * x4)) 65535) = (0 : Int) →
      Go G (pI P) 75 5 [some (vR 32), some (vL y1), none, some (vI x3), some (vI (x4 + 1))] [] h) ∧
      (¬ wL (bAL (sUL y1 (16 * x4)) 65535) = (0 : Int) →
      Go G (pI P) 75 5 [some (vR 32), some (vL y1), none, some (vI (x3 + 1)), some (vI (x4 + 1))] [] h))))) :
  Go G (pI P) 75 5 [some (vR 32), some (vL y1), none, some (vI x3), some (vI x4)] [] h := go1 ok75 900 H
set_option maxRecDepth 100000 in
theorem q_N_append_c55 {G : GG} {P : Int → AH → Prop} {y1 x4 : Int} {h : AH}
  (H : (((4 : Int) ≤ wI x4 →
    (((1 : Int) = 0 ∨ (1 : Int) = 1) ∧ P 1 h)) ∧
    (¬ (4 : Int) ≤ wI x4 →
    RunsV G 76 [vR 32, vI (bAL (sUL y1 (16 * x4)) 65535)] h (fun h1 =>
    Go G (pI P) 75 55 [some (vR 32), some (vL y1), none, none, some (vI (x4 + 1))] [] h1)))) :
  Go G (pI P) 75 55 [some (vR 32), some (vL y1), none, none, some (vI x4)] [] h := go1 ok75 900 H
-- BitmapVolume$Name.add(I)V  [32]
set_option maxRecDepth 100000 in
theorem q_N_add {G : GG} {P : AH → Prop} {x1 : Int} {h : AH}
  (H : ((wI x1 = 0 →
    P h) ∧
    (¬ wI x1 = 0 →
    (((30 : Int) ≤ wI (h 32 1) →
      P h) ∧
      (¬ (30 : Int) ≤ wI (h 32 1) →
      ((0 ≤ wI (h 32 1) ∧ wI (h 32 1) < 30) ∧
      P (hs (hs h 32 1 ((h 32 1) + 1)) 33 (wI (h 32 1)).toNat x1))))))) :
  RunsV G 76 [vR 32, vI x1] h P := runs_of (by decide) 0 rfl (go1 ok76 900 H)
-- BitmapVolume$Name.isRight()Z  [22]
set_option maxRecDepth 100000 in
theorem q_N_isRight_22 {G : GG} {P : Int → AH → Prop} {h : AH}
  (H : (((1 : Int) ≤ wI (h 22 1) →
    Go G (pI P) 77 12 [some (vR 22), some (vI 0)] [] h) ∧
    (¬ (1 : Int) ≤ wI (h 22 1) →
    (((0 : Int) = 0 ∨ (0 : Int) = 1) ∧ P 0 h)))) :
  RunsI G 77 [vR 22] h P := runs_of (by decide) 1 rfl (go1 ok77 900 H)
set_option maxRecDepth 100000 in
theorem q_N_isRight_22_c12 {G : GG} {P : Int → AH → Prop} {x1 : Int} {h : AH}
  (H : ((wI (h 22 1) ≤ wI x1 →
    RunsI G 74 [vR 22, vI ((h 22 1) - 1)] h (fun r1 h1 =>
    ((wI r1 = (32 : Int) →
      (((0 : Int) = 0 ∨ (0 : Int) = 1) ∧ P 0 h1)) ∧
      (¬ wI r1 = (32 : Int) →
      RunsI G 74 [vR 22, vI ((h1 22 1) - 1)] h1 (fun r2 h2 =>
      ((wI r2 = (46 : Int) →
        (((0 : Int) = 0 ∨ (0 : Int) = 1) ∧ P 0 h2)) ∧
        (¬ wI r2 = (46 : Int) →
        (((1 : Int) = 0 ∨ (1 : Int) = 1) ∧ P 1 h2)))))))) ∧
    (¬ wI (h 22 1) ≤ wI x1 →
    RunsI G 74 [vR 22, vI x1] h (fun r3 h3 =>
    RunsI G 78 [vI r3] h3 (fun r4 h4 =>
    ((wI r4 = 0 →
      (((0 : Int) = 0 ∨ (0 : Int) = 1) ∧ P 0 h4)) ∧
      (¬ wI r4 = 0 →
      Go G (pI P) 77 12 [some (vR 22), some (vI (x1 + 1))] [] h4))))))) :
  Go G (pI P) 77 12 [some (vR 22), some (vI x1)] [] h := go1 ok77 900 H
-- BitmapVolume$Name.isRight()Z  [32]
set_option maxRecDepth 100000 in
theorem q_N_isRight_32 {G : GG} {P : Int → AH → Prop} {h : AH}
  (H : (((1 : Int) ≤ wI (h 32 1) →
    Go G (pI P) 77 12 [some (vR 32), some (vI 0)] [] h) ∧
    (¬ (1 : Int) ≤ wI (h 32 1) →
    (((0 : Int) = 0 ∨ (0 : Int) = 1) ∧ P 0 h)))) :
  RunsI G 77 [vR 32] h P := runs_of (by decide) 1 rfl (go1 ok77 900 H)
set_option maxRecDepth 100000 in
theorem q_N_isRight_32_c12 {G : GG} {P : Int → AH → Prop} {x1 : Int} {h : AH}
  (H : ((wI (h 32 1) ≤ wI x1 →
    RunsI G 74 [vR 32, vI ((h 32 1) - 1)] h (fun r1 h1 =>
    ((wI r1 = (32 : Int) →
      (((0 : Int) = 0 ∨ (0 : Int) = 1) ∧ P 0 h1)) ∧
      (¬ wI r1 = (32 : Int) →
      RunsI G 74 [vR 32, vI ((h1 32 1) - 1)] h1 (fun r2 h2 =>
      ((wI r2 = (46 : Int) →
        (((0 : Int) = 0 ∨ (0 : Int) = 1) ∧ P 0 h2)) ∧
        (¬ wI r2 = (46 : Int) →
        (((1 : Int) = 0 ∨ (1 : Int) = 1) ∧ P 1 h2)))))))) ∧
    (¬ wI (h 32 1) ≤ wI x1 →
    RunsI G 74 [vR 32, vI x1] h (fun r3 h3 =>
    RunsI G 78 [vI r3] h3 (fun r4 h4 =>
    ((wI r4 = 0 →
      (((0 : Int) = 0 ∨ (0 : Int) = 1) ∧ P 0 h4)) ∧
      (¬ wI r4 = 0 →
      Go G (pI P) 77 12 [some (vR 32), some (vI (x1 + 1))] [] h4))))))) :
  Go G (pI P) 77 12 [some (vR 32), some (vI x1)] [] h := go1 ok77 900 H
-- BitmapVolume$Name.isLetter(I)Z  []
set_option maxRecDepth 100000 in
theorem q_N_isLetter {G : GG} {P : Int → AH → Prop} {x0 : Int} {h : AH}
  (H : ((wI x0 = 34 → (((0 : Int) = 0 ∨ (0 : Int) = 1) ∧ P 0 h)) ∧
    (¬ wI x0 = 34 → ((wI x0 = 42 → (((0 : Int) = 0 ∨ (0 : Int) = 1) ∧ P 0 h)) ∧
    (¬ wI x0 = 42 → ((wI x0 = 47 → (((0 : Int) = 0 ∨ (0 : Int) = 1) ∧ P 0 h)) ∧
    (¬ wI x0 = 47 → ((wI x0 = 58 → (((0 : Int) = 0 ∨ (0 : Int) = 1) ∧ P 0 h)) ∧
    (¬ wI x0 = 58 → ((wI x0 = 60 → (((0 : Int) = 0 ∨ (0 : Int) = 1) ∧ P 0 h)) ∧
    (¬ wI x0 = 60 → ((wI x0 = 62 → (((0 : Int) = 0 ∨ (0 : Int) = 1) ∧ P 0 h)) ∧
    (¬ wI x0 = 62 → ((wI x0 = 63 → (((0 : Int) = 0 ∨ (0 : Int) = 1) ∧ P 0 h)) ∧
    (¬ wI x0 = 63 → ((wI x0 = 92 → (((0 : Int) = 0 ∨ (0 : Int) = 1) ∧ P 0 h)) ∧
    (¬ wI x0 = 92 → ((wI x0 = 124 → (((0 : Int) = 0 ∨ (0 : Int) = 1) ∧ P 0 h)) ∧
    (¬ wI x0 = 124 → ((wI x0 < (32 : Int) →
      ((wI x0 < (160 : Int) →
        (((0 : Int) = 0 ∨ (0 : Int) = 1) ∧ P 0 h)) ∧
        (¬ wI x0 < (160 : Int) →
        (((255 : Int) < wI x0 →
          (((0 : Int) = 0 ∨ (0 : Int) = 1) ∧ P 0 h)) ∧
          (¬ (255 : Int) < wI x0 →
          (((1 : Int) = 0 ∨ (1 : Int) = 1) ∧ P 1 h)))))) ∧
      (¬ wI x0 < (32 : Int) →
      ((wI x0 ≤ (126 : Int) →
        (((1 : Int) = 0 ∨ (1 : Int) = 1) ∧ P 1 h)) ∧
        (¬ wI x0 ≤ (126 : Int) →
        ((wI x0 < (160 : Int) →
          (((0 : Int) = 0 ∨ (0 : Int) = 1) ∧ P 0 h)) ∧
          (¬ wI x0 < (160 : Int) →
          (((255 : Int) < wI x0 →
            (((0 : Int) = 0 ∨ (0 : Int) = 1) ∧ P 0 h)) ∧
            (¬ (255 : Int) < wI x0 →
            (((1 : Int) = 0 ∨ (1 : Int) = 1) ∧ P 1 h)))))))))))))))))))))))))))) :
  RunsI G 78 [vI x0] h P := runs_of (by decide) 0 rfl (go1 ok78 900 H)
-- BitmapVolume$Name.entriesOf(I)I  []
set_option maxRecDepth 100000 in
theorem q_N_entriesOf {G : GG} {P : Int → AH → Prop} {x0 : Int} {h : AH}
  (H : ((15 : Int) ≠ 0 ∧ P (2 + (Int.tdiv (wI (x0 + 14)) 15)) h)) :
  RunsI G 79 [vI x0] h P := runs_of (by decide) 0 rfl (go1 ok79 900 H)
-- BitmapVolume$Boot.draw(IIIII)V  [5]
set_option maxRecDepth 100000 in
theorem q_B_draw {G : GG} {P : AH → Prop} {x1 x2 x3 x4 x5 : Int} {h : AH}
  (H : RunsV G 277 [vR 6, vI 0] h (fun h1 =>
  Go G (pV P) 13 11 [some (vR 5), some (vI x1), some (vI x2), some (vI x3), some (vI x4), some (vI x5), some (vI 0), none] [] h1)) :
  RunsV G 13 [vR 5, vI x1, vI x2, vI x3, vI x4, vI x5] h P := runs_of (by decide) 2 rfl (go1 ok13 900 H)
set_option maxRecDepth 100000 in
theorem q_B_draw_c11 {G : GG} {P : AH → Prop} {x1 x2 x3 x4 x5 x6 : Int} {h : AH}
  (H : (((3 : Int) ≤ wI x6 →
    RunsV G 14 [vR 5, vI 0, vI 1167095531] h (fun h1 =>
    RunsV G 14 [vR 5, vI 4, vI 1413563992] h1 (fun h2 =>
    RunsV G 14 [vR 5, vI 8, vI 2105376] h2 (fun h3 =>
    RunsV G 14 [vR 5, vI 16, vI (16 + (2 * x1))] h3 (fun h4 =>
    RunsV G 14 [vR 5, vI 20, vI 8] h4 (fun h5 =>
    RunsV G 14 [vR 5, vI 24, vI 7] h5 (fun h6 =>
    RunsV G 14 [vR 5, vI 28, vI 16] h6 (fun h7 =>
    RunsV G 14 [vR 5, vI 32, vI x1] h7 (fun h8 =>
    RunsV G 14 [vR 5, vI 36, vI x2] h8 (fun h9 =>
    RunsV G 14 [vR 5, vI 40, vI x3] h9 (fun h10 =>
    ((0 ≤ (44 : Int) ∧ (44 : Int) < 256) ∧
    ((0 ≤ (46 : Int) ∧ (46 : Int) < 256) ∧
    ((0 ≤ (47 : Int) ∧ (47 : Int) < 256) ∧
    ((0 ≤ (48 : Int) ∧ (48 : Int) < 256) ∧
    ((0 ≤ (49 : Int) ∧ (49 : Int) < 256) ∧
    RunsI G 15 [vR 5] (hs (hs (hs (hs (hs h10 6 44 x4) 6 46 6) 6 47 1) 6 48 1) 6 49 x5) (fun r11 h11 =>
    Go G (pV P) 13 185 [some (vR 5), none, none, none, none, none, some (vI r11), some (vI 0)] [] h11))))))))))))))))) ∧
    (¬ (3 : Int) ≤ wI x6 →
    ((0 ≤ wI ((x6 * 64) + 62) ∧ wI ((x6 * 64) + 62) < 256) ∧
    ((0 ≤ wI ((x6 * 64) + 63) ∧ wI ((x6 * 64) + 63) < 256) ∧
    Go G (pV P) 13 11 [some (vR 5), some (vI x1), some (vI x2), some (vI x3), some (vI x4), some (vI x5), some (vI (x6 + 1)), none] [] (hs (hs h 6 (wI ((x6 * 64) + 62)).toNat 85) 6 (wI ((x6 * 64) + 63)).toNat 170)))))) :
  Go G (pV P) 13 11 [some (vR 5), some (vI x1), some (vI x2), some (vI x3), some (vI x4), some (vI x5), some (vI x6), none] [] h := go1 ok13 900 H
set_option maxRecDepth 100000 in
theorem q_B_draw_c185 {G : GG} {P : AH → Prop} {x6 x7 : Int} {h : AH}
  (H : (((64 : Int) ≤ wI x7 →
    P h) ∧
    (¬ (64 : Int) ≤ wI x7 →
    RunsV G 14 [vR 5, vI (192 + x7), vI x6] h (fun h1 =>
    Go G (pV P) 13 185 [some (vR 5), none, none, none, none, none, some (vI x6), some (vI (x7 + 4))] [] h1)))) :
  Go G (pV P) 13 185 [some (vR 5), none, none, none, none, none, some (vI x6), some (vI x7)] [] h := go1 ok13 900 H
-- BitmapVolume$Boot.draw4(II)V  [5]
set_option maxRecDepth 100000 in
theorem q_B_draw4 {G : GG} {P : AH → Prop} {x1 x2 : Int} {h : AH}
  (H : Go G (pV P) 14 2 [some (vR 5), some (vI x1), some (vI x2), some (vI 0)] [] h) :
  RunsV G 14 [vR 5, vI x1, vI x2] h P := runs_of (by decide) 1 rfl (go1 ok14 900 H)
set_option maxRecDepth 100000 in
theorem q_B_draw4_c2 {G : GG} {P : AH → Prop} {x1 x2 x3 : Int} {h : AH}
  (H : (((4 : Int) ≤ wI x3 →
    P h) ∧
    (¬ (4 : Int) ≤ wI x3 →
    (((256 : Int) ≤ wI (x1 + x3) →
      P h) ∧
      (¬ (256 : Int) ≤ wI (x1 + x3) →
      ((0 ≤ wI (x1 + x3) ∧ wI (x1 + x3) < 256) ∧
      Go G (pV P) 14 2 [some (vR 5), some (vI x1), some (vI x2), some (vI (x3 + 1))] [] (hs h 6 (wI (x1 + x3)).toNat (bA (sUI x2 (8 * x3)) 255)))))))) :
  Go G (pV P) 14 2 [some (vR 5), some (vI x1), some (vI x2), some (vI x3)] [] h := go1 ok14 900 H
-- BitmapVolume$Boot.sumOfThree()I  [5]
set_option maxRecDepth 100000 in
theorem q_B_sumOfThree {G : GG} {P : Int → AH → Prop} {h : AH}
  (H : Go G (pI P) 15 4 [some (vR 5), some (vI 0), some (vI 0)] [] h) :
  RunsI G 15 [vR 5] h P := runs_of (by decide) 2 rfl (go1 ok15 900 H)
set_option maxRecDepth 100000 in
theorem q_B_sumOfThree_c4 {G : GG} {P : Int → AH → Prop} {x1 x2 : Int} {h : AH}
  (H : (((192 : Int) ≤ wI x2 →
    P x1 h) ∧
    (¬ (192 : Int) ≤ wI x2 →
    ((wI x2 = (44 : Int) →
      Go G (pI P) 15 4 [some (vR 5), some (vI x1), some (vI (x2 + 1))] [] h) ∧
      (¬ wI x2 = (44 : Int) →
      ((wI x2 = (45 : Int) →
        Go G (pI P) 15 4 [some (vR 5), some (vI x1), some (vI (x2 + 1))] [] h) ∧
        (¬ wI x2 = (45 : Int) →
        ((wI x2 = (49 : Int) →
          Go G (pI P) 15 4 [some (vR 5), some (vI x1), some (vI (x2 + 1))] [] h) ∧
          (¬ wI x2 = (49 : Int) →
          ((0 ≤ wI x2 ∧ wI x2 < 256) ∧
          Go G (pI P) 15 4 [some (vR 5), some (vI ((bO (sUI x1 1) (sLI x1 31)) + (h 6 (wI x2).toNat))), some (vI (x2 + 1))] [] h)))))))))) :
  Go G (pI P) 15 4 [some (vR 5), some (vI x1), some (vI x2)] [] h := go1 ok15 900 H
-- BitmapVolume$Boot.lay(I)V  [5]
set_option maxRecDepth 100000 in
theorem q_B_lay {G : GG} {P : AH → Prop} {x1 : Int} {h : AH}
  (H : Go G (pV P) 16 2 [some (vR 5), some (vI x1), some (vI 0)] [] h) :
  RunsV G 16 [vR 5, vI x1] h P := runs_of (by decide) 1 rfl (go1 ok16 900 H)
set_option maxRecDepth 100000 in
theorem q_B_lay_c2 {G : GG} {P : AH → Prop} {x1 x2 : Int} {h : AH}
  (H : (((256 : Int) ≤ wI x2 →
    P h) ∧
    (¬ (256 : Int) ≤ wI x2 →
    ((0 ≤ wI x2 ∧ wI x2 < 256) ∧
    RunsV G 57 [vR 1, vI (x1 + x2), vI (h 6 (wI x2).toNat)] h (fun h1 =>
    Go G (pV P) 16 2 [some (vR 5), some (vI x1), some (vI (x2 + 1))] [] h1))))) :
  Go G (pV P) 16 2 [some (vR 5), some (vI x1), some (vI x2)] [] h := go1 ok16 900 H
-- BitmapVolume$Boot.isRight(I)Z  [5]
set_option maxRecDepth 100000 in
theorem q_B_isRight {G : GG} {P : Int → AH → Prop} {x1 : Int} {h : AH}
  (H : RunsI G 56 [vR 1, vI (x1 + 32)] h (fun r1 h1 =>
  ((wI r1 < (16 : Int) →
    (((0 : Int) = 0 ∨ (0 : Int) = 1) ∧ P 0 h1)) ∧
    (¬ wI r1 < (16 : Int) →
    ((wI r1 ≤ (100 : Int) →
      RunsI G 56 [vR 1, vI (x1 + 36)] h1 (fun r2 h2 =>
      ((wI r2 < (2 : Int) →
        (((0 : Int) = 0 ∨ (0 : Int) = 1) ∧ P 0 h2)) ∧
        (¬ wI r2 < (2 : Int) →
        ((wI r2 ≤ wI (r1 + 1) →
          RunsI G 55 [vR 1, vI (x1 + 44)] h2 (fun r3 h3 =>
          ((wI r3 = 0 →
            Go G (pI P) 17 78 [some (vR 5), some (vI x1), some (vI r1), some (vI r2), some (vI r3), none, none] [] h3) ∧
            (¬ wI r3 = 0 →
            ((wI r3 = (2 : Int) →
              Go G (pI P) 17 78 [some (vR 5), some (vI x1), some (vI r1), some (vI r2), some (vI r3), none, none] [] h3) ∧
              (¬ wI r3 = (2 : Int) →
              (((0 : Int) = 0 ∨ (0 : Int) = 1) ∧ P 0 h3))))))) ∧
          (¬ wI r2 ≤ wI (r1 + 1) →
          (((0 : Int) = 0 ∨ (0 : Int) = 1) ∧ P 0 h2))))))) ∧
      (¬ wI r1 ≤ (100 : Int) →
      (((0 : Int) = 0 ∨ (0 : Int) = 1) ∧ P 0 h1))))))) :
  RunsI G 17 [vR 5, vI x1] h P := runs_of (by decide) 5 rfl (go1 ok17 900 H)
set_option maxRecDepth 100000 in
theorem q_B_isRight_c78 {G : GG} {P : Int → AH → Prop} {x1 x2 x3 x4 : Int} {h : AH}
  (H : RunsI G 54 [vR 1, vI (x1 + 49)] h (fun r1 h1 =>
  ((wI r1 ≤ (100 : Int) →
    RunsI G 56 [vR 1, vI (x1 + 40)] h1 (fun r2 h2 =>
    RunsV G 13 [vR 5, vI x2, vI x3, vI r2, vI x4, vI r1] h2 (fun h3 =>
    Go G (pI P) 17 132 [some (vR 5), some (vI x1), none, none, none, none, some (vI 0)] [] h3))) ∧
    (¬ wI r1 ≤ (100 : Int) →
    ((wI r1 = (255 : Int) →
      RunsI G 56 [vR 1, vI (x1 + 40)] h1 (fun r4 h4 =>
      RunsV G 13 [vR 5, vI x2, vI x3, vI r4, vI x4, vI r1] h4 (fun h5 =>
      Go G (pI P) 17 132 [some (vR 5), some (vI x1), none, none, none, none, some (vI 0)] [] h5))) ∧
      (¬ wI r1 = (255 : Int) →
      (((0 : Int) = 0 ∨ (0 : Int) = 1) ∧ P 0 h1))))))) :
  Go G (pI P) 17 78 [some (vR 5), some (vI x1), some (vI x2), some (vI x3), some (vI x4), none, none] [] h := go1 ok17 900 H
set_option maxRecDepth 100000 in
theorem q_B_isRight_c132 {G : GG} {P : Int → AH → Prop} {x1 x6 : Int} {h : AH}
  (H : (((256 : Int) ≤ wI x6 →
    (((1 : Int) = 0 ∨ (1 : Int) = 1) ∧ P 1 h)) ∧
    (¬ (256 : Int) ≤ wI x6 →
    RunsI G 54 [vR 1, vI (x1 + x6)] h (fun r1 h1 =>
    ((0 ≤ wI x6 ∧ wI x6 < 256) ∧
    ((wI r1 = wI (h1 6 (wI x6).toNat) →
      Go G (pI P) 17 132 [some (vR 5), some (vI x1), none, none, none, none, some (vI (x6 + 1))] [] h1) ∧
      (¬ wI r1 = wI (h1 6 (wI x6).toNat) →
      (((0 : Int) = 0 ∨ (0 : Int) = 1) ∧ P 0 h1)))))))) :
  Go G (pI P) 17 132 [some (vR 5), some (vI x1), none, none, none, none, some (vI x6)] [] h := go1 ok17 900 H
-- BitmapVolume$Space.address(I)I  []
set_option maxRecDepth 100000 in
theorem q_S_address {G : GG} {P : Int → AH → Prop} {x0 : Int} {h : AH}
  (H : P (1024 + (128 * (x0 - 2))) h) :
  RunsI G 109 [vI x0] h P := runs_of (by decide) 0 rfl (go1 ok109 900 H)
-- BitmapVolume$Space.isCluster(I)Z  [7]
set_option maxRecDepth 100000 in
theorem q_S_isCluster {G : GG} {P : Int → AH → Prop} {x1 : Int} {h : AH}
  (H : ((wI x1 < (2 : Int) →
    (((0 : Int) = 0 ∨ (0 : Int) = 1) ∧ P 0 h)) ∧
    (¬ wI x1 < (2 : Int) →
    ((wI ((h 7 1) + 1) < wI x1 →
      (((0 : Int) = 0 ∨ (0 : Int) = 1) ∧ P 0 h)) ∧
      (¬ wI ((h 7 1) + 1) < wI x1 →
      (((1 : Int) = 0 ∨ (1 : Int) = 1) ∧ P 1 h)))))) :
  RunsI G 110 [vR 7, vI x1] h P := runs_of (by decide) 0 rfl (go1 ok110 900 H)
-- BitmapVolume$Space.fat(I)I  [7]
set_option maxRecDepth 100000 in
theorem q_S_fat {G : GG} {P : Int → AH → Prop} {x1 : Int} {h : AH}
  (H : RunsI G 56 [vR 1, vI (512 + (4 * x1))] h (fun r1 h1 =>
  P r1 h1)) :
  RunsI G 111 [vR 7, vI x1] h P := runs_of (by decide) 0 rfl (go1 ok111 900 H)
-- BitmapVolume$Space.setFat(II)V  [7]
set_option maxRecDepth 100000 in
theorem q_S_setFat {G : GG} {P : AH → Prop} {x1 x2 : Int} {h : AH}
  (H : RunsI G 110 [vR 7, vI x1] h (fun r1 h1 =>
  ((wI r1 = 0 →
    P h1) ∧
    (¬ wI r1 = 0 →
    RunsV G 59 [vR 1, vI (512 + (4 * x1)), vI x2] h1 (fun h2 =>
    P h2))))) :
  RunsV G 112 [vR 7, vI x1, vI x2] h P := runs_of (by decide) 0 rfl (go1 ok112 900 H)
-- BitmapVolume$Space.isTaken(I)Z  [7]
set_option maxRecDepth 100000 in
theorem q_S_isTaken {G : GG} {P : Int → AH → Prop} {x1 : Int} {h : AH}
  (H : RunsI G 109 [vI (h 7 3)] h (fun r1 h1 =>
  ((8 : Int) ≠ 0 ∧ RunsI G 54 [vR 1, vI (r1 + (Int.tdiv (wI (x1 - 2)) 8))] h1 (fun r2 h2 =>
  ((8 : Int) ≠ 0 ∧ ((wI (bA (sRI r2 (Int.tmod (wI (x1 - 2)) 8)) 1) = 0 →
    (((0 : Int) = 0 ∨ (0 : Int) = 1) ∧ P 0 h2)) ∧
    (¬ wI (bA (sRI r2 (Int.tmod (wI (x1 - 2)) 8)) 1) = 0 →
    (((1 : Int) = 0 ∨ (1 : Int) = 1) ∧ P 1 h2)))))))) :
  RunsI G 113 [vR 7, vI x1] h P := runs_of (by decide) 0 rfl (go1 ok113 900 H)
-- BitmapVolume$Space.setTaken(IZ)V  [7]
set_option maxRecDepth 100000 in
theorem q_S_setTaken {G : GG} {P : AH → Prop} {x1 x2 : Int} {h : AH}
  (H : RunsI G 110 [vR 7, vI x1] h (fun r1 h1 =>
  ((wI r1 = 0 →
    P h1) ∧
    (¬ wI r1 = 0 →
    RunsI G 109 [vI (h1 7 3)] h1 (fun r2 h2 =>
    ((8 : Int) ≠ 0 ∧ ((8 : Int) ≠ 0 ∧ ((wI x2 = 0 →
      RunsI G 54 [vR 1, vI (r2 + (Int.tdiv (wI (x1 - 2)) 8))] h2 (fun r3 h3 =>
      RunsV G 57 [vR 1, vI (r2 + (Int.tdiv (wI (x1 - 2)) 8)), vI (bA r3 (bX (sLI 1 (Int.tmod (wI (x1 - 2)) 8)) (-1)))] h3 (fun h4 =>
      P h4))) ∧
      (¬ wI x2 = 0 →
      RunsI G 54 [vR 1, vI (r2 + (Int.tdiv (wI (x1 - 2)) 8))] h2 (fun r5 h5 =>
      RunsV G 57 [vR 1, vI (r2 + (Int.tdiv (wI (x1 - 2)) 8)), vI (bO r5 (sLI 1 (Int.tmod (wI (x1 - 2)) 8)))] h5 (fun h6 =>
      P h6))))))))))) :
  RunsV G 114 [vR 7, vI x1, vI x2] h P := runs_of (by decide) 2 rfl (go1 ok114 900 H)
-- BitmapVolume$Space.isFree(I)Z  [7]
set_option maxRecDepth 100000 in
theorem q_S_isFree {G : GG} {P : Int → AH → Prop} {x1 : Int} {h : AH}
  (H : RunsI G 110 [vR 7, vI x1] h (fun r1 h1 =>
  ((wI r1 = 0 →
    (((0 : Int) = 0 ∨ (0 : Int) = 1) ∧ P 0 h1)) ∧
    (¬ wI r1 = 0 →
    ((wI x1 = wI (h1 7 4) →
      (((0 : Int) = 0 ∨ (0 : Int) = 1) ∧ P 0 h1)) ∧
      (¬ wI x1 = wI (h1 7 4) →
      RunsI G 113 [vR 7, vI x1] h1 (fun r2 h2 =>
      ((wI r2 = 0 →
        (((1 : Int) = 0 ∨ (1 : Int) = 1) ∧ P 1 h2)) ∧
        (¬ wI r2 = 0 →
        (((0 : Int) = 0 ∨ (0 : Int) = 1) ∧ P 0 h2)))))))))) :
  RunsI G 115 [vR 7, vI x1] h P := runs_of (by decide) 0 rfl (go1 ok115 900 H)
-- BitmapVolume$Space.firstFree()I  [7]
set_option maxRecDepth 100000 in
theorem q_S_firstFree {G : GG} {P : Int → AH → Prop} {h : AH}
  (H : RunsI G 118 [vR 7, vI 1] h (fun r1 h1 =>
  P r1 h1)) :
  RunsI G 116 [vR 7] h P := runs_of (by decide) 0 rfl (go1 ok116 900 H)
-- BitmapVolume$Space.isFreeRow(II)Z  [7]
set_option maxRecDepth 100000 in
theorem q_S_isFreeRow {G : GG} {P : Int → AH → Prop} {x1 x2 : Int} {h : AH}
  (H : Go G (pI P) 117 2 [some (vR 7), some (vI x1), some (vI x2), some (vI 0)] [] h) :
  RunsI G 117 [vR 7, vI x1, vI x2] h P := runs_of (by decide) 1 rfl (go1 ok117 900 H)
set_option maxRecDepth 100000 in
theorem q_S_isFreeRow_c2 {G : GG} {P : Int → AH → Prop} {x1 x2 x3 : Int} {h : AH}
  (H : ((wI x2 ≤ wI x3 →
    (((1 : Int) = 0 ∨ (1 : Int) = 1) ∧ P 1 h)) ∧
    (¬ wI x2 ≤ wI x3 →
    RunsI G 115 [vR 7, vI (x1 + x3)] h (fun r1 h1 =>
    ((wI r1 = 0 →
      (((0 : Int) = 0 ∨ (0 : Int) = 1) ∧ P 0 h1)) ∧
      (¬ wI r1 = 0 →
      Go G (pI P) 117 2 [some (vR 7), some (vI x1), some (vI x2), some (vI (x3 + 1))] [] h1)))))) :
  Go G (pI P) 117 2 [some (vR 7), some (vI x1), some (vI x2), some (vI x3)] [] h := go1 ok117 900 H
-- BitmapVolume$Space.firstRow(I)I  [7]
set_option maxRecDepth 100000 in
theorem q_S_firstRow {G : GG} {P : Int → AH → Prop} {x1 : Int} {h : AH}
  (H : Go G (pI P) 118 4 [some (vR 7), some (vI x1), some (vI 0), some (vI 2)] [] h) :
  RunsI G 118 [vR 7, vI x1] h P := runs_of (by decide) 2 rfl (go1 ok118 900 H)
set_option maxRecDepth 100000 in
theorem q_S_firstRow_c4 {G : GG} {P : Int → AH → Prop} {x1 x2 x3 : Int} {h : AH}
  (H : ((wI ((h 7 1) + 1) < wI x3 →
    P 0 h) ∧
    (¬ wI ((h 7 1) + 1) < wI x3 →
    RunsI G 115 [vR 7, vI x3] h (fun r1 h1 =>
    ((wI r1 = 0 →
      (((0 : Int) = wI x1 →
        P ((x3 - x1) + 1) h1) ∧
        (¬ (0 : Int) = wI x1 →
        Go G (pI P) 118 4 [some (vR 7), some (vI x1), some (vI 0), some (vI (x3 + 1))] [] h1))) ∧
      (¬ wI r1 = 0 →
      ((wI (x2 + 1) = wI x1 →
        P ((x3 - x1) + 1) h1) ∧
        (¬ wI (x2 + 1) = wI x1 →
        Go G (pI P) 118 4 [some (vR 7), some (vI x1), some (vI (x2 + 1)), some (vI (x3 + 1))] [] h1)))))))) :
  Go G (pI P) 118 4 [some (vR 7), some (vI x1), some (vI x2), some (vI x3)] [] h := go1 ok118 900 H
-- BitmapVolume$Space.freeOnes()I  [7]
set_option maxRecDepth 100000 in
theorem q_S_freeOnes {G : GG} {P : Int → AH → Prop} {h : AH}
  (H : Go G (pI P) 119 4 [some (vR 7), some (vI 0), some (vI 2)] [] h) :
  RunsI G 119 [vR 7] h P := runs_of (by decide) 2 rfl (go1 ok119 900 H)
set_option maxRecDepth 100000 in
theorem q_S_freeOnes_c4 {G : GG} {P : Int → AH → Prop} {x1 x2 : Int} {h : AH}
  (H : ((wI ((h 7 1) + 1) < wI x2 →
    P x1 h) ∧
    (¬ wI ((h 7 1) + 1) < wI x2 →
    RunsI G 113 [vR 7, vI x2] h (fun r1 h1 =>
    ((wI r1 = 0 →
      Go G (pI P) 119 4 [some (vR 7), some (vI (x1 + 1)), some (vI (x2 + 1))] [] h1) ∧
      (¬ wI r1 = 0 →
      Go G (pI P) 119 4 [some (vR 7), some (vI x1), some (vI (x2 + 1))] [] h1)))))) :
  Go G (pI P) 119 4 [some (vR 7), some (vI x1), some (vI x2)] [] h := go1 ok119 900 H
-- BitmapVolume$Space.longestRow()I  [7]
set_option maxRecDepth 100000 in
theorem q_S_longestRow {G : GG} {P : Int → AH → Prop} {h : AH}
  (H : Go G (pI P) 120 6 [some (vR 7), some (vI 0), some (vI 0), some (vI 2)] [] h) :
  RunsI G 120 [vR 7] h P := runs_of (by decide) 3 rfl (go1 ok120 900 H)
set_option maxRecDepth 100000 in
theorem q_S_longestRow_c6 {G : GG} {P : Int → AH → Prop} {x1 x2 x3 : Int} {h : AH}
  (H : ((wI ((h 7 1) + 1) < wI x3 →
    P x1 h) ∧
    (¬ wI ((h 7 1) + 1) < wI x3 →
    RunsI G 113 [vR 7, vI x3] h (fun r1 h1 =>
    ((wI r1 = 0 →
      Go G (pI P) 120 6 [some (vR 7), some (vI (mm 0 x1 (x2 + 1))), some (vI (x2 + 1)), some (vI (x3 + 1))] [] h1) ∧
      (¬ wI r1 = 0 →
      Go G (pI P) 120 6 [some (vR 7), some (vI (mm 0 x1 0)), some (vI 0), some (vI (x3 + 1))] [] h1)))))) :
  Go G (pI P) 120 6 [some (vR 7), some (vI x1), some (vI x2), some (vI x3)] [] h := go1 ok120 900 H
-- BitmapVolume$Space.percent()I  [7]
set_option maxRecDepth 100000 in
theorem q_S_percent {G : GG} {P : Int → AH → Prop} {h : AH}
  (H : ((wI (h 7 1) ≤ 0 →
    P 0 h) ∧
    (¬ wI (h 7 1) ≤ 0 →
    RunsI G 119 [vR 7] h (fun r1 h1 =>
    (wI (h1 7 1) ≠ 0 ∧ P (Int.tdiv (wI (100 * ((h 7 1) - r1))) (wI (h1 7 1))) h1))))) :
  RunsI G 121 [vR 7] h P := runs_of (by decide) 0 rfl (go1 ok121 900 H)
