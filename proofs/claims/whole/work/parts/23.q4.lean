/-! what is to be shown of each method, from its entry and from its cuts, by program out of the code tables -/
-- Model.lesser(II)I  []
set_option maxRecDepth 100000 in
theorem q_M_lesser {G : GG} {P : Int → AH → Prop} {x0 x1 : Int} {h : AH}
  (H : ((wI x1 ≤ wI x0 →
    P x1 h) ∧
    (¬ wI x1 ≤ wI x0 →
    P x0 h))) :
  RunsI G 164 [vI x0, vI x1] h P := runs_of (by decide) 0 rfl (go1 ok164 900 H)
-- Model.greater(JJ)J  []
set_option maxRecDepth 100000 in
theorem q_M_greater {G : GG} {P : Int → AH → Prop} {y0 y2 : Int} {h : AH}
  (H : ((wL y0 ≤ wL y2 →
    P y2 h) ∧
    (¬ wL y0 ≤ wL y2 →
    P y0 h))) :
  RunsL G 165 [vL y0, vL y2] h P := runs_of (by decide) 0 rfl (go1 ok165 900 H)
-- Model.in(JJJ)Z  []
set_option maxRecDepth 100000 in
theorem q_M_in {G : GG} {P : Int → AH → Prop} {y0 y2 y4 : Int} {h : AH}
  (H : ((wL y0 < wL y2 →
    (((0 : Int) = 0 ∨ (0 : Int) = 1) ∧ P 0 h)) ∧
    (¬ wL y0 < wL y2 →
    ((wL y4 < wL y0 →
      (((0 : Int) = 0 ∨ (0 : Int) = 1) ∧ P 0 h)) ∧
      (¬ wL y4 < wL y0 →
      (((1 : Int) = 0 ∨ (1 : Int) = 1) ∧ P 1 h)))))) :
  RunsI G 166 [vL y0, vL y2, vL y4] h P := runs_of (by decide) 0 rfl (go1 ok166 900 H)
-- Model.get([BII)J  [35]
set_option maxRecDepth 100000 in
theorem q_M_get {G : GG} {P : Int → AH → Prop} {x1 x2 : Int} {h : AH}
  (H : Go G (pL P) 167 7 [some (vR 35), some (vI x1), none, some (vL 0), none, some (vI (x2 - 1))] [] h) :
  RunsL G 167 [vR 35, vI x1, vI x2] h P := runs_of (by decide) 3 rfl (go1 ok167 900 H)
set_option maxRecDepth 100000 in
theorem q_M_get_c7 {G : GG} {P : Int → AH → Prop} {x1 y3 x5 : Int} {h : AH}
  (H : ((wI x5 < 0 →
    P y3 h) ∧
    (¬ wI x5 < 0 →
    ((0 ≤ wI (x1 + x5) ∧ wI (x1 + x5) < 13824) ∧
    Go G (pL P) 167 7 [some (vR 35), some (vI x1), none, some (vL (bOL (sLL y3 8) (wI (bA (h 35 (wI (x1 + x5)).toNat) 255)))), none, some (vI (x5 + (-1)))] [] h)))) :
  Go G (pL P) 167 7 [some (vR 35), some (vI x1), none, some (vL y3), none, some (vI x5)] [] h := go1 ok167 900 H
-- Model.put([BIIJ)V  [35]
set_option maxRecDepth 100000 in
theorem q_M_put_35 {G : GG} {P : AH → Prop} {x1 x2 y3 : Int} {h : AH}
  (H : Go G (pV P) 168 3 [some (vR 35), some (vI x1), some (vI x2), some (vL y3), none, some (vI 0)] [] h) :
  RunsV G 168 [vR 35, vI x1, vI x2, vL y3] h P := runs_of (by decide) 1 rfl (go1 ok168 900 H)
set_option maxRecDepth 100000 in
theorem q_M_put_35_c3 {G : GG} {P : AH → Prop} {x1 x2 y3 x5 : Int} {h : AH}
  (H : ((wI x2 ≤ wI x5 →
    P h) ∧
    (¬ wI x2 ≤ wI x5 →
    ((0 ≤ wI (x1 + x5) ∧ wI (x1 + x5) < 13824) ∧
    Go G (pV P) 168 3 [some (vR 35), some (vI x1), some (vI x2), some (vL y3), none, some (vI (x5 + 1))] [] (hs h 35 (wI (x1 + x5)).toNat (w8 (w8 (sRL y3 (8 * x5))))))))) :
  Go G (pV P) 168 3 [some (vR 35), some (vI x1), some (vI x2), some (vL y3), none, some (vI x5)] [] h := go1 ok168 900 H
-- Model.put([BIIJ)V  [36]
set_option maxRecDepth 100000 in
theorem q_M_put_36 {G : GG} {P : AH → Prop} {x1 x2 y3 : Int} {h : AH}
  (H : Go G (pV P) 168 3 [some (vR 36), some (vI x1), some (vI x2), some (vL y3), none, some (vI 0)] [] h) :
  RunsV G 168 [vR 36, vI x1, vI x2, vL y3] h P := runs_of (by decide) 1 rfl (go1 ok168 900 H)
set_option maxRecDepth 100000 in
theorem q_M_put_36_c3 {G : GG} {P : AH → Prop} {x1 x2 y3 x5 : Int} {h : AH}
  (H : ((wI x2 ≤ wI x5 →
    P h) ∧
    (¬ wI x2 ≤ wI x5 →
    ((0 ≤ wI (x1 + x5) ∧ wI (x1 + x5) < 13824) ∧
    Go G (pV P) 168 3 [some (vR 36), some (vI x1), some (vI x2), some (vL y3), none, some (vI (x5 + 1))] [] (hs h 36 (wI (x1 + x5)).toNat (w8 (w8 (sRL y3 (8 * x5))))))))) :
  Go G (pV P) 168 3 [some (vR 36), some (vI x1), some (vI x2), some (vL y3), none, some (vI x5)] [] h := go1 ok168 900 H
-- Model.clusterAt(I)I  []
set_option maxRecDepth 100000 in
theorem q_M_clusterAt {G : GG} {P : Int → AH → Prop} {x0 : Int} {h : AH}
  (H : P (1024 + (128 * (x0 - 2))) h) :
  RunsI G 169 [vI x0] h P := runs_of (by decide) 0 rfl (go1 ok169 900 H)
-- Model.isCluster(J)Z  [34]
set_option maxRecDepth 100000 in
theorem q_M_isCluster {G : GG} {P : Int → AH → Prop} {y1 : Int} {h : AH}
  (H : RunsI G 166 [vL y1, vL 2, vL (wI ((h 34 0) + 1))] h (fun r1 h1 =>
  ((r1 = 0 ∨ r1 = 1) ∧ P r1 h1))) :
  RunsI G 170 [vR 34, vL y1] h P := runs_of (by decide) 0 rfl (go1 ok170 900 H)
-- Model.fat([BI)J  [34, 35]
set_option maxRecDepth 100000 in
theorem q_M_fat {G : GG} {P : Int → AH → Prop} {x2 : Int} {h : AH}
  (H : RunsL G 167 [vR 35, vI (512 + (4 * x2)), vI 4] h (fun r1 h1 =>
  P r1 h1)) :
  RunsL G 171 [vR 34, vR 35, vI x2] h P := runs_of (by decide) 0 rfl (go1 ok171 900 H)
-- Model.wantFat(IJ)V  [34]
set_option maxRecDepth 100000 in
theorem q_M_wantFat {G : GG} {P : AH → Prop} {x1 y2 : Int} {h : AH}
  (H : RunsV G 168 [vR 36, vI (512 + (4 * x1)), vI 4, vL y2] h (fun h1 =>
  P h1)) :
  RunsV G 172 [vR 34, vI x1, vL y2] h P := runs_of (by decide) 0 rfl (go1 ok172 900 H)
-- Model.isTaken([BI)Z  [34, 35]
set_option maxRecDepth 100000 in
theorem q_M_isTaken {G : GG} {P : Int → AH → Prop} {x2 : Int} {h : AH}
  (H : RunsI G 169 [vI (h 34 2)] h (fun r1 h1 =>
  ((8 : Int) ≠ 0 ∧ ((0 ≤ wI (r1 + (Int.tdiv (wI (x2 - 2)) 8)) ∧ wI (r1 + (Int.tdiv (wI (x2 - 2)) 8)) < 13824) ∧
  ((8 : Int) ≠ 0 ∧ ((wI (bA (sRI (h1 35 (wI (r1 + (Int.tdiv (wI (x2 - 2)) 8))).toNat) (Int.tmod (wI (x2 - 2)) 8)) 1) = (1 : Int) →
    (((1 : Int) = 0 ∨ (1 : Int) = 1) ∧ P 1 h1)) ∧
    (¬ wI (bA (sRI (h1 35 (wI (r1 + (Int.tdiv (wI (x2 - 2)) 8))).toNat) (Int.tmod (wI (x2 - 2)) 8)) 1) = (1 : Int) →
    (((0 : Int) = 0 ∨ (0 : Int) = 1) ∧ P 0 h1)))))))) :
  RunsI G 173 [vR 34, vR 35, vI x2] h P := runs_of (by decide) 0 rfl (go1 ok173 900 H)
-- Model.wantBit(IZ)V  [34]
set_option maxRecDepth 100000 in
theorem q_M_wantBit {G : GG} {P : AH → Prop} {x1 x2 : Int} {h : AH}
  (H : RunsI G 169 [vI (h 34 2)] h (fun r1 h1 =>
  ((8 : Int) ≠ 0 ∧ ((8 : Int) ≠ 0 ∧ ((wI x2 = 0 →
    ((0 ≤ wI (r1 + (Int.tdiv (wI (x1 - 2)) 8)) ∧ wI (r1 + (Int.tdiv (wI (x1 - 2)) 8)) < 13824) ∧
    ((0 ≤ wI (r1 + (Int.tdiv (wI (x1 - 2)) 8)) ∧ wI (r1 + (Int.tdiv (wI (x1 - 2)) 8)) < 13824) ∧
    P (hs h1 36 (wI (r1 + (Int.tdiv (wI (x1 - 2)) 8))).toNat (w8 (w8 (bA (h1 36 (wI (r1 + (Int.tdiv (wI (x1 - 2)) 8))).toNat) (bX (sLI 1 (Int.tmod (wI (x1 - 2)) 8)) (-1))))))))) ∧
    (¬ wI x2 = 0 →
    ((0 ≤ wI (r1 + (Int.tdiv (wI (x1 - 2)) 8)) ∧ wI (r1 + (Int.tdiv (wI (x1 - 2)) 8)) < 13824) ∧
    ((0 ≤ wI (r1 + (Int.tdiv (wI (x1 - 2)) 8)) ∧ wI (r1 + (Int.tdiv (wI (x1 - 2)) 8)) < 13824) ∧
    P (hs h1 36 (wI (r1 + (Int.tdiv (wI (x1 - 2)) 8))).toNat (w8 (w8 (bO (h1 36 (wI (r1 + (Int.tdiv (wI (x1 - 2)) 8))).toNat) (sLI 1 (Int.tmod (wI (x1 - 2)) 8)))))))))))))) :
  RunsV G 174 [vR 34, vI x1, vI x2] h P := runs_of (by decide) 2 rfl (go1 ok174 900 H)
-- Model.rolled(JIJJ)J  []
set_option maxRecDepth 100000 in
theorem q_M_rolled {G : GG} {P : Int → AH → Prop} {y0 x2 y3 y5 : Int} {h : AH}
  (H : ((wL (bAL y0 1) = (1 : Int) →
    ((2 : Int) ≠ 0 ∧ P (bAL ((y3 + (Int.tdiv (wL y0) 2)) + (wI x2)) y5) h)) ∧
    (¬ wL (bAL y0 1) = (1 : Int) →
    ((2 : Int) ≠ 0 ∧ P (bAL ((0 + (Int.tdiv (wL y0) 2)) + (wI x2)) y5) h)))) :
  RunsL G 175 [vL y0, vI x2, vL y3, vL y5] h P := runs_of (by decide) 0 rfl (go1 ok175 900 H)
-- Model.sum4([BIIZ)J  [35]
set_option maxRecDepth 100000 in
theorem q_M_sum4 {G : GG} {P : Int → AH → Prop} {x1 x2 x3 : Int} {h : AH}
  (H : Go G (pL P) 176 6 [some (vR 35), some (vI x1), some (vI x2), some (vI x3), some (vL 0), none, some (vI 0)] [] h) :
  RunsL G 176 [vR 35, vI x1, vI x2, vI x3] h P := runs_of (by decide) 3 rfl (go1 ok176 900 H)
set_option maxRecDepth 100000 in
theorem q_M_sum4_c6 {G : GG} {P : Int → AH → Prop} {x1 x2 x3 y4 x6 : Int} {h : AH}
  (H : ((wI x2 ≤ wI x6 →
    P y4 h) ∧
    (¬ wI x2 ≤ wI x6 →
    ((wI x3 = 0 →
      ((0 ≤ wI (x1 + x6) ∧ wI (x1 + x6) < 13824) ∧
      RunsL G 175 [vL y4, vI (bA (h 35 (wI (x1 + x6)).toNat) 255), vL 2147483648, vL 4294967295] h (fun r1 h1 =>
      Go G (pL P) 176 6 [some (vR 35), some (vI x1), some (vI x2), some (vI x3), some (vL r1), none, some (vI (x6 + 1))] [] h1))) ∧
      (¬ wI x3 = 0 →
      ((wI x6 = (44 : Int) →
        Go G (pL P) 176 6 [some (vR 35), some (vI x1), some (vI x2), some (vI x3), some (vL y4), none, some (vI (x6 + 1))] [] h) ∧
        (¬ wI x6 = (44 : Int) →
        ((wI x6 = (45 : Int) →
          Go G (pL P) 176 6 [some (vR 35), some (vI x1), some (vI x2), some (vI x3), some (vL y4), none, some (vI (x6 + 1))] [] h) ∧
          (¬ wI x6 = (45 : Int) →
          ((wI x6 = (49 : Int) →
            Go G (pL P) 176 6 [some (vR 35), some (vI x1), some (vI x2), some (vI x3), some (vL y4), none, some (vI (x6 + 1))] [] h) ∧
            (¬ wI x6 = (49 : Int) →
            ((0 ≤ wI (x1 + x6) ∧ wI (x1 + x6) < 13824) ∧
            RunsL G 175 [vL y4, vI (bA (h 35 (wI (x1 + x6)).toNat) 255), vL 2147483648, vL 4294967295] h (fun r2 h2 =>
            Go G (pL P) 176 6 [some (vR 35), some (vI x1), some (vI x2), some (vI x3), some (vL r2), none, some (vI (x6 + 1))] [] h2))))))))))))) :
  Go G (pL P) 176 6 [some (vR 35), some (vI x1), some (vI x2), some (vI x3), some (vL y4), none, some (vI x6)] [] h := go1 ok176 900 H
-- Model.beginWrite()V  [34]
set_option maxRecDepth 100000 in
theorem q_M_beginWrite {G : GG} {P : AH → Prop} {h : AH}
  (H : Go G (pV P) 177 2 [some (vR 34), some (vI 0)] [] h) :
  RunsV G 177 [vR 34] h P := runs_of (by decide) 1 rfl (go1 ok177 900 H)
set_option maxRecDepth 100000 in
theorem q_M_beginWrite_c2 {G : GG} {P : AH → Prop} {x1 : Int} {h : AH}
  (H : (((13824 : Int) ≤ wI x1 →
    P h) ∧
    (¬ (13824 : Int) ≤ wI x1 →
    ((0 ≤ wI x1 ∧ wI x1 < 13824) ∧
    ((0 ≤ wI x1 ∧ wI x1 < 13824) ∧
    Go G (pV P) 177 2 [some (vR 34), some (vI (x1 + 1))] [] (hs h 36 (wI x1).toNat (w8 (h 35 (wI x1).toNat)))))))) :
  Go G (pV P) 177 2 [some (vR 34), some (vI x1)] [] h := go1 ok177 900 H
-- Model.flush()Z  [34]
set_option maxRecDepth 100000 in
theorem q_M_flush {G : GG} {P : Int → AH → Prop} {h : AH}
  (H : Go G (pI P) 178 2 [some (vR 34), some (vI 0), none, none] [] h) :
  RunsI G 178 [vR 34] h P := runs_of (by decide) 3 rfl (go1 ok178 900 H)
set_option maxRecDepth 100000 in
theorem q_M_flush_c2 {G : GG} {P : Int → AH → Prop} {x1 : Int} {h : AH}
  (H : (((216 : Int) ≤ wI x1 →
    (((1 : Int) = 0 ∨ (1 : Int) = 1) ∧ P 1 h)) ∧
    (¬ (216 : Int) ≤ wI x1 →
    Go G (pI P) 178 16 [some (vR 34), some (vI x1), some (vI 0), some (vI (64 * x1))] [] h))) :
  Go G (pI P) 178 2 [some (vR 34), some (vI x1), none, none] [] h := go1 ok178 900 H
set_option maxRecDepth 100000 in
theorem q_M_flush_c16 {G : GG} {P : Int → AH → Prop} {x1 x2 x3 : Int} {h : AH}
  (H : ((wI ((64 * x1) + 64) ≤ wI x3 →
    ((wI x2 = 0 →
      Go G (pI P) 178 2 [some (vR 34), some (vI (x1 + 1)), none, none] [] h) ∧
      (¬ wI x2 = 0 →
      ((wI (h 34 5) = (1 : Int) →
        (((0 : Int) = 0 ∨ (0 : Int) = 1) ∧ (((0 : Int) = 0 ∨ (0 : Int) = 1) ∧ P 0 (hs (hs h 34 5 0) 34 3 0)))) ∧
        (¬ wI (h 34 5) = (1 : Int) →
        ((wI (h 34 5) ≤ 0 →
          Go G (pI P) 178 116 [some (vR 34), some (vI x1), none, some (vI (64 * x1))] [] (hs (hs h 34 5 ((h 34 5) - 0)) 34 6 (((hs h 34 5 ((h 34 5) - 0)) 34 6) + 1))) ∧
          (¬ wI (h 34 5) ≤ 0 →
          Go G (pI P) 178 116 [some (vR 34), some (vI x1), none, some (vI (64 * x1))] [] (hs (hs h 34 5 ((h 34 5) - 1)) 34 6 (((hs h 34 5 ((h 34 5) - 1)) 34 6) + 1))))))))) ∧
    (¬ wI ((64 * x1) + 64) ≤ wI x3 →
    ((0 ≤ wI x3 ∧ wI x3 < 13824) ∧
    ((0 ≤ wI x3 ∧ wI x3 < 13824) ∧
    ((wI (h 35 (wI x3).toNat) = wI (h 36 (wI x3).toNat) →
      Go G (pI P) 178 16 [some (vR 34), some (vI x1), some (vI (bO x2 0)), some (vI (x3 + 1))] [] h) ∧
      (¬ wI (h 35 (wI x3).toNat) = wI (h 36 (wI x3).toNat) →
      Go G (pI P) 178 16 [some (vR 34), some (vI x1), some (vI (bO x2 1)), some (vI (x3 + 1))] [] h))))))) :
  Go G (pI P) 178 16 [some (vR 34), some (vI x1), some (vI x2), some (vI x3)] [] h := go1 ok178 900 H
set_option maxRecDepth 100000 in
theorem q_M_flush_c116 {G : GG} {P : Int → AH → Prop} {x1 x3 : Int} {h : AH}
  (H : ((wI ((64 * x1) + 64) ≤ wI x3 →
    Go G (pI P) 178 2 [some (vR 34), some (vI (x1 + 1)), none, none] [] h) ∧
    (¬ wI ((64 * x1) + 64) ≤ wI x3 →
    ((0 ≤ wI x3 ∧ wI x3 < 13824) ∧
    ((0 ≤ wI x3 ∧ wI x3 < 13824) ∧
    Go G (pI P) 178 116 [some (vR 34), some (vI x1), none, some (vI (x3 + 1))] [] (hs h 35 (wI x3).toNat (w8 (h 36 (wI x3).toNat)))))))) :
  Go G (pI P) 178 116 [some (vR 34), some (vI x1), none, some (vI x3)] [] h := go1 ok178 900 H
-- Model.dirty()Z  [34]
set_option maxRecDepth 100000 in
theorem q_M_dirty {G : GG} {P : Int → AH → Prop} {h : AH}
  (H : ((0 ≤ (44 : Int) ∧ (44 : Int) < 13824) ∧
  ((0 ≤ (44 : Int) ∧ (44 : Int) < 13824) ∧
  RunsI G 178 [vR 34] (hs h 36 44 (w8 (w8 (bO (h 36 44) 2)))) (fun r1 h1 =>
  ((r1 = 0 ∨ r1 = 1) ∧ P r1 h1))))) :
  RunsI G 179 [vR 34] h P := runs_of (by decide) 0 rfl (go1 ok179 900 H)
-- Model.format(II)I  [34]
set_option maxRecDepth 100000 in
theorem q_M_format {G : GG} {P : Int → AH → Prop} {x1 x2 : Int} {h : AH}
  (H : ((wI (h 34 3) = 0 →
    RunsI G 166 [vL (wI x1), vL 16, vL 100] h (fun r1 h1 =>
    ((wI r1 = 0 →
      P (-1) h1) ∧
      (¬ wI r1 = 0 →
      Go G (pI P) 180 28 [some (vR 34), some (vI x1), some (vI x2), some (vI 0), none] [] h1)))) ∧
    (¬ wI (h 34 3) = 0 →
    P (-2) h))) :
  RunsI G 180 [vR 34, vI x1, vI x2] h P := runs_of (by decide) 2 rfl (go1 ok180 900 H)
set_option maxRecDepth 100000 in
theorem q_M_format_c28 {G : GG} {P : Int → AH → Prop} {x1 x2 x3 : Int} {h : AH}
  (H : (((13824 : Int) ≤ wI x3 →
    RunsV G 183 [vR 34, vI x1, vI x2] h (fun h1 =>
    RunsV G 168 [vR 35, vI 512, vI 4, vL 4294967288] h1 (fun h2 =>
    RunsV G 168 [vR 35, vI 516, vI 4, vL 4294967295] h2 (fun h3 =>
    Go G (pI P) 180 84 [some (vR 34), some (vI x1), none, some (vI 2), none] [] h3)))) ∧
    (¬ (13824 : Int) ≤ wI x3 →
    ((0 ≤ wI x3 ∧ wI x3 < 13824) ∧
    Go G (pI P) 180 28 [some (vR 34), some (vI x1), some (vI x2), some (vI (x3 + 1)), none] [] (hs h 35 (wI x3).toNat (w8 0)))))) :
  Go G (pI P) 180 28 [some (vR 34), some (vI x1), some (vI x2), some (vI x3), none] [] h := go1 ok180 900 H
set_option maxRecDepth 100000 in
theorem q_M_format_c84 {G : GG} {P : Int → AH → Prop} {x1 x3 : Int} {h : AH}
  (H : (((5 : Int) ≤ wI x3 →
    RunsI G 169 [vI 2] h (fun r1 h1 =>
    ((0 ≤ wI r1 ∧ wI r1 < 13824) ∧
    RunsI G 169 [vI 3] (hs h1 35 (wI r1).toNat (w8 7)) (fun r2 h2 =>
    RunsI G 181 [vR 34, vI r2, vI 97] h2 (fun r3 h3 =>
    RunsI G 182 [vR 34, vI r3, vI 97, vI 122] h3 (fun r4 h4 =>
    RunsI G 181 [vR 34, vI r4, vI 101] h4 (fun r5 h5 =>
    RunsI G 182 [vR 34, vI r5, vI 224, vI 246] h5 (fun r6 h6 =>
    RunsI G 181 [vR 34, vI r6, vI 1] h6 (fun r7 h7 =>
    RunsI G 182 [vR 34, vI r7, vI 248, vI 254] h7 (fun r8 h8 =>
    RunsI G 181 [vR 34, vI r8, vI 1] h8 (fun r9 h9 =>
    RunsI G 169 [vI 4] h9 (fun r10 h10 =>
    ((0 ≤ wI r10 ∧ wI r10 < 13824) ∧
    RunsV G 168 [vR 35, vI (r10 + 20), vI 4, vL 2] (hs h10 35 (wI r10).toNat (w8 (-127))) (fun h11 =>
    ((8 : Int) ≠ 0 ∧ RunsV G 168 [vR 35, vI (r10 + 24), vI 8, vL (wI (Int.tdiv (wI (x1 + 7)) 8))] h11 (fun h12 =>
    ((0 ≤ wI (r10 + 32) ∧ wI (r10 + 32) < 13824) ∧
    RunsI G 169 [vI 3] (hs h12 35 (wI (r10 + 32)).toNat (w8 (-126))) (fun r13 h13 =>
    RunsL G 176 [vR 35, vI r13, vI 128, vI 0] h13 (fun r14 h14 =>
    RunsV G 168 [vR 35, vI (r10 + 36), vI 4, vL r14] h14 (fun h15 =>
    RunsV G 168 [vR 35, vI (r10 + 52), vI 4, vL 3] h15 (fun h16 =>
    RunsV G 168 [vR 35, vI (r10 + 56), vI 8, vL 128] h16 (fun h17 =>
    P (16 + (2 * x1)) h17)))))))))))))))))))))) ∧
    (¬ (5 : Int) ≤ wI x3 →
    RunsV G 168 [vR 35, vI (512 + (4 * x3)), vI 4, vL 4294967295] h (fun h18 =>
    Go G (pI P) 180 84 [some (vR 34), some (vI x1), none, some (vI (x3 + 1)), none] [] h18)))) :
  Go G (pI P) 180 84 [some (vR 34), some (vI x1), none, some (vI x3), none] [] h := go1 ok180 900 H
-- Model.layOwn(II)I  [34]
set_option maxRecDepth 100000 in
theorem q_M_layOwn {G : GG} {P : Int → AH → Prop} {x1 x2 : Int} {h : AH}
  (H : RunsV G 168 [vR 35, vI x1, vI 2, vL 65535] h (fun h1 =>
  RunsV G 168 [vR 35, vI (x1 + 2), vI 2, vL (wI x2)] h1 (fun h2 =>
  P (x1 + 4) h2))) :
  RunsI G 181 [vR 34, vI x1, vI x2] h P := runs_of (by decide) 0 rfl (go1 ok181 900 H)
-- Model.layGreat(III)I  [34]
set_option maxRecDepth 100000 in
theorem q_M_layGreat {G : GG} {P : Int → AH → Prop} {x1 x2 x3 : Int} {h : AH}
  (H : Go G (pI P) 182 6 [some (vR 34), none, none, some (vI x3), some (vI x1), some (vI x2)] [] h) :
  RunsI G 182 [vR 34, vI x1, vI x2, vI x3] h P := runs_of (by decide) 2 rfl (go1 ok182 900 H)
set_option maxRecDepth 100000 in
theorem q_M_layGreat_c6 {G : GG} {P : Int → AH → Prop} {x3 x4 x5 : Int} {h : AH}
  (H : ((wI x3 < wI x5 →
    P x4 h) ∧
    (¬ wI x3 < wI x5 →
    RunsV G 168 [vR 35, vI x4, vI 2, vL (wI (x5 - 32))] h (fun h1 =>
    Go G (pI P) 182 6 [some (vR 34), none, none, some (vI x3), some (vI (x4 + 2)), some (vI (x5 + 1))] [] h1)))) :
  Go G (pI P) 182 6 [some (vR 34), none, none, some (vI x3), some (vI x4), some (vI x5)] [] h := go1 ok182 900 H
-- Model.layBoot(II)V  [34]
set_option maxRecDepth 100000 in
theorem q_M_layBoot {G : GG} {P : AH → Prop} {x1 x2 : Int} {h : AH}
  (H : ((0 ≤ (0 : Int) ∧ (0 : Int) < 13824) ∧
  ((0 ≤ (1 : Int) ∧ (1 : Int) < 13824) ∧
  ((0 ≤ (2 : Int) ∧ (2 : Int) < 13824) ∧
  RunsL G 184 [] (hs (hs (hs h 35 0 (w8 (-21))) 35 1 (w8 118)) 35 2 (w8 (-112))) (fun r1 h1 =>
  RunsV G 168 [vR 35, vI 3, vI 8, vL r1] h1 (fun h2 =>
  RunsV G 168 [vR 35, vI 16, vI 4, vL (wI (16 + (2 * x1)))] h2 (fun h3 =>
  RunsV G 168 [vR 35, vI 20, vI 4, vL 8] h3 (fun h4 =>
  RunsV G 168 [vR 35, vI 24, vI 4, vL 7] h4 (fun h5 =>
  RunsV G 168 [vR 35, vI 28, vI 4, vL 16] h5 (fun h6 =>
  RunsV G 168 [vR 35, vI 32, vI 4, vL (wI x1)] h6 (fun h7 =>
  RunsV G 168 [vR 35, vI 36, vI 4, vL 4] h7 (fun h8 =>
  RunsV G 168 [vR 35, vI 40, vI 4, vL (wI x2)] h8 (fun h9 =>
  ((0 ≤ (46 : Int) ∧ (46 : Int) < 13824) ∧
  ((0 ≤ (47 : Int) ∧ (47 : Int) < 13824) ∧
  ((0 ≤ (48 : Int) ∧ (48 : Int) < 13824) ∧
  ((0 ≤ (49 : Int) ∧ (49 : Int) < 13824) ∧
  Go G (pV P) 183 165 [some (vR 34), none, none, some (vI 0), none, none] [] (hs (hs (hs (hs h9 35 46 (w8 6)) 35 47 (w8 1)) 35 48 (w8 1)) 35 49 (w8 (-1)))))))))))))))))))) :
  RunsV G 183 [vR 34, vI x1, vI x2] h P := runs_of (by decide) 3 rfl (go1 ok183 900 H)
set_option maxRecDepth 100000 in
theorem q_M_layBoot_c165 {G : GG} {P : AH → Prop} {x3 : Int} {h : AH}
  (H : (((3 : Int) ≤ wI x3 →
    RunsL G 176 [vR 35, vI 0, vI 192, vI 1] h (fun r1 h1 =>
    Go G (pV P) 183 220 [some (vR 34), none, none, some (vL r1), none, some (vI 0)] [] h1)) ∧
    (¬ (3 : Int) ≤ wI x3 →
    ((0 ≤ wI ((64 * x3) + 62) ∧ wI ((64 * x3) + 62) < 13824) ∧
    ((0 ≤ wI ((64 * x3) + 63) ∧ wI ((64 * x3) + 63) < 13824) ∧
    Go G (pV P) 183 165 [some (vR 34), none, none, some (vI (x3 + 1)), none, none] [] (hs (hs h 35 (wI ((64 * x3) + 62)).toNat (w8 85)) 35 (wI ((64 * x3) + 63)).toNat (w8 (-86)))))))) :
  Go G (pV P) 183 165 [some (vR 34), none, none, some (vI x3), none, none] [] h := go1 ok183 900 H
set_option maxRecDepth 100000 in
theorem q_M_layBoot_c220 {G : GG} {P : AH → Prop} {y3 x5 : Int} {h : AH}
  (H : (((16 : Int) ≤ wI x5 →
    Go G (pV P) 183 253 [some (vR 34), none, none, none, none, some (vI 0)] [] h) ∧
    (¬ (16 : Int) ≤ wI x5 →
    RunsV G 168 [vR 35, vI (192 + (4 * x5)), vI 4, vL y3] h (fun h1 =>
    Go G (pV P) 183 220 [some (vR 34), none, none, some (vL y3), none, some (vI (x5 + 1))] [] h1)))) :
  Go G (pV P) 183 220 [some (vR 34), none, none, some (vL y3), none, some (vI x5)] [] h := go1 ok183 900 H
set_option maxRecDepth 100000 in
theorem q_M_layBoot_c253 {G : GG} {P : AH → Prop} {x5 : Int} {h : AH}
  (H : (((256 : Int) ≤ wI x5 →
    P h) ∧
    (¬ (256 : Int) ≤ wI x5 →
    ((0 ≤ wI x5 ∧ wI x5 < 13824) ∧
    ((0 ≤ wI (256 + x5) ∧ wI (256 + x5) < 13824) ∧
    Go G (pV P) 183 253 [some (vR 34), none, none, none, none, some (vI (x5 + 1))] [] (hs h 35 (wI (256 + x5)).toNat (w8 (h 35 (wI x5).toNat)))))))) :
  Go G (pV P) 183 253 [some (vR 34), none, none, none, none, some (vI x5)] [] h := go1 ok183 900 H
-- Model.bootName()J  []
set_option maxRecDepth 100000 in
theorem q_M_bootName {G : GG} {P : Int → AH → Prop} {h : AH}
  (H : P 2314885754712905797 h) :
  RunsL G 184 [] h P := runs_of (by decide) 0 rfl (go1 ok184 900 H)
-- Model.octet(II)I  [34]
set_option maxRecDepth 100000 in
theorem q_M_octet {G : GG} {P : Int → AH → Prop} {x1 x2 : Int} {h : AH}
  (H : RunsI G 166 [vL (wI x1), vL 0, vL 215] h (fun r1 h1 =>
  ((wI r1 = 0 →
    P (-1) h1) ∧
    (¬ wI r1 = 0 →
    RunsI G 166 [vL (wI x2), vL 0, vL 63] h1 (fun r2 h2 =>
    ((wI r2 = 0 →
      P (-1) h2) ∧
      (¬ wI r2 = 0 →
      ((0 ≤ wI ((64 * x1) + x2) ∧ wI ((64 * x1) + x2) < 13824) ∧
      P (bA (h2 35 (wI ((64 * x1) + x2)).toNat) 255) h2)))))))) :
  RunsI G 185 [vR 34, vI x1, vI x2] h P := runs_of (by decide) 0 rfl (go1 ok185 900 H)
-- Model.spoil(III)I  [34]
set_option maxRecDepth 100000 in
theorem q_M_spoil {G : GG} {P : Int → AH → Prop} {x1 x2 x3 : Int} {h : AH}
  (H : ((wI (h 34 3) = 0 →
    RunsI G 166 [vL (wI x1), vL 0, vL 215] h (fun r1 h1 =>
    ((wI r1 = 0 →
      P (-1) h1) ∧
      (¬ wI r1 = 0 →
      RunsI G 166 [vL (wI x2), vL 0, vL 63] h1 (fun r2 h2 =>
      ((wI r2 = 0 →
        P (-1) h2) ∧
        (¬ wI r2 = 0 →
        RunsI G 166 [vL (wI x3), vL 0, vL 255] h2 (fun r3 h3 =>
        ((wI r3 = 0 →
          P (-1) h3) ∧
          (¬ wI r3 = 0 →
          ((0 ≤ wI ((64 * x1) + x2) ∧ wI ((64 * x1) + x2) < 13824) ∧
          ((0 ≤ wI ((64 * x1) + x2) ∧ wI ((64 * x1) + x2) < 13824) ∧
          P (bA (h3 35 (wI ((64 * x1) + x2)).toNat) 255) (hs h3 35 (wI ((64 * x1) + x2)).toNat (w8 (w8 x3))))))))))))))) ∧
    (¬ wI (h 34 3) = 0 →
    P (-2) h))) :
  RunsI G 186 [vR 34, vI x1, vI x2, vI x3] h P := runs_of (by decide) 1 rfl (go1 ok186 900 H)
-- Model.fail(I)I  [34]
set_option maxRecDepth 100000 in
theorem q_M_fail {G : GG} {P : Int → AH → Prop} {x1 : Int} {h : AH}
  (H : RunsI G 166 [vL (wI x1), vL 0, vL 1000] h (fun r1 h1 =>
  ((wI r1 = 0 →
    P (-1) h1) ∧
    (¬ wI r1 = 0 →
    P 1 (hs h1 34 5 x1))))) :
  RunsI G 187 [vR 34, vI x1] h P := runs_of (by decide) 0 rfl (go1 ok187 900 H)
-- Model.meets(III)Z  [34]
set_option maxRecDepth 100000 in
theorem q_M_meets {G : GG} {P : Int → AH → Prop} {x1 x2 x3 : Int} {h : AH}
  (H : (((0 : Int) = 0 ∨ (0 : Int) = 1) ∧ P 0 (hs (hs (hs h 34 9 x1) 34 10 x2) 34 11 x3))) :
  RunsI G 188 [vR 34, vI x1, vI x2, vI x3] h P := runs_of (by decide) 0 rfl (go1 ok188 900 H)
-- Model.fault(I)I  [34]
set_option maxRecDepth 100000 in
theorem q_M_fault {G : GG} {P : Int → AH → Prop} {x1 : Int} {h : AH}
  (H : ((wI x1 = 0 →
    P (h 34 9) h) ∧
    (¬ wI x1 = 0 →
    ((wI x1 = (1 : Int) →
      P (h 34 10) h) ∧
      (¬ wI x1 = (1 : Int) →
      ((wI x1 = (2 : Int) →
        P (h 34 11) h) ∧
        (¬ wI x1 = (2 : Int) →
        P (-1) h))))))) :
  RunsI G 189 [vR 34, vI x1] h P := runs_of (by decide) 0 rfl (go1 ok189 900 H)
-- Model.isZero(II)Z  [34]
set_option maxRecDepth 100000 in
theorem q_M_isZero {G : GG} {P : Int → AH → Prop} {x1 x2 : Int} {h : AH}
  (H : Go G (pI P) 190 5 [some (vR 34), none, some (vI x2), some (vI 1), some (vI x1)] [] h) :
  RunsI G 190 [vR 34, vI x1, vI x2] h P := runs_of (by decide) 2 rfl (go1 ok190 900 H)
set_option maxRecDepth 100000 in
theorem q_M_isZero_c5 {G : GG} {P : Int → AH → Prop} {x2 x3 x4 : Int} {h : AH}
  (H : ((wI x2 ≤ wI x4 →
    ((x3 = 0 ∨ x3 = 1) ∧ P x3 h)) ∧
    (¬ wI x2 ≤ wI x4 →
    ((0 ≤ wI x4 ∧ wI x4 < 13824) ∧
    ((wI (h 35 (wI x4).toNat) = 0 →
      Go G (pI P) 190 5 [some (vR 34), none, some (vI x2), some (vI (bA x3 1)), some (vI (x4 + 1))] [] h) ∧
      (¬ wI (h 35 (wI x4).toNat) = 0 →
      Go G (pI P) 190 5 [some (vR 34), none, some (vI x2), some (vI (bA x3 0)), some (vI (x4 + 1))] [] h)))))) :
  Go G (pI P) 190 5 [some (vR 34), none, some (vI x2), some (vI x3), some (vI x4)] [] h := go1 ok190 900 H
-- Model.isBoot(I)Z  [34]
set_option maxRecDepth 100000 in
theorem q_M_isBoot {G : GG} {P : Int → AH → Prop} {x1 : Int} {h : AH}
  (H : RunsL G 167 [vR 35, vI (x1 + 32), vI 4] h (fun r1 h1 =>
  RunsI G 166 [vL r1, vL 16, vL 100] h1 (fun r2 h2 =>
  ((wI r2 = 0 →
    (((0 : Int) = 0 ∨ (0 : Int) = 1) ∧ P 0 h2)) ∧
    (¬ wI r2 = 0 →
    RunsL G 167 [vR 35, vI (x1 + 36), vI 4] h2 (fun r3 h3 =>
    RunsI G 166 [vL r3, vL 2, vL (r1 + 1)] h3 (fun r4 h4 =>
    ((wI r4 = 0 →
      (((0 : Int) = 0 ∨ (0 : Int) = 1) ∧ P 0 h4)) ∧
      (¬ wI r4 = 0 →
      RunsL G 167 [vR 35, vI (x1 + 16), vI 4] h4 (fun r5 h5 =>
      ((wL r5 = wL (16 + (2 * r1)) →
        RunsL G 167 [vR 35, vI x1, vI 3] h5 (fun r6 h6 =>
        ((wL r6 = (9467627 : Int) →
          RunsL G 167 [vR 35, vI (x1 + 3), vI 8] h6 (fun r7 h7 =>
          RunsL G 184 [] h7 (fun r8 h8 =>
          ((wL r7 = wL r8 →
            RunsI G 190 [vR 34, vI (x1 + 11), vI (x1 + 16)] h8 (fun r9 h9 =>
            ((wI r9 = 0 →
              Go G (pI P) 191 132 [some (vR 34), some (vI x1), none, none, none, none, none, none, none, none] [vI 0] h9) ∧
              (¬ wI r9 = 0 →
              Go G (pI P) 191 132 [some (vR 34), some (vI x1), none, none, none, none, none, none, none, none] [vI 1] h9)))) ∧
            (¬ wL r7 = wL r8 →
            Go G (pI P) 191 132 [some (vR 34), some (vI x1), none, none, none, none, none, none, none, none] [vI 0] h8))))) ∧
          (¬ wL r6 = (9467627 : Int) →
          Go G (pI P) 191 132 [some (vR 34), some (vI x1), none, none, none, none, none, none, none, none] [vI 0] h6)))) ∧
        (¬ wL r5 = wL (16 + (2 * r1)) →
        (((0 : Int) = 0 ∨ (0 : Int) = 1) ∧ P 0 h5))))))))))))) :
  RunsI G 191 [vR 34, vI x1] h P := runs_of (by decide) 8 rfl (go1 ok191 900 H)
set_option maxRecDepth 100000 in
theorem q_M_isBoot_c132 {G : GG} {P : Int → AH → Prop} {x1 s0 : Int} {h : AH}
  (H : RunsL G 167 [vR 35, vI (x1 + 20), vI 4] h (fun r1 h1 =>
  ((wL r1 = (8 : Int) →
    RunsL G 167 [vR 35, vI (x1 + 24), vI 4] h1 (fun r2 h2 =>
    ((wL r2 = (7 : Int) →
      RunsL G 167 [vR 35, vI (x1 + 28), vI 4] h2 (fun r3 h3 =>
      ((wL r3 = (16 : Int) →
        Go G (pI P) 191 198 [some (vR 34), some (vI x1), none, none, none, none, none, none, none, none] [vI 1, vI s0] h3) ∧
        (¬ wL r3 = (16 : Int) →
        Go G (pI P) 191 198 [some (vR 34), some (vI x1), none, none, none, none, none, none, none, none] [vI 0, vI s0] h3)))) ∧
      (¬ wL r2 = (7 : Int) →
      Go G (pI P) 191 198 [some (vR 34), some (vI x1), none, none, none, none, none, none, none, none] [vI 0, vI s0] h2)))) ∧
    (¬ wL r1 = (8 : Int) →
    Go G (pI P) 191 198 [some (vR 34), some (vI x1), none, none, none, none, none, none, none, none] [vI 0, vI s0] h1)))) :
  Go G (pI P) 191 132 [some (vR 34), some (vI x1), none, none, none, none, none, none, none, none] [vI s0] h := go1 ok191 900 H
set_option maxRecDepth 100000 in
theorem q_M_isBoot_c198 {G : GG} {P : Int → AH → Prop} {x1 s0 s1 : Int} {h : AH}
  (H : RunsL G 167 [vR 35, vI (x1 + 44), vI 2] h (fun r1 h1 =>
  ((wL (bAL r1 (-3)) = (0 : Int) →
    ((0 ≤ wI (x1 + 46) ∧ wI (x1 + 46) < 13824) ∧
    ((wI (h1 35 (wI (x1 + 46)).toNat) = (6 : Int) →
      ((0 ≤ wI (x1 + 47) ∧ wI (x1 + 47) < 13824) ∧
      ((wI (h1 35 (wI (x1 + 47)).toNat) = (1 : Int) →
        ((0 ≤ wI (x1 + 48) ∧ wI (x1 + 48) < 13824) ∧
        ((wI (h1 35 (wI (x1 + 48)).toNat) = (1 : Int) →
          Go G (pI P) 191 269 [some (vR 34), some (vI x1), none, none, none, none, none, none, none, none] [vI 1, vI (bA s0 s1)] h1) ∧
          (¬ wI (h1 35 (wI (x1 + 48)).toNat) = (1 : Int) →
          Go G (pI P) 191 269 [some (vR 34), some (vI x1), none, none, none, none, none, none, none, none] [vI 0, vI (bA s0 s1)] h1)))) ∧
        (¬ wI (h1 35 (wI (x1 + 47)).toNat) = (1 : Int) →
        Go G (pI P) 191 269 [some (vR 34), some (vI x1), none, none, none, none, none, none, none, none] [vI 0, vI (bA s0 s1)] h1)))) ∧
      (¬ wI (h1 35 (wI (x1 + 46)).toNat) = (6 : Int) →
      Go G (pI P) 191 269 [some (vR 34), some (vI x1), none, none, none, none, none, none, none, none] [vI 0, vI (bA s0 s1)] h1)))) ∧
    (¬ wL (bAL r1 (-3)) = (0 : Int) →
    Go G (pI P) 191 269 [some (vR 34), some (vI x1), none, none, none, none, none, none, none, none] [vI 0, vI (bA s0 s1)] h1)))) :
  Go G (pI P) 191 198 [some (vR 34), some (vI x1), none, none, none, none, none, none, none, none] [vI s1, vI s0] h := go1 ok191 900 H
set_option maxRecDepth 100000 in
theorem q_M_isBoot_c269 {G : GG} {P : Int → AH → Prop} {x1 s0 s1 : Int} {h : AH}
  (H : RunsL G 167 [vR 35, vI (x1 + 49), vI 1] h (fun r1 h1 =>
  ((wL r1 ≤ (100 : Int) →
    Go G (pI P) 191 306 [some (vR 34), some (vI x1), none, none, none, none, none, none, none, none] [vI (bA s0 s1)] h1) ∧
    (¬ wL r1 ≤ (100 : Int) →
    ((wL r1 = (255 : Int) →
      Go G (pI P) 191 306 [some (vR 34), some (vI x1), none, none, none, none, none, none, none, none] [vI (bA s0 s1)] h1) ∧
      (¬ wL r1 = (255 : Int) →
      Go G (pI P) 191 364 [some (vR 34), some (vI x1), none, none, some (vI (bA (bA s0 s1) 0)), none, none, some (vI 0), none, none] [] h1)))))) :
  Go G (pI P) 191 269 [some (vR 34), some (vI x1), none, none, none, none, none, none, none, none] [vI s1, vI s0] h := go1 ok191 900 H
set_option maxRecDepth 100000 in
theorem q_M_isBoot_c306 {G : GG} {P : Int → AH → Prop} {x1 s0 : Int} {h : AH}
  (H : RunsI G 190 [vR 34, vI (x1 + 50), vI (x1 + 62)] h (fun r1 h1 =>
  ((wI r1 = 0 →
    Go G (pI P) 191 364 [some (vR 34), some (vI x1), none, none, some (vI (bA s0 0)), none, none, some (vI 0), none, none] [] h1) ∧
    (¬ wI r1 = 0 →
    RunsI G 190 [vR 34, vI (x1 + 64), vI (x1 + 126)] h1 (fun r2 h2 =>
    ((wI r2 = 0 →
      Go G (pI P) 191 364 [some (vR 34), some (vI x1), none, none, some (vI (bA s0 0)), none, none, some (vI 0), none, none] [] h2) ∧
      (¬ wI r2 = 0 →
      RunsI G 190 [vR 34, vI (x1 + 128), vI (x1 + 190)] h2 (fun r3 h3 =>
      ((wI r3 = 0 →
        Go G (pI P) 191 364 [some (vR 34), some (vI x1), none, none, some (vI (bA s0 0)), none, none, some (vI 0), none, none] [] h3) ∧
        (¬ wI r3 = 0 →
        Go G (pI P) 191 364 [some (vR 34), some (vI x1), none, none, some (vI (bA s0 1)), none, none, some (vI 0), none, none] [] h3)))))))))) :
  Go G (pI P) 191 306 [some (vR 34), some (vI x1), none, none, none, none, none, none, none, none] [vI s0] h := go1 ok191 900 H
set_option maxRecDepth 100000 in
theorem q_M_isBoot_c364 {G : GG} {P : Int → AH → Prop} {x1 x4 x7 : Int} {h : AH}
  (H : (((3 : Int) ≤ wI x7 →
    RunsL G 176 [vR 35, vI x1, vI 192, vI 1] h (fun r1 h1 =>
    Go G (pI P) 191 443 [some (vR 34), some (vI x1), none, none, some (vI x4), none, none, some (vL r1), none, some (vI 0)] [] h1)) ∧
    (¬ (3 : Int) ≤ wI x7 →
    ((0 ≤ wI ((x1 + (64 * x7)) + 62) ∧ wI ((x1 + (64 * x7)) + 62) < 13824) ∧
    ((wI (h 35 (wI ((x1 + (64 * x7)) + 62)).toNat) = (85 : Int) →
      ((0 ≤ wI ((x1 + (64 * x7)) + 63) ∧ wI ((x1 + (64 * x7)) + 63) < 13824) ∧
      ((wI (h 35 (wI ((x1 + (64 * x7)) + 63)).toNat) = ((-86) : Int) →
        Go G (pI P) 191 364 [some (vR 34), some (vI x1), none, none, some (vI (bA x4 1)), none, none, some (vI (x7 + 1)), none, none] [] h) ∧
        (¬ wI (h 35 (wI ((x1 + (64 * x7)) + 63)).toNat) = ((-86) : Int) →
        Go G (pI P) 191 364 [some (vR 34), some (vI x1), none, none, some (vI (bA x4 0)), none, none, some (vI (x7 + 1)), none, none] [] h)))) ∧
      (¬ wI (h 35 (wI ((x1 + (64 * x7)) + 62)).toNat) = (85 : Int) →
      Go G (pI P) 191 364 [some (vR 34), some (vI x1), none, none, some (vI (bA x4 0)), none, none, some (vI (x7 + 1)), none, none] [] h)))))) :
  Go G (pI P) 191 364 [some (vR 34), some (vI x1), none, none, some (vI x4), none, none, some (vI x7), none, none] [] h := go1 ok191 900 H
set_option maxRecDepth 100000 in
theorem q_M_isBoot_c443 {G : GG} {P : Int → AH → Prop} {x1 x4 y7 x9 : Int} {h : AH}
  (H : (((16 : Int) ≤ wI x9 →
    ((x4 = 0 ∨ x4 = 1) ∧ P x4 h)) ∧
    (¬ (16 : Int) ≤ wI x9 →
    RunsL G 167 [vR 35, vI ((x1 + 192) + (4 * x9)), vI 4] h (fun r1 h1 =>
    ((wL r1 = wL y7 →
      Go G (pI P) 191 443 [some (vR 34), some (vI x1), none, none, some (vI (bA x4 1)), none, none, some (vL y7), none, some (vI (x9 + 1))] [] h1) ∧
      (¬ wL r1 = wL y7 →
      Go G (pI P) 191 443 [some (vR 34), some (vI x1), none, none, some (vI (bA x4 0)), none, none, some (vL y7), none, some (vI (x9 + 1))] [] h1)))))) :
  Go G (pI P) 191 443 [some (vR 34), some (vI x1), none, none, some (vI x4), none, none, some (vL y7), none, some (vI x9)] [] h := go1 ok191 900 H
-- Model.isMountable()Z  [34]
set_option maxRecDepth 100000 in
theorem q_M_isMountable {G : GG} {P : Int → AH → Prop} {h : AH}
  (H : RunsI G 191 [vR 34, vI 0] h (fun r1 h1 =>
  ((wI r1 = 0 →
    (((1 : Int) = 0 ∨ (1 : Int) = 1) ∧ ((wI ((hs h1 34 12 1) 34 12) = 0 →
      Go G (pI P) 192 31 [some (vR 34), none, none, none, none] [vI 0] (hs h1 34 12 1)) ∧
      (¬ wI ((hs h1 34 12 1) 34 12) = 0 →
      Go G (pI P) 192 31 [some (vR 34), none, none, none, none] [vI 256] (hs h1 34 12 1))))) ∧
    (¬ wI r1 = 0 →
    (((0 : Int) = 0 ∨ (0 : Int) = 1) ∧ ((wI ((hs h1 34 12 0) 34 12) = 0 →
      Go G (pI P) 192 31 [some (vR 34), none, none, none, none] [vI 0] (hs h1 34 12 0)) ∧
      (¬ wI ((hs h1 34 12 0) 34 12) = 0 →
      Go G (pI P) 192 31 [some (vR 34), none, none, none, none] [vI 256] (hs h1 34 12 0)))))))) :
  RunsI G 192 [vR 34] h P := runs_of (by decide) 4 rfl (go1 ok192 900 H)
set_option maxRecDepth 100000 in
theorem q_M_isMountable_c31 {G : GG} {P : Int → AH → Prop} {s0 : Int} {h : AH}
  (H : ((wI (h 34 12) = 0 →
    Go G (pI P) 192 57 [some (vR 34), some (vI s0), none, none, none] [] h) ∧
    (¬ wI (h 34 12) = 0 →
    RunsI G 191 [vR 34, vI 256] h (fun r1 h1 =>
    ((wI r1 = 0 →
      RunsI G 188 [vR 34, vI 1, vI 0, vI 0] h1 (fun r2 h2 =>
      ((r2 = 0 ∨ r2 = 1) ∧ P r2 h2))) ∧
      (¬ wI r1 = 0 →
      Go G (pI P) 192 57 [some (vR 34), some (vI s0), none, none, none] [] h1)))))) :
  Go G (pI P) 192 31 [some (vR 34), none, none, none, none] [vI s0] h := go1 ok192 900 H
set_option maxRecDepth 100000 in
theorem q_M_isMountable_c57 {G : GG} {P : Int → AH → Prop} {x1 : Int} {h : AH}
  (H : RunsL G 167 [vR 35, vI (x1 + 32), vI 4] h (fun r1 h1 =>
  RunsL G 167 [vR 35, vI (x1 + 36), vI 4] (hs h1 34 0 r1) (fun r2 h2 =>
  RunsL G 167 [vR 35, vI 512, vI 4] (hs h2 34 1 r2) (fun r3 h3 =>
  ((wL r3 = (4294967288 : Int) →
    RunsL G 167 [vR 35, vI 516, vI 4] h3 (fun r4 h4 =>
    ((wL r4 = (4294967295 : Int) →
      Go G (pI P) 192 159 [some (vR 34), none, some (vI 0), none, none] [] h4) ∧
      (¬ wL r4 = (4294967295 : Int) →
      Go G (pI P) 192 127 [some (vR 34), none, none, none, none] [] h4)))) ∧
    (¬ wL r3 = (4294967288 : Int) →
    Go G (pI P) 192 127 [some (vR 34), none, none, none, none] [] h3)))))) :
  Go G (pI P) 192 57 [some (vR 34), some (vI x1), none, none, none] [] h := go1 ok192 900 H
set_option maxRecDepth 100000 in
theorem q_M_isMountable_c127 {G : GG} {P : Int → AH → Prop} {h : AH}
  (H : RunsL G 167 [vR 35, vI 512, vI 4] h (fun r1 h1 =>
  ((wL r1 = (4294967288 : Int) →
    RunsI G 188 [vR 34, vI 2, vI 1, vI 0] h1 (fun r2 h2 =>
    ((r2 = 0 ∨ r2 = 1) ∧ P r2 h2))) ∧
    (¬ wL r1 = (4294967288 : Int) →
    RunsI G 188 [vR 34, vI 2, vI 0, vI 0] h1 (fun r3 h3 =>
    ((r3 = 0 ∨ r3 = 1) ∧ P r3 h3)))))) :
  Go G (pI P) 192 127 [some (vR 34), none, none, none, none] [] h := go1 ok192 900 H
set_option maxRecDepth 100000 in
theorem q_M_isMountable_c159 {G : GG} {P : Int → AH → Prop} {x2 : Int} {h : AH}
  (H : (((102 : Int) ≤ wI x2 →
    ((0 ≤ wI (h 34 1) ∧ wI (h 34 1) < 102) ∧
    (((1 : Int) = 0 ∨ (1 : Int) = 1) ∧ Go G (pI P) 192 190 [some (vR 34), none, some (vI (h 34 1)), none, none] [] (hs h 37 (wI (h 34 1)).toNat 1)))) ∧
    (¬ (102 : Int) ≤ wI x2 →
    ((0 ≤ wI x2 ∧ wI x2 < 102) ∧
    (((0 : Int) = 0 ∨ (0 : Int) = 1) ∧ Go G (pI P) 192 159 [some (vR 34), none, some (vI (x2 + 1)), none, none] [] (hs h 37 (wI x2).toNat 0)))))) :
  Go G (pI P) 192 159 [some (vR 34), none, some (vI x2), none, none] [] h := go1 ok192 900 H
set_option maxRecDepth 100000 in
theorem q_M_isMountable_c190 {G : GG} {P : Int → AH → Prop} {x2 : Int} {h : AH}
  (H : RunsL G 171 [vR 34, vR 35, vI x2] h (fun r1 h1 =>
  ((wL r1 = (4294967295 : Int) →
    RunsI G 194 [vR 34] h1 (fun r2 h2 =>
    ((wI r2 = 0 →
      (((0 : Int) = 0 ∨ (0 : Int) = 1) ∧ P 0 h2)) ∧
      (¬ wI r2 = 0 →
      RunsI G 195 [vR 34] h2 (fun r3 h3 =>
      ((wI r3 = 0 →
        (((0 : Int) = 0 ∨ (0 : Int) = 1) ∧ P 0 h3)) ∧
        (¬ wI r3 = 0 →
        (((1 : Int) = 0 ∨ (1 : Int) = 1) ∧ P 1 h3)))))))) ∧
    (¬ wL r1 = (4294967295 : Int) →
    RunsL G 171 [vR 34, vR 35, vI x2] h1 (fun r4 h4 =>
    RunsI G 170 [vR 34, vL r4] h4 (fun r5 h5 =>
    ((wI r5 = 0 →
      RunsI G 188 [vR 34, vI 3, vI x2, vI 0] h5 (fun r6 h6 =>
      ((r6 = 0 ∨ r6 = 1) ∧ P r6 h6))) ∧
      (¬ wI r5 = 0 →
      ((0 ≤ wI r4 ∧ wI r4 < 102) ∧
      ((wI (h5 37 (wI r4).toNat) = 0 →
        ((0 ≤ wI r4 ∧ wI r4 < 102) ∧
        (((1 : Int) = 0 ∨ (1 : Int) = 1) ∧ Go G (pI P) 192 190 [some (vR 34), none, some (vI r4), none, none] [] (hs h5 37 (wI r4).toNat 1)))) ∧
        (¬ wI (h5 37 (wI r4).toNat) = 0 →
        RunsI G 188 [vR 34, vI 3, vI x2, vI 0] h5 (fun r7 h7 =>
        ((r7 = 0 ∨ r7 = 1) ∧ P r7 h7))))))))))))) :
  Go G (pI P) 192 190 [some (vR 34), none, some (vI x2), none, none] [] h := go1 ok192 900 H
-- Model.hasCluster(I)Z  [34]
set_option maxRecDepth 100000 in
theorem q_M_hasCluster {G : GG} {P : Int → AH → Prop} {x1 : Int} {h : AH}
  (H : RunsL G 167 [vR 35, vI (x1 + 20), vI 4] h (fun r1 h1 =>
  RunsI G 170 [vR 34, vL r1] h1 (fun r2 h2 =>
  ((wI r2 = 0 →
    (((0 : Int) = 0 ∨ (0 : Int) = 1) ∧ P 0 h2)) ∧
    (¬ wI r2 = 0 →
    ((0 ≤ wI r1 ∧ wI r1 < 102) ∧
    ((wI (h2 37 (wI r1).toNat) = 0 →
      RunsL G 171 [vR 34, vR 35, vI r1] h2 (fun r3 h3 =>
      ((wL r3 = (4294967295 : Int) →
        (((1 : Int) = 0 ∨ (1 : Int) = 1) ∧ P 1 h3)) ∧
        (¬ wL r3 = (4294967295 : Int) →
        (((0 : Int) = 0 ∨ (0 : Int) = 1) ∧ P 0 h3))))) ∧
      (¬ wI (h2 37 (wI r1).toNat) = 0 →
      (((0 : Int) = 0 ∨ (0 : Int) = 1) ∧ P 0 h2))))))))) :
  RunsI G 193 [vR 34, vI x1] h P := runs_of (by decide) 2 rfl (go1 ok193 900 H)
-- Model.isMapThere()Z  [34]
set_option maxRecDepth 100000 in
theorem q_M_isMapThere {G : GG} {P : Int → AH → Prop} {h : AH}
  (H : RunsI G 169 [vI (h 34 1)] h (fun r1 h1 =>
  ((0 ≤ wI r1 ∧ wI r1 < 13824) ∧
  ((wI (h1 35 (wI r1).toNat) = ((-127) : Int) →
    RunsI G 190 [vR 34, vI (r1 + 1), vI (r1 + 20)] h1 (fun r2 h2 =>
    ((wI r2 = 0 →
      Go G (pI P) 194 74 [some (vR 34), some (vI r1), none] [vI 0] h2) ∧
      (¬ wI r2 = 0 →
      RunsI G 193 [vR 34, vI r1] h2 (fun r3 h3 =>
      ((wI r3 = 0 →
        Go G (pI P) 194 74 [some (vR 34), some (vI r1), none] [vI 0] h3) ∧
        (¬ wI r3 = 0 →
        RunsL G 167 [vR 35, vI (r1 + 24), vI 8] h3 (fun r4 h4 =>
        ((8 : Int) ≠ 0 ∧ ((wL r4 = wL (wI (Int.tdiv (wI ((h4 34 0) + 7)) 8)) →
          Go G (pI P) 194 74 [some (vR 34), some (vI r1), none] [vI 1] h4) ∧
          (¬ wL r4 = wL (wI (Int.tdiv (wI ((h4 34 0) + 7)) 8)) →
          Go G (pI P) 194 74 [some (vR 34), some (vI r1), none] [vI 0] h4))))))))))) ∧
    (¬ wI (h1 35 (wI r1).toNat) = ((-127) : Int) →
    Go G (pI P) 194 74 [some (vR 34), some (vI r1), none] [vI 0] h1))))) :
  RunsI G 194 [vR 34] h P := runs_of (by decide) 2 rfl (go1 ok194 900 H)
set_option maxRecDepth 100000 in
theorem q_M_isMapThere_c74 {G : GG} {P : Int → AH → Prop} {x1 s0 : Int} {h : AH}
  (H : ((wI s0 = 0 →
    RunsI G 188 [vR 34, vI 4, vI (h 34 1), vI 0] h (fun r2 h2 =>
    ((r2 = 0 ∨ r2 = 1) ∧ P r2 h2))) ∧
    (¬ wI s0 = 0 →
    RunsL G 167 [vR 35, vI (x1 + 20), vI 4] h (fun r1 h1 =>
    ((0 ≤ wI ((hs h1 34 2 r1) 34 2) ∧ wI ((hs h1 34 2 r1) 34 2) < 102) ∧
    (((1 : Int) = 0 ∨ (1 : Int) = 1) ∧ (((1 : Int) = 0 ∨ (1 : Int) = 1) ∧ P 1 (hs (hs h1 34 2 r1) 37 (wI ((hs h1 34 2 r1) 34 2)).toNat 1)))))))) :
  Go G (pI P) 194 74 [some (vR 34), some (vI x1), none] [vI s0] h := go1 ok194 900 H
-- Model.isTableThere()Z  [34]
set_option maxRecDepth 100000 in
theorem q_M_isTableThere {G : GG} {P : Int → AH → Prop} {h : AH}
  (H : RunsI G 169 [vI (h 34 1)] h (fun r1 h1 =>
  RunsL G 167 [vR 35, vI ((r1 + 32) + 24), vI 8] h1 (fun r2 h2 =>
  ((0 ≤ wI (r1 + 32) ∧ wI (r1 + 32) < 13824) ∧
  ((wI (h2 35 (wI (r1 + 32)).toNat) = ((-126) : Int) →
    RunsI G 190 [vR 34, vI ((r1 + 32) + 1), vI ((r1 + 32) + 4)] h2 (fun r3 h3 =>
    ((wI r3 = 0 →
      Go G (pI P) 195 100 [some (vR 34), some (vI (r1 + 32)), some (vL r2), none, none] [vI 0] h3) ∧
      (¬ wI r3 = 0 →
      RunsI G 190 [vR 34, vI ((r1 + 32) + 8), vI ((r1 + 32) + 20)] h3 (fun r4 h4 =>
      ((wI r4 = 0 →
        Go G (pI P) 195 100 [some (vR 34), some (vI (r1 + 32)), some (vL r2), none, none] [vI 0] h4) ∧
        (¬ wI r4 = 0 →
        RunsI G 193 [vR 34, vI (r1 + 32)] h4 (fun r5 h5 =>
        ((wI r5 = 0 →
          Go G (pI P) 195 100 [some (vR 34), some (vI (r1 + 32)), some (vL r2), none, none] [vI 0] h5) ∧
          (¬ wI r5 = 0 →
          RunsI G 166 [vL r2, vL 2, vL 128] h5 (fun r6 h6 =>
          ((wI r6 = 0 →
            Go G (pI P) 195 100 [some (vR 34), some (vI (r1 + 32)), some (vL r2), none, none] [vI 0] h6) ∧
            (¬ wI r6 = 0 →
            ((2 : Int) ≠ 0 ∧ ((wL (Int.tmod (wL r2) 2) = (0 : Int) →
              Go G (pI P) 195 100 [some (vR 34), some (vI (r1 + 32)), some (vL r2), none, none] [vI 1] h6) ∧
              (¬ wL (Int.tmod (wL r2) 2) = (0 : Int) →
              Go G (pI P) 195 100 [some (vR 34), some (vI (r1 + 32)), some (vL r2), none, none] [vI 0] h6)))))))))))))))) ∧
    (¬ wI (h2 35 (wI (r1 + 32)).toNat) = ((-126) : Int) →
    Go G (pI P) 195 100 [some (vR 34), some (vI (r1 + 32)), some (vL r2), none, none] [vI 0] h2)))))) :
  RunsI G 195 [vR 34] h P := runs_of (by decide) 4 rfl (go1 ok195 900 H)
set_option maxRecDepth 100000 in
theorem q_M_isTableThere_c100 {G : GG} {P : Int → AH → Prop} {x1 y2 s0 : Int} {h : AH}
  (H : ((wI s0 = 0 →
    RunsI G 188 [vR 34, vI 4, vI (h 34 1), vI 1] h (fun r9 h9 =>
    ((r9 = 0 ∨ r9 = 1) ∧ P r9 h9))) ∧
    (¬ wI s0 = 0 →
    RunsL G 167 [vR 35, vI (x1 + 20), vI 4] h (fun r1 h1 =>
    RunsL G 167 [vR 35, vI (x1 + 4), vI 4] (hs h1 34 15 r1) (fun r2 h2 =>
    RunsI G 169 [vI (h2 34 15)] h2 (fun r3 h3 =>
    RunsL G 176 [vR 35, vI r3, vI y2, vI 0] h3 (fun r4 h4 =>
    ((wL r2 = wL r4 →
      RunsI G 169 [vI (h4 34 15)] h4 (fun r6 h6 =>
      RunsI G 196 [vR 34, vI r6, vI y2] h6 (fun r7 h7 =>
      ((wI r7 = 0 →
        RunsI G 188 [vR 34, vI 4, vI (h7 34 1), vI 1] h7 (fun r8 h8 =>
        ((r8 = 0 ∨ r8 = 1) ∧ P r8 h8))) ∧
        (¬ wI r7 = 0 →
        ((0 ≤ wI (h7 34 15) ∧ wI (h7 34 15) < 102) ∧
        (((1 : Int) = 0 ∨ (1 : Int) = 1) ∧ (((1 : Int) = 0 ∨ (1 : Int) = 1) ∧ P 1 (hs h7 37 (wI (h7 34 15)).toNat 1))))))))) ∧
      (¬ wL r2 = wL r4 →
      RunsI G 188 [vR 34, vI 4, vI (h4 34 1), vI 1] h4 (fun r5 h5 =>
      ((r5 = 0 ∨ r5 = 1) ∧ P r5 h5))))))))))) :
  Go G (pI P) 195 100 [some (vR 34), some (vI x1), some (vL y2), none, none] [vI s0] h := go1 ok195 900 H
-- Model.isTable(II)Z  [34]
set_option maxRecDepth 100000 in
theorem q_M_isTable {G : GG} {P : Int → AH → Prop} {x1 x2 : Int} {h : AH}
  (H : Go G (pI P) 196 2 [some (vR 34), some (vI x1), some (vI x2), some (vI 0), none, none, none, none] [] h) :
  RunsI G 196 [vR 34, vI x1, vI x2] h P := runs_of (by decide) 5 rfl (go1 ok196 900 H)
set_option maxRecDepth 100000 in
theorem q_M_isTable_c2 {G : GG} {P : Int → AH → Prop} {x1 x2 x3 : Int} {h : AH}
  (H : (((256 : Int) ≤ wI x3 →
    Go G (pI P) 196 27 [some (vR 34), some (vI x1), some (vI x2), some (vL 0), none, some (vI 0), none, none] [] h) ∧
    (¬ (256 : Int) ≤ wI x3 →
    ((0 ≤ wI x3 ∧ wI x3 < 256) ∧
    Go G (pI P) 196 2 [some (vR 34), some (vI x1), some (vI x2), some (vI (x3 + 1)), none, none, none, none] [] (hs h 38 (wI x3).toNat x3))))) :
  Go G (pI P) 196 2 [some (vR 34), some (vI x1), some (vI x2), some (vI x3), none, none, none, none] [] h := go1 ok196 900 H
set_option maxRecDepth 100000 in
theorem q_M_isTable_c27 {G : GG} {P : Int → AH → Prop} {x1 x2 y3 x5 : Int} {h : AH}
  (H : ((wI x2 ≤ wI x5 →
    Go G (pI P) 196 137 [some (vR 34), none, none, none, none, none, some (vI 0), none] [] h) ∧
    (¬ wI x2 ≤ wI x5 →
    RunsL G 167 [vR 35, vI (x1 + x5), vI 2] h (fun r1 h1 =>
    ((wL r1 = (65535 : Int) →
      ((wI (x5 + 2) = wI x2 →
        (((0 : Int) = 0 ∨ (0 : Int) = 1) ∧ P 0 h1)) ∧
        (¬ wI (x5 + 2) = wI x2 →
        RunsL G 167 [vR 35, vI (x1 + (x5 + 2)), vI 2] h1 (fun r2 h2 =>
        ((wL (y3 + r2) ≤ (256 : Int) →
          Go G (pI P) 196 27 [some (vR 34), some (vI x1), some (vI x2), some (vL (y3 + r2)), none, some (vI ((x5 + 2) + 2)), none, none] [] h2) ∧
          (¬ wL (y3 + r2) ≤ (256 : Int) →
          (((0 : Int) = 0 ∨ (0 : Int) = 1) ∧ P 0 h2))))))) ∧
      (¬ wL r1 = (65535 : Int) →
      (((255 : Int) < wL y3 →
        (((0 : Int) = 0 ∨ (0 : Int) = 1) ∧ P 0 h1)) ∧
        (¬ (255 : Int) < wL y3 →
        ((wL r1 ≤ (255 : Int) →
          ((0 ≤ wI y3 ∧ wI y3 < 256) ∧
          ((wL (y3 + 1) ≤ (256 : Int) →
            Go G (pI P) 196 27 [some (vR 34), some (vI x1), some (vI x2), some (vL (y3 + 1)), none, some (vI (x5 + 2)), none, none] [] (hs h1 38 (wI y3).toNat r1)) ∧
            (¬ wL (y3 + 1) ≤ (256 : Int) →
            (((0 : Int) = 0 ∨ (0 : Int) = 1) ∧ P 0 (hs h1 38 (wI y3).toNat r1)))))) ∧
          (¬ wL r1 ≤ (255 : Int) →
          (((0 : Int) = 0 ∨ (0 : Int) = 1) ∧ P 0 h1))))))))))) :
  Go G (pI P) 196 27 [some (vR 34), some (vI x1), some (vI x2), some (vL y3), none, some (vI x5), none, none] [] h := go1 ok196 900 H
set_option maxRecDepth 100000 in
theorem q_M_isTable_c137 {G : GG} {P : Int → AH → Prop} {x6 : Int} {h : AH}
  (H : (((256 : Int) ≤ wI x6 →
    (((1 : Int) = 0 ∨ (1 : Int) = 1) ∧ P 1 h)) ∧
    (¬ (256 : Int) ≤ wI x6 →
    ((0 ≤ wI x6 ∧ wI x6 < 256) ∧
    ((0 ≤ wI (h 38 (wI x6).toNat) ∧ wI (h 38 (wI x6).toNat) < 256) ∧
    ((0 ≤ wI x6 ∧ wI x6 < 256) ∧
    ((wI (h 38 (wI (h 38 (wI x6).toNat)).toNat) = wI (h 38 (wI x6).toNat) →
      Go G (pI P) 196 137 [some (vR 34), none, none, none, none, none, some (vI (x6 + 1)), none] [] h) ∧
      (¬ wI (h 38 (wI (h 38 (wI x6).toNat)).toNat) = wI (h 38 (wI x6).toNat) →
      (((0 : Int) = 0 ∨ (0 : Int) = 1) ∧ P 0 h))))))))) :
  Go G (pI P) 196 137 [some (vR 34), none, none, none, none, none, some (vI x6), none] [] h := go1 ok196 900 H
-- Model.entryAt(I)I  [34]
set_option maxRecDepth 100000 in
theorem q_M_entryAt {G : GG} {P : Int → AH → Prop} {x1 : Int} {h : AH}
  (H : ((4 : Int) ≠ 0 ∧ ((0 ≤ wI (Int.tdiv (wI x1) 4) ∧ wI (Int.tdiv (wI x1) 4) < 102) ∧
  RunsI G 169 [vI (h 39 (wI (Int.tdiv (wI x1) 4)).toNat)] h (fun r1 h1 =>
  ((4 : Int) ≠ 0 ∧ P (r1 + (32 * (Int.tmod (wI x1) 4))) h1))))) :
  RunsI G 197 [vR 34, vI x1] h P := runs_of (by decide) 0 rfl (go1 ok197 900 H)
-- Model.typeOf(I)I  [34]
set_option maxRecDepth 100000 in
theorem q_M_typeOf {G : GG} {P : Int → AH → Prop} {x1 : Int} {h : AH}
  (H : RunsI G 197 [vR 34, vI x1] h (fun r1 h1 =>
  ((0 ≤ wI r1 ∧ wI r1 < 13824) ∧
  P (bA (h1 35 (wI r1).toNat) 255) h1))) :
  RunsI G 198 [vR 34, vI x1] h P := runs_of (by decide) 0 rfl (go1 ok198 900 H)
-- Model.entries()I  [34]
set_option maxRecDepth 100000 in
theorem q_M_entries {G : GG} {P : Int → AH → Prop} {h : AH}
  (H : P (4 * (h 34 17)) h) :
  RunsI G 199 [vR 34] h P := runs_of (by decide) 0 rfl (go1 ok199 900 H)
-- Model.rowOfRoot()V  [34]
set_option maxRecDepth 100000 in
theorem q_M_rowOfRoot {G : GG} {P : AH → Prop} {h : AH}
  (H : Go G (pV P) 200 11 [some (vR 34), some (vL (wI ((hs h 34 17 0) 34 1))), none] [] (hs h 34 17 0)) :
  RunsV G 200 [vR 34] h P := runs_of (by decide) 2 rfl (go1 ok200 900 H)
set_option maxRecDepth 100000 in
theorem q_M_rowOfRoot_c11 {G : GG} {P : AH → Prop} {y1 : Int} {h : AH}
  (H : ((wL y1 = (4294967295 : Int) →
    P h) ∧
    (¬ wL y1 = (4294967295 : Int) →
    ((0 ≤ wI (h 34 17) ∧ wI (h 34 17) < 102) ∧
    RunsL G 171 [vR 34, vR 35, vI y1] (hs (hs h 39 (wI (h 34 17)).toNat y1) 34 17 (((hs h 39 (wI (h 34 17)).toNat y1) 34 17) + 1)) (fun r1 h1 =>
    Go G (pV P) 200 11 [some (vR 34), some (vL r1), none] [] h1))))) :
  Go G (pV P) 200 11 [some (vR 34), some (vL y1), none] [] h := go1 ok200 900 H
-- Model.isLetter(I)Z  []
set_option maxRecDepth 100000 in
theorem q_M_isLetter {G : GG} {P : Int → AH → Prop} {x0 : Int} {h : AH}
  (H : ((wI x0 = (34 : Int) →
    Go G (pI P) 201 59 [some (vI x0), none] [vI 1] h) ∧
    (¬ wI x0 = (34 : Int) →
    ((wI x0 = (42 : Int) →
      Go G (pI P) 201 59 [some (vI x0), none] [vI 1] h) ∧
      (¬ wI x0 = (42 : Int) →
      ((wI x0 = (47 : Int) →
        Go G (pI P) 201 59 [some (vI x0), none] [vI 1] h) ∧
        (¬ wI x0 = (47 : Int) →
        ((wI x0 = (58 : Int) →
          Go G (pI P) 201 59 [some (vI x0), none] [vI 1] h) ∧
          (¬ wI x0 = (58 : Int) →
          ((wI x0 = (60 : Int) →
            Go G (pI P) 201 59 [some (vI x0), none] [vI 1] h) ∧
            (¬ wI x0 = (60 : Int) →
            ((wI x0 = (62 : Int) →
              Go G (pI P) 201 59 [some (vI x0), none] [vI 1] h) ∧
              (¬ wI x0 = (62 : Int) →
              ((wI x0 = (63 : Int) →
                Go G (pI P) 201 59 [some (vI x0), none] [vI 1] h) ∧
                (¬ wI x0 = (63 : Int) →
                ((wI x0 = (92 : Int) →
                  Go G (pI P) 201 59 [some (vI x0), none] [vI 1] h) ∧
                  (¬ wI x0 = (92 : Int) →
                  ((wI x0 = (124 : Int) →
                    Go G (pI P) 201 59 [some (vI x0), none] [vI 1] h) ∧
                    (¬ wI x0 = (124 : Int) →
                    Go G (pI P) 201 59 [some (vI x0), none] [vI 0] h))))))))))))))))))) :
  RunsI G 201 [vI x0] h P := runs_of (by decide) 1 rfl (go1 ok201 900 H)
set_option maxRecDepth 100000 in
theorem q_M_isLetter_c59 {G : GG} {P : Int → AH → Prop} {x0 s0 : Int} {h : AH}
  (H : RunsI G 166 [vL (wI x0), vL 32, vL 126] h (fun r1 h1 =>
  ((wI r1 = 0 →
    RunsI G 166 [vL (wI x0), vL 160, vL 255] h1 (fun r2 h2 =>
    ((wI r2 = 0 →
      (((0 : Int) = 0 ∨ (0 : Int) = 1) ∧ P 0 h2)) ∧
      (¬ wI r2 = 0 →
      (((1 : Int) = 0 ∨ (1 : Int) = 1) ∧ P 1 h2))))) ∧
    (¬ wI r1 = 0 →
    ((wI s0 = 0 →
      (((1 : Int) = 0 ∨ (1 : Int) = 1) ∧ P 1 h1)) ∧
      (¬ wI s0 = 0 →
      RunsI G 166 [vL (wI x0), vL 160, vL 255] h1 (fun r3 h3 =>
      ((wI r3 = 0 →
        (((0 : Int) = 0 ∨ (0 : Int) = 1) ∧ P 0 h3)) ∧
        (¬ wI r3 = 0 →
        (((1 : Int) = 0 ∨ (1 : Int) = 1) ∧ P 1 h3)))))))))) :
  Go G (pI P) 201 59 [some (vI x0), none] [vI s0] h := go1 ok201 900 H
-- Model.isName([II)Z  [40]
set_option maxRecDepth 100000 in
theorem q_M_isName_40 {G : GG} {P : Int → AH → Prop} {x1 : Int} {h : AH}
  (H : RunsI G 166 [vL (wI x1), vL 1, vL 30] h (fun r1 h1 =>
  Go G (pI P) 202 12 [some (vR 40), some (vI x1), some (vI r1), some (vI 0)] [] h1)) :
  RunsI G 202 [vR 40, vI x1] h P := runs_of (by decide) 2 rfl (go1 ok202 900 H)
set_option maxRecDepth 100000 in
theorem q_M_isName_40_c12 {G : GG} {P : Int → AH → Prop} {x1 x2 x3 : Int} {h : AH}
  (H : ((wI x1 ≤ wI x3 →
    Go G (pI P) 202 34 [some (vR 40), some (vI x1), some (vI x2), none] [] h) ∧
    (¬ wI x1 ≤ wI x3 →
    ((wI x2 = 0 →
      Go G (pI P) 202 34 [some (vR 40), some (vI x1), some (vI x2), none] [] h) ∧
      (¬ wI x2 = 0 →
      ((0 ≤ wI x3 ∧ wI x3 < 30) ∧
      RunsI G 201 [vI (h 40 (wI x3).toNat)] h (fun r1 h1 =>
      Go G (pI P) 202 12 [some (vR 40), some (vI x1), some (vI r1), some (vI (x3 + 1))] [] h1))))))) :
  Go G (pI P) 202 12 [some (vR 40), some (vI x1), some (vI x2), some (vI x3)] [] h := go1 ok202 900 H
set_option maxRecDepth 100000 in
theorem q_M_isName_40_c34 {G : GG} {P : Int → AH → Prop} {x1 x2 : Int} {h : AH}
  (H : ((wI x2 = 0 →
    (((0 : Int) = 0 ∨ (0 : Int) = 1) ∧ P 0 h)) ∧
    (¬ wI x2 = 0 →
    ((0 ≤ wI (x1 - 1) ∧ wI (x1 - 1) < 30) ∧
    ((wI (h 40 (wI (x1 - 1)).toNat) = (32 : Int) →
      (((0 : Int) = 0 ∨ (0 : Int) = 1) ∧ P 0 h)) ∧
      (¬ wI (h 40 (wI (x1 - 1)).toNat) = (32 : Int) →
      ((0 ≤ wI (x1 - 1) ∧ wI (x1 - 1) < 30) ∧
      ((wI (h 40 (wI (x1 - 1)).toNat) = (46 : Int) →
        (((0 : Int) = 0 ∨ (0 : Int) = 1) ∧ P 0 h)) ∧
        (¬ wI (h 40 (wI (x1 - 1)).toNat) = (46 : Int) →
        (((1 : Int) = 0 ∨ (1 : Int) = 1) ∧ P 1 h)))))))))) :
  Go G (pI P) 202 34 [some (vR 40), some (vI x1), some (vI x2), none] [] h := go1 ok202 900 H
-- Model.isName([II)Z  [52]
set_option maxRecDepth 100000 in
theorem q_M_isName_52 {G : GG} {P : Int → AH → Prop} {x1 : Int} {h : AH}
  (H : RunsI G 166 [vL (wI x1), vL 1, vL 30] h (fun r1 h1 =>
  Go G (pI P) 202 12 [some (vR 52), some (vI x1), some (vI r1), some (vI 0)] [] h1)) :
  RunsI G 202 [vR 52, vI x1] h P := runs_of (by decide) 2 rfl (go1 ok202 900 H)
set_option maxRecDepth 100000 in
theorem q_M_isName_52_c12 {G : GG} {P : Int → AH → Prop} {x1 x2 x3 : Int} {h : AH}
  (H : ((wI x1 ≤ wI x3 →
    Go G (pI P) 202 34 [some (vR 52), some (vI x1), some (vI x2), none] [] h) ∧
    (¬ wI x1 ≤ wI x3 →
    ((wI x2 = 0 →
      Go G (pI P) 202 34 [some (vR 52), some (vI x1), some (vI x2), none] [] h) ∧
      (¬ wI x2 = 0 →
      ((0 ≤ wI x3 ∧ wI x3 < 30) ∧
      RunsI G 201 [vI (h 52 (wI x3).toNat)] h (fun r1 h1 =>
      Go G (pI P) 202 12 [some (vR 52), some (vI x1), some (vI r1), some (vI (x3 + 1))] [] h1))))))) :
  Go G (pI P) 202 12 [some (vR 52), some (vI x1), some (vI x2), some (vI x3)] [] h := go1 ok202 900 H
set_option maxRecDepth 100000 in
theorem q_M_isName_52_c34 {G : GG} {P : Int → AH → Prop} {x1 x2 : Int} {h : AH}
  (H : ((wI x2 = 0 →
    (((0 : Int) = 0 ∨ (0 : Int) = 1) ∧ P 0 h)) ∧
    (¬ wI x2 = 0 →
    ((0 ≤ wI (x1 - 1) ∧ wI (x1 - 1) < 30) ∧
    ((wI (h 52 (wI (x1 - 1)).toNat) = (32 : Int) →
      (((0 : Int) = 0 ∨ (0 : Int) = 1) ∧ P 0 h)) ∧
      (¬ wI (h 52 (wI (x1 - 1)).toNat) = (32 : Int) →
      ((0 ≤ wI (x1 - 1) ∧ wI (x1 - 1) < 30) ∧
      ((wI (h 52 (wI (x1 - 1)).toNat) = (46 : Int) →
        (((0 : Int) = 0 ∨ (0 : Int) = 1) ∧ P 0 h)) ∧
        (¬ wI (h 52 (wI (x1 - 1)).toNat) = (46 : Int) →
        (((1 : Int) = 0 ∨ (1 : Int) = 1) ∧ P 1 h)))))))))) :
  Go G (pI P) 202 34 [some (vR 52), some (vI x1), some (vI x2), none] [] h := go1 ok202 900 H
-- Model.hashOf([II)I  [34, 40]
set_option maxRecDepth 100000 in
theorem q_M_hashOf_40 {G : GG} {P : Int → AH → Prop} {x2 : Int} {h : AH}
  (H : Go G (pI P) 203 5 [some (vR 34), some (vR 40), some (vI x2), some (vL 0), none, some (vI 0), none] [] h) :
  RunsI G 203 [vR 34, vR 40, vI x2] h P := runs_of (by decide) 4 rfl (go1 ok203 900 H)
set_option maxRecDepth 100000 in
theorem q_M_hashOf_40_c5 {G : GG} {P : Int → AH → Prop} {x2 y3 x5 : Int} {h : AH}
  (H : ((wI x2 ≤ wI x5 →
    P y3 h) ∧
    (¬ wI x2 ≤ wI x5 →
    ((0 ≤ wI x5 ∧ wI x5 < 30) ∧
    ((0 ≤ wI (h 40 (wI x5).toNat) ∧ wI (h 40 (wI x5).toNat) < 256) ∧
    RunsL G 175 [vL y3, vI (bA (h 38 (wI (h 40 (wI x5).toNat)).toNat) 255), vL 32768, vL 65535] h (fun r1 h1 =>
    RunsL G 175 [vL r1, vI (sRI (h 38 (wI (h 40 (wI x5).toNat)).toNat) 8), vL 32768, vL 65535] h1 (fun r2 h2 =>
    Go G (pI P) 203 5 [some (vR 34), some (vR 40), some (vI x2), some (vL r2), none, some (vI (x5 + 1)), none] [] h2))))))) :
  Go G (pI P) 203 5 [some (vR 34), some (vR 40), some (vI x2), some (vL y3), none, some (vI x5), none] [] h := go1 ok203 900 H
-- Model.hashOf([II)I  [34, 52]
set_option maxRecDepth 100000 in
theorem q_M_hashOf_52 {G : GG} {P : Int → AH → Prop} {x2 : Int} {h : AH}
  (H : Go G (pI P) 203 5 [some (vR 34), some (vR 52), some (vI x2), some (vL 0), none, some (vI 0), none] [] h) :
  RunsI G 203 [vR 34, vR 52, vI x2] h P := runs_of (by decide) 4 rfl (go1 ok203 900 H)
set_option maxRecDepth 100000 in
theorem q_M_hashOf_52_c5 {G : GG} {P : Int → AH → Prop} {x2 y3 x5 : Int} {h : AH}
  (H : ((wI x2 ≤ wI x5 →
    P y3 h) ∧
    (¬ wI x2 ≤ wI x5 →
    ((0 ≤ wI x5 ∧ wI x5 < 30) ∧
    ((0 ≤ wI (h 52 (wI x5).toNat) ∧ wI (h 52 (wI x5).toNat) < 256) ∧
    RunsL G 175 [vL y3, vI (bA (h 38 (wI (h 52 (wI x5).toNat)).toNat) 255), vL 32768, vL 65535] h (fun r1 h1 =>
    RunsL G 175 [vL r1, vI (sRI (h 38 (wI (h 52 (wI x5).toNat)).toNat) 8), vL 32768, vL 65535] h1 (fun r2 h2 =>
    Go G (pI P) 203 5 [some (vR 34), some (vR 52), some (vI x2), some (vL r2), none, some (vI (x5 + 1)), none] [] h2))))))) :
  Go G (pI P) 203 5 [some (vR 34), some (vR 52), some (vI x2), some (vL y3), none, some (vI x5), none] [] h := go1 ok203 900 H
-- Model.setSum([BII)I  [34, 35]
set_option maxRecDepth 100000 in
theorem q_M_setSum_35 {G : GG} {P : Int → AH → Prop} {x2 x3 : Int} {h : AH}
  (H : Go G (pI P) 204 6 [some (vR 34), some (vR 35), some (vI x2), some (vI x3), some (vL 0), none, some (vI 0), none] [] h) :
  RunsI G 204 [vR 34, vR 35, vI x2, vI x3] h P := runs_of (by decide) 4 rfl (go1 ok204 900 H)
set_option maxRecDepth 100000 in
theorem q_M_setSum_35_c6 {G : GG} {P : Int → AH → Prop} {x2 x3 y4 x6 : Int} {h : AH}
  (H : ((wI x3 ≤ wI x6 →
    P y4 h) ∧
    (¬ wI x3 ≤ wI x6 →
    Go G (pI P) 204 15 [some (vR 34), some (vR 35), some (vI x2), some (vI x3), some (vL y4), none, some (vI x6), some (vI 0)] [] h))) :
  Go G (pI P) 204 6 [some (vR 34), some (vR 35), some (vI x2), some (vI x3), some (vL y4), none, some (vI x6), none] [] h := go1 ok204 900 H
set_option maxRecDepth 100000 in
theorem q_M_setSum_35_c15 {G : GG} {P : Int → AH → Prop} {x2 x3 y4 x6 x7 : Int} {h : AH}
  (H : (((32 : Int) ≤ wI x7 →
    Go G (pI P) 204 6 [some (vR 34), some (vR 35), some (vI x2), some (vI x3), some (vL y4), none, some (vI (x6 + 1)), none] [] h) ∧
    (¬ (32 : Int) ≤ wI x7 →
    ((0 < wI x6 →
      Go G (pI P) 204 39 [some (vR 34), some (vR 35), some (vI x2), some (vI x3), some (vL y4), none, some (vI x6), some (vI x7)] [] h) ∧
      (¬ 0 < wI x6 →
      ((wI x7 = (2 : Int) →
        Go G (pI P) 204 15 [some (vR 34), some (vR 35), some (vI x2), some (vI x3), some (vL y4), none, some (vI x6), some (vI (x7 + 1))] [] h) ∧
        (¬ wI x7 = (2 : Int) →
        ((wI x7 = (3 : Int) →
          Go G (pI P) 204 15 [some (vR 34), some (vR 35), some (vI x2), some (vI x3), some (vL y4), none, some (vI x6), some (vI (x7 + 1))] [] h) ∧
          (¬ wI x7 = (3 : Int) →
          Go G (pI P) 204 39 [some (vR 34), some (vR 35), some (vI x2), some (vI x3), some (vL y4), none, some (vI x6), some (vI x7)] [] h))))))))) :
  Go G (pI P) 204 15 [some (vR 34), some (vR 35), some (vI x2), some (vI x3), some (vL y4), none, some (vI x6), some (vI x7)] [] h := go1 ok204 900 H
set_option maxRecDepth 100000 in
theorem q_M_setSum_35_c39 {G : GG} {P : Int → AH → Prop} {x2 x3 y4 x6 x7 : Int} {h : AH}
  (H : RunsI G 197 [vR 34, vI (x2 + x6)] h (fun r1 h1 =>
  ((0 ≤ wI (r1 + x7) ∧ wI (r1 + x7) < 13824) ∧
  RunsL G 175 [vL y4, vI (bA (h1 35 (wI (r1 + x7)).toNat) 255), vL 32768, vL 65535] h1 (fun r2 h2 =>
  Go G (pI P) 204 15 [some (vR 34), some (vR 35), some (vI x2), some (vI x3), some (vL r2), none, some (vI x6), some (vI (x7 + 1))] [] h2)))) :
  Go G (pI P) 204 39 [some (vR 34), some (vR 35), some (vI x2), some (vI x3), some (vL y4), none, some (vI x6), some (vI x7)] [] h := go1 ok204 900 H
-- Model.setSum([BII)I  [34, 36]
set_option maxRecDepth 100000 in
theorem q_M_setSum_36 {G : GG} {P : Int → AH → Prop} {x2 x3 : Int} {h : AH}
  (H : Go G (pI P) 204 6 [some (vR 34), some (vR 36), some (vI x2), some (vI x3), some (vL 0), none, some (vI 0), none] [] h) :
  RunsI G 204 [vR 34, vR 36, vI x2, vI x3] h P := runs_of (by decide) 4 rfl (go1 ok204 900 H)
set_option maxRecDepth 100000 in
theorem q_M_setSum_36_c6 {G : GG} {P : Int → AH → Prop} {x2 x3 y4 x6 : Int} {h : AH}
  (H : ((wI x3 ≤ wI x6 →
    P y4 h) ∧
    (¬ wI x3 ≤ wI x6 →
    Go G (pI P) 204 15 [some (vR 34), some (vR 36), some (vI x2), some (vI x3), some (vL y4), none, some (vI x6), some (vI 0)] [] h))) :
  Go G (pI P) 204 6 [some (vR 34), some (vR 36), some (vI x2), some (vI x3), some (vL y4), none, some (vI x6), none] [] h := go1 ok204 900 H
set_option maxRecDepth 100000 in
theorem q_M_setSum_36_c15 {G : GG} {P : Int → AH → Prop} {x2 x3 y4 x6 x7 : Int} {h : AH}
  (H : (((32 : Int) ≤ wI x7 →
    Go G (pI P) 204 6 [some (vR 34), some (vR 36), some (vI x2), some (vI x3), some (vL y4), none, some (vI (x6 + 1)), none] [] h) ∧
    (¬ (32 : Int) ≤ wI x7 →
    ((0 < wI x6 →
      Go G (pI P) 204 39 [some (vR 34), some (vR 36), some (vI x2), some (vI x3), some (vL y4), none, some (vI x6), some (vI x7)] [] h) ∧
      (¬ 0 < wI x6 →
      ((wI x7 = (2 : Int) →
        Go G (pI P) 204 15 [some (vR 34), some (vR 36), some (vI x2), some (vI x3), some (vL y4), none, some (vI x6), some (vI (x7 + 1))] [] h) ∧
        (¬ wI x7 = (2 : Int) →
        ((wI x7 = (3 : Int) →
          Go G (pI P) 204 15 [some (vR 34), some (vR 36), some (vI x2), some (vI x3), some (vL y4), none, some (vI x6), some (vI (x7 + 1))] [] h) ∧
          (¬ wI x7 = (3 : Int) →
          Go G (pI P) 204 39 [some (vR 34), some (vR 36), some (vI x2), some (vI x3), some (vL y4), none, some (vI x6), some (vI x7)] [] h))))))))) :
  Go G (pI P) 204 15 [some (vR 34), some (vR 36), some (vI x2), some (vI x3), some (vL y4), none, some (vI x6), some (vI x7)] [] h := go1 ok204 900 H
set_option maxRecDepth 100000 in
theorem q_M_setSum_36_c39 {G : GG} {P : Int → AH → Prop} {x2 x3 y4 x6 x7 : Int} {h : AH}
  (H : RunsI G 197 [vR 34, vI (x2 + x6)] h (fun r1 h1 =>
  ((0 ≤ wI (r1 + x7) ∧ wI (r1 + x7) < 13824) ∧
  RunsL G 175 [vL y4, vI (bA (h1 36 (wI (r1 + x7)).toNat) 255), vL 32768, vL 65535] h1 (fun r2 h2 =>
  Go G (pI P) 204 15 [some (vR 34), some (vR 36), some (vI x2), some (vI x3), some (vL r2), none, some (vI x6), some (vI (x7 + 1))] [] h2)))) :
  Go G (pI P) 204 39 [some (vR 34), some (vR 36), some (vI x2), some (vI x3), some (vL y4), none, some (vI x6), some (vI x7)] [] h := go1 ok204 900 H
-- Model.isSet(I)Z  [34]
set_option maxRecDepth 100000 in
theorem q_M_isSet {G : GG} {P : Int → AH → Prop} {x1 : Int} {h : AH}
  (H : RunsI G 197 [vR 34, vI x1] h (fun r1 h1 =>
  ((0 ≤ wI (r1 + 1) ∧ wI (r1 + 1) < 13824) ∧
  ((2 : Int) ≠ 0 ∧ ((wI (Int.tmod (wI x1) 2) = (1 : Int) →
    (((0 : Int) = 0 ∨ (0 : Int) = 1) ∧ P 0 h1)) ∧
    (¬ wI (Int.tmod (wI x1) 2) = (1 : Int) →
    RunsI G 198 [vR 34, vI x1] h1 (fun r2 h2 =>
    ((wI r2 = (133 : Int) →
      RunsI G 166 [vL (wI (bA (h1 35 (wI (r1 + 1)).toNat) 255)), vL 2, vL 3] h2 (fun r3 h3 =>
      ((wI r3 = 0 →
        (((0 : Int) = 0 ∨ (0 : Int) = 1) ∧ P 0 h3)) ∧
        (¬ wI r3 = 0 →
        RunsI G 199 [vR 34] h3 (fun r4 h4 =>
        ((wI r4 ≤ wI (x1 + (bA (h1 35 (wI (r1 + 1)).toNat) 255)) →
          (((0 : Int) = 0 ∨ (0 : Int) = 1) ∧ P 0 h4)) ∧
          (¬ wI r4 ≤ wI (x1 + (bA (h1 35 (wI (r1 + 1)).toNat) 255)) →
          RunsI G 198 [vR 34, vI (x1 + 1)] h4 (fun r5 h5 =>
          ((wI r5 = (192 : Int) →
            RunsL G 167 [vR 35, vI (r1 + 4), vI 2] (hs h5 34 18 ((bA (h1 35 (wI (r1 + 1)).toNat) 255) + 1)) (fun r6 h6 =>
            ((wI (bA ((hs h6 34 24 r6) 34 24) (-18)) = 0 →
              RunsI G 190 [vR 34, vI (r1 + 6), vI (r1 + 8)] (hs h6 34 24 r6) (fun r7 h7 =>
              ((wI r7 = 0 →
                (((0 : Int) = 0 ∨ (0 : Int) = 1) ∧ P 0 h7)) ∧
                (¬ wI r7 = 0 →
                RunsI G 190 [vR 34, vI (r1 + 16), vI (r1 + 32)] h7 (fun r8 h8 =>
                ((wI r8 = 0 →
                  (((0 : Int) = 0 ∨ (0 : Int) = 1) ∧ P 0 h8)) ∧
                  (¬ wI r8 = 0 →
                  RunsI G 197 [vR 34, vI (x1 + 1)] h8 (fun r9 h9 =>
                  RunsI G 206 [vR 34, vI r9] h9 (fun r10 h10 =>
                  ((wI r10 = 0 →
                    (((0 : Int) = 0 ∨ (0 : Int) = 1) ∧ P 0 h10)) ∧
                    (¬ wI r10 = 0 →
                    RunsI G 207 [vR 34, vI x1] h10 (fun r11 h11 =>
                    ((wI r11 = 0 →
                      (((0 : Int) = 0 ∨ (0 : Int) = 1) ∧ P 0 h11)) ∧
                      (¬ wI r11 = 0 →
                      RunsL G 167 [vR 35, vI (r1 + 2), vI 2] h11 (fun r12 h12 =>
                      RunsI G 204 [vR 34, vR 35, vI x1, vI (h12 34 18)] h12 (fun r13 h13 =>
                      ((wL r12 = wL (wI r13) →
                        RunsI G 197 [vR 34, vI (x1 + 1)] h13 (fun r14 h14 =>
                        RunsL G 167 [vR 35, vI (r14 + 4), vI 2] h14 (fun r15 h15 =>
                        RunsI G 203 [vR 34, vR 40, vI (h15 34 19)] h15 (fun r16 h16 =>
                        ((wL r15 = wL (wI r16) →
                          (((1 : Int) = 0 ∨ (1 : Int) = 1) ∧ P 1 h16)) ∧
                          (¬ wL r15 = wL (wI r16) →
                          (((0 : Int) = 0 ∨ (0 : Int) = 1) ∧ P 0 h16))))))) ∧
                        (¬ wL r12 = wL (wI r13) →
                        (((0 : Int) = 0 ∨ (0 : Int) = 1) ∧ P 0 h13))))))))))))))))))) ∧
              (¬ wI (bA ((hs h6 34 24 r6) 34 24) (-18)) = 0 →
              (((0 : Int) = 0 ∨ (0 : Int) = 1) ∧ P 0 (hs h6 34 24 r6)))))) ∧
            (¬ wI r5 = (192 : Int) →
            (((0 : Int) = 0 ∨ (0 : Int) = 1) ∧ P 0 h5))))))))))) ∧
      (¬ wI r2 = (133 : Int) →
      (((0 : Int) = 0 ∨ (0 : Int) = 1) ∧ P 0 h2)))))))))) :
  RunsI G 205 [vR 34, vI x1] h P := runs_of (by decide) 2 rfl (go1 ok205 900 H)
-- Model.isStream(I)Z  [34]
set_option maxRecDepth 100000 in
theorem q_M_isStream {G : GG} {P : Int → AH → Prop} {x1 : Int} {h : AH}
  (H : ((0 ≤ wI (x1 + 1) ∧ wI (x1 + 1) < 13824) ∧
  ((0 ≤ wI (x1 + 3) ∧ wI (x1 + 3) < 13824) ∧
  RunsL G 167 [vR 35, vI (x1 + 24), vI 8] (hs h 34 19 (bA (h 35 (wI (x1 + 3)).toNat) 255)) (fun r1 h1 =>
  RunsL G 167 [vR 35, vI (x1 + 20), vI 4] (hs h1 34 21 r1) (fun r2 h2 =>
  ((wI (h 35 (wI (x1 + 1)).toNat) = (3 : Int) →
    Go G (pI P) 206 69 [some (vR 34), some (vI x1), some (vI (h 35 (wI (x1 + 1)).toNat)), none] [vI 1, vR 34] (hs h2 34 22 r2)) ∧
    (¬ wI (h 35 (wI (x1 + 1)).toNat) = (3 : Int) →
    Go G (pI P) 206 69 [some (vR 34), some (vI x1), some (vI (h 35 (wI (x1 + 1)).toNat)), none] [vI 0, vR 34] (hs h2 34 22 r2)))))))) :
  RunsI G 206 [vR 34, vI x1] h P := runs_of (by decide) 2 rfl (go1 ok206 900 H)
set_option maxRecDepth 100000 in
theorem q_M_isStream_c69 {G : GG} {P : Int → AH → Prop} {x1 x2 s1 : Int} {h : AH}
  (H : ((s1 = 0 ∨ s1 = 1) ∧ ((wI x2 = (1 : Int) →
    Go G (pI P) 206 82 [some (vR 34), some (vI x1), some (vI x2), none] [] (hs h 34 23 s1)) ∧
    (¬ wI x2 = (1 : Int) →
    ((wI x2 = (3 : Int) →
      Go G (pI P) 206 82 [some (vR 34), some (vI x1), some (vI x2), none] [] (hs h 34 23 s1)) ∧
      (¬ wI x2 = (3 : Int) →
      Go G (pI P) 206 149 [some (vR 34), none, some (vI x2), none] [vI 0] (hs h 34 23 s1))))))) :
  Go G (pI P) 206 69 [some (vR 34), some (vI x1), some (vI x2), none] [vI s1, vR 34] h := go1 ok206 900 H
set_option maxRecDepth 100000 in
theorem q_M_isStream_c82 {G : GG} {P : Int → AH → Prop} {x1 x2 : Int} {h : AH}
  (H : ((0 ≤ wI (x1 + 2) ∧ wI (x1 + 2) < 13824) ∧
  ((wI (h 35 (wI (x1 + 2)).toNat) = 0 →
    RunsI G 190 [vR 34, vI (x1 + 6), vI (x1 + 8)] h (fun r1 h1 =>
    ((wI r1 = 0 →
      Go G (pI P) 206 149 [some (vR 34), none, some (vI x2), none] [vI 0] h1) ∧
      (¬ wI r1 = 0 →
      RunsI G 190 [vR 34, vI (x1 + 16), vI (x1 + 20)] h1 (fun r2 h2 =>
      ((wI r2 = 0 →
        Go G (pI P) 206 149 [some (vR 34), none, some (vI x2), none] [vI 0] h2) ∧
        (¬ wI r2 = 0 →
        RunsL G 167 [vR 35, vI (x1 + 8), vI 8] h2 (fun r3 h3 =>
        ((wL r3 = wL (h3 34 21) →
          Go G (pI P) 206 149 [some (vR 34), none, some (vI x2), none] [vI 1] h3) ∧
          (¬ wL r3 = wL (h3 34 21) →
          Go G (pI P) 206 149 [some (vR 34), none, some (vI x2), none] [vI 0] h3)))))))))) ∧
    (¬ wI (h 35 (wI (x1 + 2)).toNat) = 0 →
    Go G (pI P) 206 149 [some (vR 34), none, some (vI x2), none] [vI 0] h)))) :
  Go G (pI P) 206 82 [some (vR 34), some (vI x1), some (vI x2), none] [] h := go1 ok206 900 H
set_option maxRecDepth 100000 in
theorem q_M_isStream_c149 {G : GG} {P : Int → AH → Prop} {x2 s0 : Int} {h : AH}
  (H : RunsI G 166 [vL (wI (h 34 19)), vL 1, vL 30] h (fun r1 h1 =>
  ((wI r1 = 0 →
    Go G (pI P) 206 214 [some (vR 34), none, some (vI x2), none] [vI 0, vI s0] h1) ∧
    (¬ wI r1 = 0 →
    RunsI G 166 [vL (h1 34 21), vL 0, vL (128 * (wI (h1 34 0)))] h1 (fun r2 h2 =>
    ((wI r2 = 0 →
      Go G (pI P) 206 214 [some (vR 34), none, some (vI x2), none] [vI 0, vI s0] h2) ∧
      (¬ wI r2 = 0 →
      ((wI (h2 34 19) ≤ (15 : Int) →
        ((wI (h2 34 18) = wI (3 + 0) →
          Go G (pI P) 206 214 [some (vR 34), none, some (vI x2), none] [vI 1, vI s0] h2) ∧
          (¬ wI (h2 34 18) = wI (3 + 0) →
          Go G (pI P) 206 214 [some (vR 34), none, some (vI x2), none] [vI 0, vI s0] h2))) ∧
        (¬ wI (h2 34 19) ≤ (15 : Int) →
        ((wI (h2 34 18) = wI (3 + 1) →
          Go G (pI P) 206 214 [some (vR 34), none, some (vI x2), none] [vI 1, vI s0] h2) ∧
          (¬ wI (h2 34 18) = wI (3 + 1) →
          Go G (pI P) 206 214 [some (vR 34), none, some (vI x2), none] [vI 0, vI s0] h2))))))))))) :
  Go G (pI P) 206 149 [some (vR 34), none, some (vI x2), none] [vI s0] h := go1 ok206 900 H
set_option maxRecDepth 100000 in
theorem q_M_isStream_c214 {G : GG} {P : Int → AH → Prop} {x2 s0 s1 : Int} {h : AH}
  (H : ((wL (h 34 21) = (0 : Int) →
    ((wI x2 = (1 : Int) →
      ((wL (h 34 22) = (0 : Int) →
        Go G (pI P) 206 256 [some (vR 34), none, none, none] [vI 1, vI (bA s0 s1)] h) ∧
        (¬ wL (h 34 22) = (0 : Int) →
        Go G (pI P) 206 256 [some (vR 34), none, none, none] [vI 0, vI (bA s0 s1)] h))) ∧
      (¬ wI x2 = (1 : Int) →
      Go G (pI P) 206 256 [some (vR 34), none, none, none] [vI 0, vI (bA s0 s1)] h))) ∧
    (¬ wL (h 34 21) = (0 : Int) →
    RunsI G 170 [vR 34, vL (h 34 22)] h (fun r1 h1 =>
    Go G (pI P) 206 256 [some (vR 34), none, none, none] [vI r1, vI (bA s0 s1)] h1)))) :
  Go G (pI P) 206 214 [some (vR 34), none, some (vI x2), none] [vI s1, vI s0] h := go1 ok206 900 H
set_option maxRecDepth 100000 in
theorem q_M_isStream_c256 {G : GG} {P : Int → AH → Prop} {s0 s1 : Int} {h : AH}
  (H : ((wI (bA s0 s1) = 0 →
    (((0 : Int) = 0 ∨ (0 : Int) = 1) ∧ P 0 h)) ∧
    (¬ wI (bA s0 s1) = 0 →
    ((wI (bA (h 34 24) 16) = 0 →
      (((1 : Int) = 0 ∨ (1 : Int) = 1) ∧ P 1 h)) ∧
      (¬ wI (bA (h 34 24) 16) = 0 →
      ((wL (h 34 21) ≤ (0 : Int) →
        (((0 : Int) = 0 ∨ (0 : Int) = 1) ∧ P 0 h)) ∧
        (¬ wL (h 34 21) ≤ (0 : Int) →
        ((128 : Int) ≠ 0 ∧ ((wL (Int.tmod (wL (h 34 21)) 128) = (0 : Int) →
          (((1 : Int) = 0 ∨ (1 : Int) = 1) ∧ P 1 h)) ∧
          (¬ wL (Int.tmod (wL (h 34 21)) 128) = (0 : Int) →
          (((0 : Int) = 0 ∨ (0 : Int) = 1) ∧ P 0 h))))))))))) :
  Go G (pI P) 206 256 [some (vR 34), none, none, none] [vI s1, vI s0] h := go1 ok206 900 H
-- Model.isNamed(I)Z  [34]
set_option maxRecDepth 100000 in
theorem q_M_isNamed {G : GG} {P : Int → AH → Prop} {x1 : Int} {h : AH}
  (H : Go G (pI P) 207 2 [some (vR 34), some (vI x1), some (vI 0), none, none] [] h) :
  RunsI G 207 [vR 34, vI x1] h P := runs_of (by decide) 3 rfl (go1 ok207 900 H)
set_option maxRecDepth 100000 in
theorem q_M_isNamed_c2 {G : GG} {P : Int → AH → Prop} {x1 x2 : Int} {h : AH}
  (H : ((wI (15 * ((h 34 18) - 2)) ≤ wI x2 →
    RunsI G 202 [vR 40, vI (h 34 19)] h (fun r1 h1 =>
    ((r1 = 0 ∨ r1 = 1) ∧ P r1 h1))) ∧
    (¬ wI (15 * ((h 34 18) - 2)) ≤ wI x2 →
    ((15 : Int) ≠ 0 ∧ RunsI G 197 [vR 34, vI ((x1 + 2) + (Int.tdiv (wI x2) 15))] h (fun r2 h2 =>
    ((15 : Int) ≠ 0 ∧ RunsI G 198 [vR 34, vI ((x1 + 2) + (Int.tdiv (wI x2) 15))] h2 (fun r3 h3 =>
    ((wI r3 = (193 : Int) →
      ((0 ≤ wI (r2 + 1) ∧ wI (r2 + 1) < 13824) ∧
      ((wI (h3 35 (wI (r2 + 1)).toNat) = 0 →
        ((15 : Int) ≠ 0 ∧ RunsL G 167 [vR 35, vI ((r2 + 2) + (2 * (Int.tmod (wI x2) 15))), vI 2] h3 (fun r4 h4 =>
        ((wI (h4 34 19) ≤ wI x2 →
          ((wI r4 = 0 →
            Go G (pI P) 207 2 [some (vR 34), some (vI x1), some (vI (x2 + 1)), none, none] [] h4) ∧
            (¬ wI r4 = 0 →
            (((0 : Int) = 0 ∨ (0 : Int) = 1) ∧ P 0 h4)))) ∧
          (¬ wI (h4 34 19) ≤ wI x2 →
          ((0 ≤ wI x2 ∧ wI x2 < 30) ∧
          Go G (pI P) 207 2 [some (vR 34), some (vI x1), some (vI (x2 + 1)), none, none] [] (hs h4 40 (wI x2).toNat r4))))))) ∧
        (¬ wI (h3 35 (wI (r2 + 1)).toNat) = 0 →
        (((0 : Int) = 0 ∨ (0 : Int) = 1) ∧ P 0 h3))))) ∧
      (¬ wI r3 = (193 : Int) →
      (((0 : Int) = 0 ∨ (0 : Int) = 1) ∧ P 0 h3)))))))))) :
  Go G (pI P) 207 2 [some (vR 34), some (vI x1), some (vI x2), none, none] [] h := go1 ok207 900 H
-- Model.addSet(II)V  [34]
set_option maxRecDepth 100000 in
theorem q_M_addSet {G : GG} {P : AH → Prop} {x1 x2 : Int} {h : AH}
  (H : ((4 : Int) ≠ 0 ∧ ((0 ≤ wI (Int.tdiv (wI x2) 4) ∧ wI (Int.tdiv (wI x2) 4) < 102) ∧
  ((4 : Int) ≠ 0 ∧ ((0 ≤ wI (h 34 34) ∧ wI (h 34 34) < 200) ∧
  ((0 ≤ wI ((hs h 41 (wI (h 34 34)).toNat ((4 * (h 39 (wI (Int.tdiv (wI x2) 4)).toNat)) + (Int.tmod (wI x2) 4))) 34 34) ∧ wI ((hs h 41 (wI (h 34 34)).toNat ((4 * (h 39 (wI (Int.tdiv (wI x2) 4)).toNat)) + (Int.tmod (wI x2) 4))) 34 34) < 200) ∧
  ((0 ≤ wI ((hs (hs h 41 (wI (h 34 34)).toNat ((4 * (h 39 (wI (Int.tdiv (wI x2) 4)).toNat)) + (Int.tmod (wI x2) 4))) 42 (wI ((hs h 41 (wI (h 34 34)).toNat ((4 * (h 39 (wI (Int.tdiv (wI x2) 4)).toNat)) + (Int.tmod (wI x2) 4))) 34 34)).toNat x1) 34 34) ∧ wI ((hs (hs h 41 (wI (h 34 34)).toNat ((4 * (h 39 (wI (Int.tdiv (wI x2) 4)).toNat)) + (Int.tmod (wI x2) 4))) 42 (wI ((hs h 41 (wI (h 34 34)).toNat ((4 * (h 39 (wI (Int.tdiv (wI x2) 4)).toNat)) + (Int.tmod (wI x2) 4))) 34 34)).toNat x1) 34 34) < 200) ∧
  ((0 ≤ wI ((hs (hs (hs h 41 (wI (h 34 34)).toNat ((4 * (h 39 (wI (Int.tdiv (wI x2) 4)).toNat)) + (Int.tmod (wI x2) 4))) 42 (wI ((hs h 41 (wI (h 34 34)).toNat ((4 * (h 39 (wI (Int.tdiv (wI x2) 4)).toNat)) + (Int.tmod (wI x2) 4))) 34 34)).toNat x1) 43 (wI ((hs (hs h 41 (wI (h 34 34)).toNat ((4 * (h 39 (wI (Int.tdiv (wI x2) 4)).toNat)) + (Int.tmod (wI x2) 4))) 42 (wI ((hs h 41 (wI (h 34 34)).toNat ((4 * (h 39 (wI (Int.tdiv (wI x2) 4)).toNat)) + (Int.tmod (wI x2) 4))) 34 34)).toNat x1) 34 34)).toNat x2) 34 34) ∧ wI ((hs (hs (hs h 41 (wI (h 34 34)).toNat ((4 * (h 39 (wI (Int.tdiv (wI x2) 4)).toNat)) + (Int.tmod (wI x2) 4))) 42 (wI ((hs h 41 (wI (h 34 34)).toNat ((4 * (h 39 (wI (Int.tdiv (wI x2) 4)).toNat)) + (Int.tmod (wI x2) 4))) 34 34)).toNat x1) 43 (wI ((hs (hs h 41 (wI (h 34 34)).toNat ((4 * (h 39 (wI (Int.tdiv (wI x2) 4)).toNat)) + (Int.tmod (wI x2) 4))) 42 (wI ((hs h 41 (wI (h 34 34)).toNat ((4 * (h 39 (wI (Int.tdiv (wI x2) 4)).toNat)) + (Int.tmod (wI x2) 4))) 34 34)).toNat x1) 34 34)).toNat x2) 34 34) < 200) ∧
  ((wI (bA ((hs (hs (hs (hs h 41 (wI (h 34 34)).toNat ((4 * (h 39 (wI (Int.tdiv (wI x2) 4)).toNat)) + (Int.tmod (wI x2) 4))) 42 (wI ((hs h 41 (wI (h 34 34)).toNat ((4 * (h 39 (wI (Int.tdiv (wI x2) 4)).toNat)) + (Int.tmod (wI x2) 4))) 34 34)).toNat x1) 43 (wI ((hs (hs h 41 (wI (h 34 34)).toNat ((4 * (h 39 (wI (Int.tdiv (wI x2) 4)).toNat)) + (Int.tmod (wI x2) 4))) 42 (wI ((hs h 41 (wI (h 34 34)).toNat ((4 * (h 39 (wI (Int.tdiv (wI x2) 4)).toNat)) + (Int.tmod (wI x2) 4))) 34 34)).toNat x1) 34 34)).toNat x2) 44 (wI ((hs (hs (hs h 41 (wI (h 34 34)).toNat ((4 * (h 39 (wI (Int.tdiv (wI x2) 4)).toNat)) + (Int.tmod (wI x2) 4))) 42 (wI ((hs h 41 (wI (h 34 34)).toNat ((4 * (h 39 (wI (Int.tdiv (wI x2) 4)).toNat)) + (Int.tmod (wI x2) 4))) 34 34)).toNat x1) 43 (wI ((hs (hs h 41 (wI (h 34 34)).toNat ((4 * (h 39 (wI (Int.tdiv (wI x2) 4)).toNat)) + (Int.tmod (wI x2) 4))) 42 (wI ((hs h 41 (wI (h 34 34)).toNat ((4 * (h 39 (wI (Int.tdiv (wI x2) 4)).toNat)) + (Int.tmod (wI x2) 4))) 34 34)).toNat x1) 34 34)).toNat x2) 34 34)).toNat ((hs (hs (hs h 41 (wI (h 34 34)).toNat ((4 * (h 39 (wI (Int.tdiv (wI x2) 4)).toNat)) + (Int.tmod (wI x2) 4))) 42 (wI ((hs h 41 (wI (h 34 34)).toNat ((4 * (h 39 (wI (Int.tdiv (wI x2) 4)).toNat)) + (Int.tmod (wI x2) 4))) 34 34)).toNat x1) 43 (wI ((hs (hs h 41 (wI (h 34 34)).toNat ((4 * (h 39 (wI (Int.tdiv (wI x2) 4)).toNat)) + (Int.tmod (wI x2) 4))) 42 (wI ((hs h 41 (wI (h 34 34)).toNat ((4 * (h 39 (wI (Int.tdiv (wI x2) 4)).toNat)) + (Int.tmod (wI x2) 4))) 34 34)).toNat x1) 34 34)).toNat x2) 34 18)) 34 24) 16) = 0 →
    Go G (pV P) 208 79 [some (vR 34), none, none] [vI 0, vI ((hs (hs (hs (hs h 41 (wI (h 34 34)).toNat ((4 * (h 39 (wI (Int.tdiv (wI x2) 4)).toNat)) + (Int.tmod (wI x2) 4))) 42 (wI ((hs h 41 (wI (h 34 34)).toNat ((4 * (h 39 (wI (Int.tdiv (wI x2) 4)).toNat)) + (Int.tmod (wI x2) 4))) 34 34)).toNat x1) 43 (wI ((hs (hs h 41 (wI (h 34 34)).toNat ((4 * (h 39 (wI (Int.tdiv (wI x2) 4)).toNat)) + (Int.tmod (wI x2) 4))) 42 (wI ((hs h 41 (wI (h 34 34)).toNat ((4 * (h 39 (wI (Int.tdiv (wI x2) 4)).toNat)) + (Int.tmod (wI x2) 4))) 34 34)).toNat x1) 34 34)).toNat x2) 44 (wI ((hs (hs (hs h 41 (wI (h 34 34)).toNat ((4 * (h 39 (wI (Int.tdiv (wI x2) 4)).toNat)) + (Int.tmod (wI x2) 4))) 42 (wI ((hs h 41 (wI (h 34 34)).toNat ((4 * (h 39 (wI (Int.tdiv (wI x2) 4)).toNat)) + (Int.tmod (wI x2) 4))) 34 34)).toNat x1) 43 (wI ((hs (hs h 41 (wI (h 34 34)).toNat ((4 * (h 39 (wI (Int.tdiv (wI x2) 4)).toNat)) + (Int.tmod (wI x2) 4))) 42 (wI ((hs h 41 (wI (h 34 34)).toNat ((4 * (h 39 (wI (Int.tdiv (wI x2) 4)).toNat)) + (Int.tmod (wI x2) 4))) 34 34)).toNat x1) 34 34)).toNat x2) 34 34)).toNat ((hs (hs (hs h 41 (wI (h 34 34)).toNat ((4 * (h 39 (wI (Int.tdiv (wI x2) 4)).toNat)) + (Int.tmod (wI x2) 4))) 42 (wI ((hs h 41 (wI (h 34 34)).toNat ((4 * (h 39 (wI (Int.tdiv (wI x2) 4)).toNat)) + (Int.tmod (wI x2) 4))) 34 34)).toNat x1) 43 (wI ((hs (hs h 41 (wI (h 34 34)).toNat ((4 * (h 39 (wI (Int.tdiv (wI x2) 4)).toNat)) + (Int.tmod (wI x2) 4))) 42 (wI ((hs h 41 (wI (h 34 34)).toNat ((4 * (h 39 (wI (Int.tdiv (wI x2) 4)).toNat)) + (Int.tmod (wI x2) 4))) 34 34)).toNat x1) 34 34)).toNat x2) 34 18)) 34 34), vR 45] (hs (hs (hs (hs h 41 (wI (h 34 34)).toNat ((4 * (h 39 (wI (Int.tdiv (wI x2) 4)).toNat)) + (Int.tmod (wI x2) 4))) 42 (wI ((hs h 41 (wI (h 34 34)).toNat ((4 * (h 39 (wI (Int.tdiv (wI x2) 4)).toNat)) + (Int.tmod (wI x2) 4))) 34 34)).toNat x1) 43 (wI ((hs (hs h 41 (wI (h 34 34)).toNat ((4 * (h 39 (wI (Int.tdiv (wI x2) 4)).toNat)) + (Int.tmod (wI x2) 4))) 42 (wI ((hs h 41 (wI (h 34 34)).toNat ((4 * (h 39 (wI (Int.tdiv (wI x2) 4)).toNat)) + (Int.tmod (wI x2) 4))) 34 34)).toNat x1) 34 34)).toNat x2) 44 (wI ((hs (hs (hs h 41 (wI (h 34 34)).toNat ((4 * (h 39 (wI (Int.tdiv (wI x2) 4)).toNat)) + (Int.tmod (wI x2) 4))) 42 (wI ((hs h 41 (wI (h 34 34)).toNat ((4 * (h 39 (wI (Int.tdiv (wI x2) 4)).toNat)) + (Int.tmod (wI x2) 4))) 34 34)).toNat x1) 43 (wI ((hs (hs h 41 (wI (h 34 34)).toNat ((4 * (h 39 (wI (Int.tdiv (wI x2) 4)).toNat)) + (Int.tmod (wI x2) 4))) 42 (wI ((hs h 41 (wI (h 34 34)).toNat ((4 * (h 39 (wI (Int.tdiv (wI x2) 4)).toNat)) + (Int.tmod (wI x2) 4))) 34 34)).toNat x1) 34 34)).toNat x2) 34 34)).toNat ((hs (hs (hs h 41 (wI (h 34 34)).toNat ((4 * (h 39 (wI (Int.tdiv (wI x2) 4)).toNat)) + (Int.tmod (wI x2) 4))) 42 (wI ((hs h 41 (wI (h 34 34)).toNat ((4 * (h 39 (wI (Int.tdiv (wI x2) 4)).toNat)) + (Int.tmod (wI x2) 4))) 34 34)).toNat x1) 43 (wI ((hs (hs h 41 (wI (h 34 34)).toNat ((4 * (h 39 (wI (Int.tdiv (wI x2) 4)).toNat)) + (Int.tmod (wI x2) 4))) 42 (wI ((hs h 41 (wI (h 34 34)).toNat ((4 * (h 39 (wI (Int.tdiv (wI x2) 4)).toNat)) + (Int.tmod (wI x2) 4))) 34 34)).toNat x1) 34 34)).toNat x2) 34 18))) ∧
    (¬ wI (bA ((hs (hs (hs (hs h 41 (wI (h 34 34)).toNat ((4 * (h 39 (wI (Int.tdiv (wI x2) 4)).toNat)) + (Int.tmod (wI x2) 4))) 42 (wI ((hs h 41 (wI (h 34 34)).toNat ((4 * (h 39 (wI (Int.tdiv (wI x2) 4)).toNat)) + (Int.tmod (wI x2) 4))) 34 34)).toNat x1) 43 (wI ((hs (hs h 41 (wI (h 34 34)).toNat ((4 * (h 39 (wI (Int.tdiv (wI x2) 4)).toNat)) + (Int.tmod (wI x2) 4))) 42 (wI ((hs h 41 (wI (h 34 34)).toNat ((4 * (h 39 (wI (Int.tdiv (wI x2) 4)).toNat)) + (Int.tmod (wI x2) 4))) 34 34)).toNat x1) 34 34)).toNat x2) 44 (wI ((hs (hs (hs h 41 (wI (h 34 34)).toNat ((4 * (h 39 (wI (Int.tdiv (wI x2) 4)).toNat)) + (Int.tmod (wI x2) 4))) 42 (wI ((hs h 41 (wI (h 34 34)).toNat ((4 * (h 39 (wI (Int.tdiv (wI x2) 4)).toNat)) + (Int.tmod (wI x2) 4))) 34 34)).toNat x1) 43 (wI ((hs (hs h 41 (wI (h 34 34)).toNat ((4 * (h 39 (wI (Int.tdiv (wI x2) 4)).toNat)) + (Int.tmod (wI x2) 4))) 42 (wI ((hs h 41 (wI (h 34 34)).toNat ((4 * (h 39 (wI (Int.tdiv (wI x2) 4)).toNat)) + (Int.tmod (wI x2) 4))) 34 34)).toNat x1) 34 34)).toNat x2) 34 34)).toNat ((hs (hs (hs h 41 (wI (h 34 34)).toNat ((4 * (h 39 (wI (Int.tdiv (wI x2) 4)).toNat)) + (Int.tmod (wI x2) 4))) 42 (wI ((hs h 41 (wI (h 34 34)).toNat ((4 * (h 39 (wI (Int.tdiv (wI x2) 4)).toNat)) + (Int.tmod (wI x2) 4))) 34 34)).toNat x1) 43 (wI ((hs (hs h 41 (wI (h 34 34)).toNat ((4 * (h 39 (wI (Int.tdiv (wI x2) 4)).toNat)) + (Int.tmod (wI x2) 4))) 42 (wI ((hs h 41 (wI (h 34 34)).toNat ((4 * (h 39 (wI (Int.tdiv (wI x2) 4)).toNat)) + (Int.tmod (wI x2) 4))) 34 34)).toNat x1) 34 34)).toNat x2) 34 18)) 34 24) 16) = 0 →
    Go G (pV P) 208 79 [some (vR 34), none, none] [vI 1, vI ((hs (hs (hs (hs h 41 (wI (h 34 34)).toNat ((4 * (h 39 (wI (Int.tdiv (wI x2) 4)).toNat)) + (Int.tmod (wI x2) 4))) 42 (wI ((hs h 41 (wI (h 34 34)).toNat ((4 * (h 39 (wI (Int.tdiv (wI x2) 4)).toNat)) + (Int.tmod (wI x2) 4))) 34 34)).toNat x1) 43 (wI ((hs (hs h 41 (wI (h 34 34)).toNat ((4 * (h 39 (wI (Int.tdiv (wI x2) 4)).toNat)) + (Int.tmod (wI x2) 4))) 42 (wI ((hs h 41 (wI (h 34 34)).toNat ((4 * (h 39 (wI (Int.tdiv (wI x2) 4)).toNat)) + (Int.tmod (wI x2) 4))) 34 34)).toNat x1) 34 34)).toNat x2) 44 (wI ((hs (hs (hs h 41 (wI (h 34 34)).toNat ((4 * (h 39 (wI (Int.tdiv (wI x2) 4)).toNat)) + (Int.tmod (wI x2) 4))) 42 (wI ((hs h 41 (wI (h 34 34)).toNat ((4 * (h 39 (wI (Int.tdiv (wI x2) 4)).toNat)) + (Int.tmod (wI x2) 4))) 34 34)).toNat x1) 43 (wI ((hs (hs h 41 (wI (h 34 34)).toNat ((4 * (h 39 (wI (Int.tdiv (wI x2) 4)).toNat)) + (Int.tmod (wI x2) 4))) 42 (wI ((hs h 41 (wI (h 34 34)).toNat ((4 * (h 39 (wI (Int.tdiv (wI x2) 4)).toNat)) + (Int.tmod (wI x2) 4))) 34 34)).toNat x1) 34 34)).toNat x2) 34 34)).toNat ((hs (hs (hs h 41 (wI (h 34 34)).toNat ((4 * (h 39 (wI (Int.tdiv (wI x2) 4)).toNat)) + (Int.tmod (wI x2) 4))) 42 (wI ((hs h 41 (wI (h 34 34)).toNat ((4 * (h 39 (wI (Int.tdiv (wI x2) 4)).toNat)) + (Int.tmod (wI x2) 4))) 34 34)).toNat x1) 43 (wI ((hs (hs h 41 (wI (h 34 34)).toNat ((4 * (h 39 (wI (Int.tdiv (wI x2) 4)).toNat)) + (Int.tmod (wI x2) 4))) 42 (wI ((hs h 41 (wI (h 34 34)).toNat ((4 * (h 39 (wI (Int.tdiv (wI x2) 4)).toNat)) + (Int.tmod (wI x2) 4))) 34 34)).toNat x1) 34 34)).toNat x2) 34 18)) 34 34), vR 45] (hs (hs (hs (hs h 41 (wI (h 34 34)).toNat ((4 * (h 39 (wI (Int.tdiv (wI x2) 4)).toNat)) + (Int.tmod (wI x2) 4))) 42 (wI ((hs h 41 (wI (h 34 34)).toNat ((4 * (h 39 (wI (Int.tdiv (wI x2) 4)).toNat)) + (Int.tmod (wI x2) 4))) 34 34)).toNat x1) 43 (wI ((hs (hs h 41 (wI (h 34 34)).toNat ((4 * (h 39 (wI (Int.tdiv (wI x2) 4)).toNat)) + (Int.tmod (wI x2) 4))) 42 (wI ((hs h 41 (wI (h 34 34)).toNat ((4 * (h 39 (wI (Int.tdiv (wI x2) 4)).toNat)) + (Int.tmod (wI x2) 4))) 34 34)).toNat x1) 34 34)).toNat x2) 44 (wI ((hs (hs (hs h 41 (wI (h 34 34)).toNat ((4 * (h 39 (wI (Int.tdiv (wI x2) 4)).toNat)) + (Int.tmod (wI x2) 4))) 42 (wI ((hs h 41 (wI (h 34 34)).toNat ((4 * (h 39 (wI (Int.tdiv (wI x2) 4)).toNat)) + (Int.tmod (wI x2) 4))) 34 34)).toNat x1) 43 (wI ((hs (hs h 41 (wI (h 34 34)).toNat ((4 * (h 39 (wI (Int.tdiv (wI x2) 4)).toNat)) + (Int.tmod (wI x2) 4))) 42 (wI ((hs h 41 (wI (h 34 34)).toNat ((4 * (h 39 (wI (Int.tdiv (wI x2) 4)).toNat)) + (Int.tmod (wI x2) 4))) 34 34)).toNat x1) 34 34)).toNat x2) 34 34)).toNat ((hs (hs (hs h 41 (wI (h 34 34)).toNat ((4 * (h 39 (wI (Int.tdiv (wI x2) 4)).toNat)) + (Int.tmod (wI x2) 4))) 42 (wI ((hs h 41 (wI (h 34 34)).toNat ((4 * (h 39 (wI (Int.tdiv (wI x2) 4)).toNat)) + (Int.tmod (wI x2) 4))) 34 34)).toNat x1) 43 (wI ((hs (hs h 41 (wI (h 34 34)).toNat ((4 * (h 39 (wI (Int.tdiv (wI x2) 4)).toNat)) + (Int.tmod (wI x2) 4))) 42 (wI ((hs h 41 (wI (h 34 34)).toNat ((4 * (h 39 (wI (Int.tdiv (wI x2) 4)).toNat)) + (Int.tmod (wI x2) 4))) 34 34)).toNat x1) 34 34)).toNat x2) 34 18)))))))))))) :
  RunsV G 208 [vR 34, vI x1, vI x2] h P := runs_of (by decide) 0 rfl (go1 ok208 900 H)
set_option maxRecDepth 100000 in
theorem q_M_addSet_c79 {G : GG} {P : AH → Prop} {s1 s2 : Int} {h : AH}
  (H : ((0 ≤ wI s1 ∧ wI s1 < 200) ∧
  ((s2 = 0 ∨ s2 = 1) ∧ ((0 ≤ wI ((hs h 45 (wI s1).toNat s2) 34 34) ∧ wI ((hs h 45 (wI s1).toNat s2) 34 34) < 200) ∧
  ((((hs h 45 (wI s1).toNat s2) 34 23) = 0 ∨ ((hs h 45 (wI s1).toNat s2) 34 23) = 1) ∧ ((0 ≤ wI ((hs (hs h 45 (wI s1).toNat s2) 46 (wI ((hs h 45 (wI s1).toNat s2) 34 34)).toNat ((hs h 45 (wI s1).toNat s2) 34 23)) 34 34) ∧ wI ((hs (hs h 45 (wI s1).toNat s2) 46 (wI ((hs h 45 (wI s1).toNat s2) 34 34)).toNat ((hs h 45 (wI s1).toNat s2) 34 23)) 34 34) < 200) ∧
  ((0 ≤ wI ((hs (hs (hs h 45 (wI s1).toNat s2) 46 (wI ((hs h 45 (wI s1).toNat s2) 34 34)).toNat ((hs h 45 (wI s1).toNat s2) 34 23)) 47 (wI ((hs (hs h 45 (wI s1).toNat s2) 46 (wI ((hs h 45 (wI s1).toNat s2) 34 34)).toNat ((hs h 45 (wI s1).toNat s2) 34 23)) 34 34)).toNat ((hs (hs h 45 (wI s1).toNat s2) 46 (wI ((hs h 45 (wI s1).toNat s2) 34 34)).toNat ((hs h 45 (wI s1).toNat s2) 34 23)) 34 21)) 34 34) ∧ wI ((hs (hs (hs h 45 (wI s1).toNat s2) 46 (wI ((hs h 45 (wI s1).toNat s2) 34 34)).toNat ((hs h 45 (wI s1).toNat s2) 34 23)) 47 (wI ((hs (hs h 45 (wI s1).toNat s2) 46 (wI ((hs h 45 (wI s1).toNat s2) 34 34)).toNat ((hs h 45 (wI s1).toNat s2) 34 23)) 34 34)).toNat ((hs (hs h 45 (wI s1).toNat s2) 46 (wI ((hs h 45 (wI s1).toNat s2) 34 34)).toNat ((hs h 45 (wI s1).toNat s2) 34 23)) 34 21)) 34 34) < 200) ∧
  ((0 ≤ wI ((hs (hs (hs (hs h 45 (wI s1).toNat s2) 46 (wI ((hs h 45 (wI s1).toNat s2) 34 34)).toNat ((hs h 45 (wI s1).toNat s2) 34 23)) 47 (wI ((hs (hs h 45 (wI s1).toNat s2) 46 (wI ((hs h 45 (wI s1).toNat s2) 34 34)).toNat ((hs h 45 (wI s1).toNat s2) 34 23)) 34 34)).toNat ((hs (hs h 45 (wI s1).toNat s2) 46 (wI ((hs h 45 (wI s1).toNat s2) 34 34)).toNat ((hs h 45 (wI s1).toNat s2) 34 23)) 34 21)) 48 (wI ((hs (hs (hs h 45 (wI s1).toNat s2) 46 (wI ((hs h 45 (wI s1).toNat s2) 34 34)).toNat ((hs h 45 (wI s1).toNat s2) 34 23)) 47 (wI ((hs (hs h 45 (wI s1).toNat s2) 46 (wI ((hs h 45 (wI s1).toNat s2) 34 34)).toNat ((hs h 45 (wI s1).toNat s2) 34 23)) 34 34)).toNat ((hs (hs h 45 (wI s1).toNat s2) 46 (wI ((hs h 45 (wI s1).toNat s2) 34 34)).toNat ((hs h 45 (wI s1).toNat s2) 34 23)) 34 21)) 34 34)).toNat ((hs (hs (hs h 45 (wI s1).toNat s2) 46 (wI ((hs h 45 (wI s1).toNat s2) 34 34)).toNat ((hs h 45 (wI s1).toNat s2) 34 23)) 47 (wI ((hs (hs h 45 (wI s1).toNat s2) 46 (wI ((hs h 45 (wI s1).toNat s2) 34 34)).toNat ((hs h 45 (wI s1).toNat s2) 34 23)) 34 34)).toNat ((hs (hs h 45 (wI s1).toNat s2) 46 (wI ((hs h 45 (wI s1).toNat s2) 34 34)).toNat ((hs h 45 (wI s1).toNat s2) 34 23)) 34 21)) 34 22)) 34 34) ∧ wI ((hs (hs (hs (hs h 45 (wI s1).toNat s2) 46 (wI ((hs h 45 (wI s1).toNat s2) 34 34)).toNat ((hs h 45 (wI s1).toNat s2) 34 23)) 47 (wI ((hs (hs h 45 (wI s1).toNat s2) 46 (wI ((hs h 45 (wI s1).toNat s2) 34 34)).toNat ((hs h 45 (wI s1).toNat s2) 34 23)) 34 34)).toNat ((hs (hs h 45 (wI s1).toNat s2) 46 (wI ((hs h 45 (wI s1).toNat s2) 34 34)).toNat ((hs h 45 (wI s1).toNat s2) 34 23)) 34 21)) 48 (wI ((hs (hs (hs h 45 (wI s1).toNat s2) 46 (wI ((hs h 45 (wI s1).toNat s2) 34 34)).toNat ((hs h 45 (wI s1).toNat s2) 34 23)) 47 (wI ((hs (hs h 45 (wI s1).toNat s2) 46 (wI ((hs h 45 (wI s1).toNat s2) 34 34)).toNat ((hs h 45 (wI s1).toNat s2) 34 23)) 34 34)).toNat ((hs (hs h 45 (wI s1).toNat s2) 46 (wI ((hs h 45 (wI s1).toNat s2) 34 34)).toNat ((hs h 45 (wI s1).toNat s2) 34 23)) 34 21)) 34 34)).toNat ((hs (hs (hs h 45 (wI s1).toNat s2) 46 (wI ((hs h 45 (wI s1).toNat s2) 34 34)).toNat ((hs h 45 (wI s1).toNat s2) 34 23)) 47 (wI ((hs (hs h 45 (wI s1).toNat s2) 46 (wI ((hs h 45 (wI s1).toNat s2) 34 34)).toNat ((hs h 45 (wI s1).toNat s2) 34 23)) 34 34)).toNat ((hs (hs h 45 (wI s1).toNat s2) 46 (wI ((hs h 45 (wI s1).toNat s2) 34 34)).toNat ((hs h 45 (wI s1).toNat s2) 34 23)) 34 21)) 34 22)) 34 34) < 200) ∧
  P (hs (hs (hs (hs (hs (hs h 45 (wI s1).toNat s2) 46 (wI ((hs h 45 (wI s1).toNat s2) 34 34)).toNat ((hs h 45 (wI s1).toNat s2) 34 23)) 47 (wI ((hs (hs h 45 (wI s1).toNat s2) 46 (wI ((hs h 45 (wI s1).toNat s2) 34 34)).toNat ((hs h 45 (wI s1).toNat s2) 34 23)) 34 34)).toNat ((hs (hs h 45 (wI s1).toNat s2) 46 (wI ((hs h 45 (wI s1).toNat s2) 34 34)).toNat ((hs h 45 (wI s1).toNat s2) 34 23)) 34 21)) 48 (wI ((hs (hs (hs h 45 (wI s1).toNat s2) 46 (wI ((hs h 45 (wI s1).toNat s2) 34 34)).toNat ((hs h 45 (wI s1).toNat s2) 34 23)) 47 (wI ((hs (hs h 45 (wI s1).toNat s2) 46 (wI ((hs h 45 (wI s1).toNat s2) 34 34)).toNat ((hs h 45 (wI s1).toNat s2) 34 23)) 34 34)).toNat ((hs (hs h 45 (wI s1).toNat s2) 46 (wI ((hs h 45 (wI s1).toNat s2) 34 34)).toNat ((hs h 45 (wI s1).toNat s2) 34 23)) 34 21)) 34 34)).toNat ((hs (hs (hs h 45 (wI s1).toNat s2) 46 (wI ((hs h 45 (wI s1).toNat s2) 34 34)).toNat ((hs h 45 (wI s1).toNat s2) 34 23)) 47 (wI ((hs (hs h 45 (wI s1).toNat s2) 46 (wI ((hs h 45 (wI s1).toNat s2) 34 34)).toNat ((hs h 45 (wI s1).toNat s2) 34 23)) 34 34)).toNat ((hs (hs h 45 (wI s1).toNat s2) 46 (wI ((hs h 45 (wI s1).toNat s2) 34 34)).toNat ((hs h 45 (wI s1).toNat s2) 34 23)) 34 21)) 34 22)) 49 (wI ((hs (hs (hs (hs h 45 (wI s1).toNat s2) 46 (wI ((hs h 45 (wI s1).toNat s2) 34 34)).toNat ((hs h 45 (wI s1).toNat s2) 34 23)) 47 (wI ((hs (hs h 45 (wI s1).toNat s2) 46 (wI ((hs h 45 (wI s1).toNat s2) 34 34)).toNat ((hs h 45 (wI s1).toNat s2) 34 23)) 34 34)).toNat ((hs (hs h 45 (wI s1).toNat s2) 46 (wI ((hs h 45 (wI s1).toNat s2) 34 34)).toNat ((hs h 45 (wI s1).toNat s2) 34 23)) 34 21)) 48 (wI ((hs (hs (hs h 45 (wI s1).toNat s2) 46 (wI ((hs h 45 (wI s1).toNat s2) 34 34)).toNat ((hs h 45 (wI s1).toNat s2) 34 23)) 47 (wI ((hs (hs h 45 (wI s1).toNat s2) 46 (wI ((hs h 45 (wI s1).toNat s2) 34 34)).toNat ((hs h 45 (wI s1).toNat s2) 34 23)) 34 34)).toNat ((hs (hs h 45 (wI s1).toNat s2) 46 (wI ((hs h 45 (wI s1).toNat s2) 34 34)).toNat ((hs h 45 (wI s1).toNat s2) 34 23)) 34 21)) 34 34)).toNat ((hs (hs (hs h 45 (wI s1).toNat s2) 46 (wI ((hs h 45 (wI s1).toNat s2) 34 34)).toNat ((hs h 45 (wI s1).toNat s2) 34 23)) 47 (wI ((hs (hs h 45 (wI s1).toNat s2) 46 (wI ((hs h 45 (wI s1).toNat s2) 34 34)).toNat ((hs h 45 (wI s1).toNat s2) 34 23)) 34 34)).toNat ((hs (hs h 45 (wI s1).toNat s2) 46 (wI ((hs h 45 (wI s1).toNat s2) 34 34)).toNat ((hs h 45 (wI s1).toNat s2) 34 23)) 34 21)) 34 22)) 34 34)).toNat ((hs (hs (hs (hs h 45 (wI s1).toNat s2) 46 (wI ((hs h 45 (wI s1).toNat s2) 34 34)).toNat ((hs h 45 (wI s1).toNat s2) 34 23)) 47 (wI ((hs (hs h 45 (wI s1).toNat s2) 46 (wI ((hs h 45 (wI s1).toNat s2) 34 34)).toNat ((hs h 45 (wI s1).toNat s2) 34 23)) 34 34)).toNat ((hs (hs h 45 (wI s1).toNat s2) 46 (wI ((hs h 45 (wI s1).toNat s2) 34 34)).toNat ((hs h 45 (wI s1).toNat s2) 34 23)) 34 21)) 48 (wI ((hs (hs (hs h 45 (wI s1).toNat s2) 46 (wI ((hs h 45 (wI s1).toNat s2) 34 34)).toNat ((hs h 45 (wI s1).toNat s2) 34 23)) 47 (wI ((hs (hs h 45 (wI s1).toNat s2) 46 (wI ((hs h 45 (wI s1).toNat s2) 34 34)).toNat ((hs h 45 (wI s1).toNat s2) 34 23)) 34 34)).toNat ((hs (hs h 45 (wI s1).toNat s2) 46 (wI ((hs h 45 (wI s1).toNat s2) 34 34)).toNat ((hs h 45 (wI s1).toNat s2) 34 23)) 34 21)) 34 34)).toNat ((hs (hs (hs h 45 (wI s1).toNat s2) 46 (wI ((hs h 45 (wI s1).toNat s2) 34 34)).toNat ((hs h 45 (wI s1).toNat s2) 34 23)) 47 (wI ((hs (hs h 45 (wI s1).toNat s2) 46 (wI ((hs h 45 (wI s1).toNat s2) 34 34)).toNat ((hs h 45 (wI s1).toNat s2) 34 23)) 34 34)).toNat ((hs (hs h 45 (wI s1).toNat s2) 46 (wI ((hs h 45 (wI s1).toNat s2) 34 34)).toNat ((hs h 45 (wI s1).toNat s2) 34 23)) 34 21)) 34 22)) 34 24)) 34 34 (((hs (hs (hs (hs (hs h 45 (wI s1).toNat s2) 46 (wI ((hs h 45 (wI s1).toNat s2) 34 34)).toNat ((hs h 45 (wI s1).toNat s2) 34 23)) 47 (wI ((hs (hs h 45 (wI s1).toNat s2) 46 (wI ((hs h 45 (wI s1).toNat s2) 34 34)).toNat ((hs h 45 (wI s1).toNat s2) 34 23)) 34 34)).toNat ((hs (hs h 45 (wI s1).toNat s2) 46 (wI ((hs h 45 (wI s1).toNat s2) 34 34)).toNat ((hs h 45 (wI s1).toNat s2) 34 23)) 34 21)) 48 (wI ((hs (hs (hs h 45 (wI s1).toNat s2) 46 (wI ((hs h 45 (wI s1).toNat s2) 34 34)).toNat ((hs h 45 (wI s1).toNat s2) 34 23)) 47 (wI ((hs (hs h 45 (wI s1).toNat s2) 46 (wI ((hs h 45 (wI s1).toNat s2) 34 34)).toNat ((hs h 45 (wI s1).toNat s2) 34 23)) 34 34)).toNat ((hs (hs h 45 (wI s1).toNat s2) 46 (wI ((hs h 45 (wI s1).toNat s2) 34 34)).toNat ((hs h 45 (wI s1).toNat s2) 34 23)) 34 21)) 34 34)).toNat ((hs (hs (hs h 45 (wI s1).toNat s2) 46 (wI ((hs h 45 (wI s1).toNat s2) 34 34)).toNat ((hs h 45 (wI s1).toNat s2) 34 23)) 47 (wI ((hs (hs h 45 (wI s1).toNat s2) 46 (wI ((hs h 45 (wI s1).toNat s2) 34 34)).toNat ((hs h 45 (wI s1).toNat s2) 34 23)) 34 34)).toNat ((hs (hs h 45 (wI s1).toNat s2) 46 (wI ((hs h 45 (wI s1).toNat s2) 34 34)).toNat ((hs h 45 (wI s1).toNat s2) 34 23)) 34 21)) 34 22)) 49 (wI ((hs (hs (hs (hs h 45 (wI s1).toNat s2) 46 (wI ((hs h 45 (wI s1).toNat s2) 34 34)).toNat ((hs h 45 (wI s1).toNat s2) 34 23)) 47 (wI ((hs (hs h 45 (wI s1).toNat s2) 46 (wI ((hs h 45 (wI s1).toNat s2) 34 34)).toNat ((hs h 45 (wI s1).toNat s2) 34 23)) 34 34)).toNat ((hs (hs h 45 (wI s1).toNat s2) 46 (wI ((hs h 45 (wI s1).toNat s2) 34 34)).toNat ((hs h 45 (wI s1).toNat s2) 34 23)) 34 21)) 48 (wI ((hs (hs (hs h 45 (wI s1).toNat s2) 46 (wI ((hs h 45 (wI s1).toNat s2) 34 34)).toNat ((hs h 45 (wI s1).toNat s2) 34 23)) 47 (wI ((hs (hs h 45 (wI s1).toNat s2) 46 (wI ((hs h 45 (wI s1).toNat s2) 34 34)).toNat ((hs h 45 (wI s1).toNat s2) 34 23)) 34 34)).toNat ((hs (hs h 45 (wI s1).toNat s2) 46 (wI ((hs h 45 (wI s1).toNat s2) 34 34)).toNat ((hs h 45 (wI s1).toNat s2) 34 23)) 34 21)) 34 34)).toNat ((hs (hs (hs h 45 (wI s1).toNat s2) 46 (wI ((hs h 45 (wI s1).toNat s2) 34 34)).toNat ((hs h 45 (wI s1).toNat s2) 34 23)) 47 (wI ((hs (hs h 45 (wI s1).toNat s2) 46 (wI ((hs h 45 (wI s1).toNat s2) 34 34)).toNat ((hs h 45 (wI s1).toNat s2) 34 23)) 34 34)).toNat ((hs (hs h 45 (wI s1).toNat s2) 46 (wI ((hs h 45 (wI s1).toNat s2) 34 34)).toNat ((hs h 45 (wI s1).toNat s2) 34 23)) 34 21)) 34 22)) 34 34)).toNat ((hs (hs (hs (hs h 45 (wI s1).toNat s2) 46 (wI ((hs h 45 (wI s1).toNat s2) 34 34)).toNat ((hs h 45 (wI s1).toNat s2) 34 23)) 47 (wI ((hs (hs h 45 (wI s1).toNat s2) 46 (wI ((hs h 45 (wI s1).toNat s2) 34 34)).toNat ((hs h 45 (wI s1).toNat s2) 34 23)) 34 34)).toNat ((hs (hs h 45 (wI s1).toNat s2) 46 (wI ((hs h 45 (wI s1).toNat s2) 34 34)).toNat ((hs h 45 (wI s1).toNat s2) 34 23)) 34 21)) 48 (wI ((hs (hs (hs h 45 (wI s1).toNat s2) 46 (wI ((hs h 45 (wI s1).toNat s2) 34 34)).toNat ((hs h 45 (wI s1).toNat s2) 34 23)) 47 (wI ((hs (hs h 45 (wI s1).toNat s2) 46 (wI ((hs h 45 (wI s1).toNat s2) 34 34)).toNat ((hs h 45 (wI s1).toNat s2) 34 23)) 34 34)).toNat ((hs (hs h 45 (wI s1).toNat s2) 46 (wI ((hs h 45 (wI s1).toNat s2) 34 34)).toNat ((hs h 45 (wI s1).toNat s2) 34 23)) 34 21)) 34 34)).toNat ((hs (hs (hs h 45 (wI s1).toNat s2) 46 (wI ((hs h 45 (wI s1).toNat s2) 34 34)).toNat ((hs h 45 (wI s1).toNat s2) 34 23)) 47 (wI ((hs (hs h 45 (wI s1).toNat s2) 46 (wI ((hs h 45 (wI s1).toNat s2) 34 34)).toNat ((hs h 45 (wI s1).toNat s2) 34 23)) 34 34)).toNat ((hs (hs h 45 (wI s1).toNat s2) 46 (wI ((hs h 45 (wI s1).toNat s2) 34 34)).toNat ((hs h 45 (wI s1).toNat s2) 34 23)) 34 21)) 34 22)) 34 24)) 34 34) + 1)))))))))) :
  Go G (pV P) 208 79 [some (vR 34), none, none] [vI s2, vI s1, vR 45] h := go1 ok208 900 H
-- Model.beginSets()V  [34]
set_option maxRecDepth 100000 in
theorem q_M_beginSets {G : GG} {P : AH → Prop} {h : AH}
  (H : ((0 ≤ (0 : Int) ∧ (0 : Int) < 200) ∧
  ((0 ≤ (0 : Int) ∧ (0 : Int) < 200) ∧
  ((0 ≤ (0 : Int) ∧ (0 : Int) < 200) ∧
  (((1 : Int) = 0 ∨ (1 : Int) = 1) ∧ ((0 ≤ (0 : Int) ∧ (0 : Int) < 200) ∧
  (((0 : Int) = 0 ∨ (0 : Int) = 1) ∧ ((0 ≤ (0 : Int) ∧ (0 : Int) < 200) ∧
  ((0 ≤ (0 : Int) ∧ (0 : Int) < 200) ∧
  P (hs (hs (hs (hs (hs (hs (hs h 34 34 1) 41 0 0) 42 0 (-9)) 45 0 1) 46 0 0) 48 0 ((hs (hs (hs (hs (hs h 34 34 1) 41 0 0) 42 0 (-9)) 45 0 1) 46 0 0) 34 1)) 49 0 16)))))))))) :
  RunsV G 209 [vR 34] h P := runs_of (by decide) 0 rfl (go1 ok209 900 H)
-- Model.rowOfSet(I)V  [34]
set_option maxRecDepth 100000 in
theorem q_M_rowOfSet {G : GG} {P : AH → Prop} {x1 : Int} {h : AH}
  (H : ((wI x1 = 0 →
    RunsV G 200 [vR 34] h (fun h1 =>
    P h1)) ∧
    (¬ wI x1 = 0 →
    ((0 ≤ wI x1 ∧ wI x1 < 200) ∧
    ((128 : Int) ≠ 0 ∧ ((0 ≤ wI x1 ∧ wI x1 < 200) ∧
    Go G (pV P) 210 41 [some (vR 34), some (vI x1), some (vI (Int.tdiv (wL ((h 47 (wI x1).toNat) + 127)) 128)), some (vL (wI ((hs h 34 17 (Int.tdiv (wL ((h 47 (wI x1).toNat) + 127)) 128)) 48 (wI x1).toNat))), none, some (vI 0)] [] (hs h 34 17 (Int.tdiv (wL ((h 47 (wI x1).toNat) + 127)) 128)))))))) :
  RunsV G 210 [vR 34, vI x1] h P := runs_of (by decide) 4 rfl (go1 ok210 900 H)
set_option maxRecDepth 100000 in
theorem q_M_rowOfSet_c41 {G : GG} {P : AH → Prop} {x1 x2 y3 x5 : Int} {h : AH}
  (H : ((wI x2 ≤ wI x5 →
    P h) ∧
    (¬ wI x2 ≤ wI x5 →
    ((0 ≤ wI x5 ∧ wI x5 < 102) ∧
    ((0 ≤ wI x1 ∧ wI x1 < 200) ∧
    ((wI ((hs h 39 (wI x5).toNat y3) 46 (wI x1).toNat) = 0 →
      RunsL G 171 [vR 34, vR 35, vI y3] (hs h 39 (wI x5).toNat y3) (fun r1 h1 =>
      Go G (pV P) 210 41 [some (vR 34), some (vI x1), some (vI x2), some (vL r1), none, some (vI (x5 + 1))] [] h1)) ∧
      (¬ wI ((hs h 39 (wI x5).toNat y3) 46 (wI x1).toNat) = 0 →
      Go G (pV P) 210 41 [some (vR 34), some (vI x1), some (vI x2), some (vL (y3 + 1)), none, some (vI (x5 + 1))] [] (hs h 39 (wI x5).toNat y3)))))))) :
  Go G (pV P) 210 41 [some (vR 34), some (vI x1), some (vI x2), some (vL y3), none, some (vI x5)] [] h := go1 ok210 900 H
-- Model.scan()V  [34]
set_option maxRecDepth 100000 in
theorem q_M_scan {G : GG} {P : AH → Prop} {h : AH}
  (H : RunsV G 209 [vR 34] h (fun h1 =>
  Go G (pV P) 211 6 [some (vR 34), some (vI 0), none, none] [] h1)) :
  RunsV G 211 [vR 34] h P := runs_of (by decide) 3 rfl (go1 ok211 900 H)
set_option maxRecDepth 100000 in
theorem q_M_scan_c6 {G : GG} {P : AH → Prop} {x1 : Int} {h : AH}
  (H : ((wI (h 34 34) ≤ wI x1 →
    P h) ∧
    (¬ wI (h 34 34) ≤ wI x1 →
    ((0 ≤ wI x1 ∧ wI x1 < 200) ∧
    ((wI (h 45 (wI x1).toNat) = 0 →
      Go G (pV P) 211 6 [some (vR 34), some (vI (x1 + 1)), none, none] [] h) ∧
      (¬ wI (h 45 (wI x1).toNat) = 0 →
      RunsV G 210 [vR 34, vI x1] h (fun h1 =>
      ((wI x1 = 0 →
        Go G (pV P) 211 38 [some (vR 34), some (vI x1), some (vI 2), none] [] h1) ∧
        (¬ wI x1 = 0 →
        Go G (pV P) 211 38 [some (vR 34), some (vI x1), some (vI 0), none] [] h1))))))))) :
  Go G (pV P) 211 6 [some (vR 34), some (vI x1), none, none] [] h := go1 ok211 900 H
set_option maxRecDepth 100000 in
theorem q_M_scan_c38 {G : GG} {P : AH → Prop} {x1 x2 : Int} {h : AH}
  (H : RunsI G 199 [vR 34] h (fun r1 h1 =>
  ((wI r1 ≤ wI x2 →
    Go G (pV P) 211 6 [some (vR 34), some (vI (x1 + 1)), none, none] [] h1) ∧
    (¬ wI r1 ≤ wI x2 →
    RunsI G 198 [vR 34, vI x2] h1 (fun r2 h2 =>
    ((wI r2 = (133 : Int) →
      RunsI G 205 [vR 34, vI x2] h2 (fun r3 h3 =>
      ((wI r3 = 0 →
        Go G (pV P) 211 70 [some (vR 34), some (vI x1), some (vI x2), none] [vI 0] h3) ∧
        (¬ wI r3 = 0 →
        Go G (pV P) 211 70 [some (vR 34), some (vI x1), some (vI x2), none] [vI 1] h3)))) ∧
      (¬ wI r2 = (133 : Int) →
      Go G (pV P) 211 70 [some (vR 34), some (vI x1), some (vI x2), none] [vI 0] h2))))))) :
  Go G (pV P) 211 38 [some (vR 34), some (vI x1), some (vI x2), none] [] h := go1 ok211 900 H
set_option maxRecDepth 100000 in
theorem q_M_scan_c70 {G : GG} {P : AH → Prop} {x1 x2 s0 : Int} {h : AH}
  (H : ((wI s0 = 0 →
    ((wI s0 = 0 →
      Go G (pV P) 211 38 [some (vR 34), some (vI x1), some (vI (x2 + 1)), none] [] h) ∧
      (¬ wI s0 = 0 →
      Go G (pV P) 211 38 [some (vR 34), some (vI x1), some (vI (x2 + (h 34 18))), none] [] h))) ∧
    (¬ wI s0 = 0 →
    RunsV G 208 [vR 34, vI x1, vI x2] h (fun h1 =>
    ((wI s0 = 0 →
      Go G (pV P) 211 38 [some (vR 34), some (vI x1), some (vI (x2 + 1)), none] [] h1) ∧
      (¬ wI s0 = 0 →
      Go G (pV P) 211 38 [some (vR 34), some (vI x1), some (vI (x2 + (h1 34 18))), none] [] h1)))))) :
  Go G (pV P) 211 70 [some (vR 34), some (vI x1), some (vI x2), none] [vI s0] h := go1 ok211 900 H
-- Model.setAt(I)I  [34]
set_option maxRecDepth 100000 in
theorem q_M_setAt {G : GG} {P : Int → AH → Prop} {x1 : Int} {h : AH}
  (H : RunsV G 211 [vR 34] h (fun h1 =>
  Go G (pI P) 212 6 [some (vR 34), some (vI x1), some (vI 0)] [] h1)) :
  RunsI G 212 [vR 34, vI x1] h P := runs_of (by decide) 1 rfl (go1 ok212 900 H)
set_option maxRecDepth 100000 in
theorem q_M_setAt_c6 {G : GG} {P : Int → AH → Prop} {x1 x2 : Int} {h : AH}
  (H : ((wI (h 34 34) ≤ wI x2 →
    P (-9) h) ∧
    (¬ wI (h 34 34) ≤ wI x2 →
    ((0 ≤ wI x2 ∧ wI x2 < 200) ∧
    ((wI (h 41 (wI x2).toNat) = wI x1 →
      P x2 h) ∧
      (¬ wI (h 41 (wI x2).toNat) = wI x1 →
      Go G (pI P) 212 6 [some (vR 34), some (vI x1), some (vI (x2 + 1))] [] h)))))) :
  Go G (pI P) 212 6 [some (vR 34), some (vI x1), some (vI x2)] [] h := go1 ok212 900 H
-- Model.directoryAt(I)I  [34]
set_option maxRecDepth 100000 in
theorem q_M_directoryAt {G : GG} {P : Int → AH → Prop} {x1 : Int} {h : AH}
  (H : RunsI G 212 [vR 34, vI x1] h (fun r1 h1 =>
  ((wI r1 = ((-9) : Int) →
    P (-9) h1) ∧
    (¬ wI r1 = ((-9) : Int) →
    ((0 ≤ wI r1 ∧ wI r1 < 200) ∧
    ((wI (h1 45 (wI r1).toNat) = 0 →
      P (-9) h1) ∧
      (¬ wI (h1 45 (wI r1).toNat) = 0 →
      P r1 h1))))))) :
  RunsI G 213 [vR 34, vI x1] h P := runs_of (by decide) 1 rfl (go1 ok213 900 H)
-- Model.fileAt(I)I  [34]
set_option maxRecDepth 100000 in
theorem q_M_fileAt {G : GG} {P : Int → AH → Prop} {x1 : Int} {h : AH}
  (H : RunsI G 212 [vR 34, vI x1] h (fun r1 h1 =>
  ((wI r1 = ((-9) : Int) →
    P (-9) h1) ∧
    (¬ wI r1 = ((-9) : Int) →
    ((0 ≤ wI r1 ∧ wI r1 < 200) ∧
    ((wI (h1 45 (wI r1).toNat) = 0 →
      P r1 h1) ∧
      (¬ wI (h1 45 (wI r1).toNat) = 0 →
      P (-9) h1))))))) :
  RunsI G 214 [vR 34, vI x1] h P := runs_of (by decide) 1 rfl (go1 ok214 900 H)
-- Model.clustersWrong()I  [34]
set_option maxRecDepth 100000 in
theorem q_M_clustersWrong {G : GG} {P : Int → AH → Prop} {h : AH}
  (H : ((128 : Int) ≠ 0 ∧ ((wI (h 34 23) = 0 →
    Go G (pI P) 215 52 [some (vR 34), some (vI (Int.tdiv (wL ((h 34 21) + 127)) 128)), some (vL (h 34 22)), none, some (vI 0)] [] h) ∧
    (¬ wI (h 34 23) = 0 →
    ((wL (((h 34 22) + (wI (Int.tdiv (wL ((h 34 21) + 127)) 128))) - 1) ≤ wL (wI ((h 34 0) + 1)) →
      Go G (pI P) 215 52 [some (vR 34), some (vI (Int.tdiv (wL ((h 34 21) + 127)) 128)), some (vL (h 34 22)), none, some (vI 0)] [] h) ∧
      (¬ wL (((h 34 22) + (wI (Int.tdiv (wL ((h 34 21) + 127)) 128))) - 1) ≤ wL (wI ((h 34 0) + 1)) →
      P 6 h)))))) :
  RunsI G 215 [vR 34] h P := runs_of (by decide) 4 rfl (go1 ok215 900 H)
set_option maxRecDepth 100000 in
theorem q_M_clustersWrong_c52 {G : GG} {P : Int → AH → Prop} {x1 y2 x4 : Int} {h : AH}
  (H : ((wI x1 ≤ wI x4 →
    Go G (pI P) 215 93 [some (vR 34), some (vI x1), some (vL y2), none, none] [] h) ∧
    (¬ wI x1 ≤ wI x4 →
    ((wI (h 34 23) = 0 →
      RunsI G 170 [vR 34, vL y2] h (fun r1 h1 =>
      ((wI r1 = 0 →
        P 6 h1) ∧
        (¬ wI r1 = 0 →
        RunsL G 171 [vR 34, vR 35, vI y2] h1 (fun r2 h2 =>
        Go G (pI P) 215 52 [some (vR 34), some (vI x1), some (vL r2), none, some (vI (x4 + 1))] [] h2))))) ∧
      (¬ wI (h 34 23) = 0 →
      Go G (pI P) 215 93 [some (vR 34), some (vI x1), some (vL y2), none, none] [] h))))) :
  Go G (pI P) 215 52 [some (vR 34), some (vI x1), some (vL y2), none, some (vI x4)] [] h := go1 ok215 900 H
set_option maxRecDepth 100000 in
theorem q_M_clustersWrong_c93 {G : GG} {P : Int → AH → Prop} {x1 y2 : Int} {h : AH}
  (H : ((wI (h 34 23) = 0 →
    ((wI x1 ≤ 0 →
      Go G (pI P) 215 138 [some (vR 34), some (vI x1), some (vL (h 34 22)), none, some (vI 0)] [] h) ∧
      (¬ wI x1 ≤ 0 →
      ((wL y2 = (4294967295 : Int) →
        Go G (pI P) 215 138 [some (vR 34), some (vI x1), some (vL (h 34 22)), none, some (vI 0)] [] h) ∧
        (¬ wL y2 = (4294967295 : Int) →
        ((wI (h 34 35) = 0 →
          P 6 h) ∧
          (¬ wI (h 34 35) = 0 →
          RunsI G 216 [vR 34, vI x1] h (fun r1 h1 =>
          P r1 h1)))))))) ∧
    (¬ wI (h 34 23) = 0 →
    Go G (pI P) 215 138 [some (vR 34), some (vI x1), some (vL (h 34 22)), none, some (vI 0)] [] h))) :
  Go G (pI P) 215 93 [some (vR 34), some (vI x1), some (vL y2), none, none] [] h := go1 ok215 900 H
set_option maxRecDepth 100000 in
theorem q_M_clustersWrong_c138 {G : GG} {P : Int → AH → Prop} {x1 y2 x4 : Int} {h : AH}
  (H : ((wI x1 ≤ wI x4 →
    P 0 h) ∧
    (¬ wI x1 ≤ wI x4 →
    ((0 ≤ wI y2 ∧ wI y2 < 102) ∧
    ((wI (h 37 (wI y2).toNat) = 0 →
      ((wI (h 34 23) = 0 →
        RunsL G 171 [vR 34, vR 35, vI y2] h (fun r1 h1 =>
        Go G (pI P) 215 138 [some (vR 34), some (vI x1), some (vL r1), none, some (vI (x4 + 1))] [] h1)) ∧
        (¬ wI (h 34 23) = 0 →
        Go G (pI P) 215 138 [some (vR 34), some (vI x1), some (vL (y2 + 1)), none, some (vI (x4 + 1))] [] h))) ∧
      (¬ wI (h 37 (wI y2).toNat) = 0 →
      P 7 h)))))) :
  Go G (pI P) 215 138 [some (vR 34), some (vI x1), some (vL y2), none, some (vI x4)] [] h := go1 ok215 900 H
-- Model.openEnd(I)I  [34]
set_option maxRecDepth 100000 in
theorem q_M_openEnd {G : GG} {P : Int → AH → Prop} {x1 : Int} {h : AH}
  (H : Go G (pI P) 216 8 [some (vR 34), some (vI x1), some (vL (h 34 22)), none, some (vI 0), none, none] [] h) :
  RunsI G 216 [vR 34, vI x1] h P := runs_of (by decide) 5 rfl (go1 ok216 900 H)
set_option maxRecDepth 100000 in
theorem q_M_openEnd_c8 {G : GG} {P : Int → AH → Prop} {x1 y2 x4 : Int} {h : AH}
  (H : ((wI x1 ≤ wI x4 →
    P 66 h) ∧
    (¬ wI x1 ≤ wI x4 →
    ((0 ≤ wI y2 ∧ wI y2 < 102) ∧
    Go G (pI P) 216 26 [some (vR 34), some (vI x1), some (vL y2), none, some (vI x4), some (vI (h 37 (wI y2).toNat)), some (vI 0)] [] h)))) :
  Go G (pI P) 216 8 [some (vR 34), some (vI x1), some (vL y2), none, some (vI x4), none, none] [] h := go1 ok216 900 H
set_option maxRecDepth 100000 in
theorem q_M_openEnd_c26 {G : GG} {P : Int → AH → Prop} {x1 y2 x4 x5 x6 : Int} {h : AH}
  (H : ((wI x4 ≤ wI x6 →
    ((wI x5 = 0 →
      ((0 ≤ wI x4 ∧ wI x4 < 102) ∧
      RunsL G 171 [vR 34, vR 35, vI y2] (hs h 51 (wI x4).toNat y2) (fun r1 h1 =>
      Go G (pI P) 216 8 [some (vR 34), some (vI x1), some (vL r1), none, some (vI (x4 + 1)), none, none] [] h1))) ∧
      (¬ wI x5 = 0 →
      P 7 h))) ∧
    (¬ wI x4 ≤ wI x6 →
    ((0 ≤ wI x6 ∧ wI x6 < 102) ∧
    ((wI (h 51 (wI x6).toNat) = wI y2 →
      Go G (pI P) 216 26 [some (vR 34), some (vI x1), some (vL y2), none, some (vI x4), some (vI (bO x5 1)), some (vI (x6 + 1))] [] h) ∧
      (¬ wI (h 51 (wI x6).toNat) = wI y2 →
      Go G (pI P) 216 26 [some (vR 34), some (vI x1), some (vL y2), none, some (vI x4), some (vI (bO x5 0)), some (vI (x6 + 1))] [] h)))))) :
  Go G (pI P) 216 26 [some (vR 34), some (vI x1), some (vL y2), none, some (vI x4), some (vI x5), some (vI x6)] [] h := go1 ok216 900 H
-- Model.meetClusters()V  [34]
set_option maxRecDepth 100000 in
theorem q_M_meetClusters {G : GG} {P : AH → Prop} {h : AH}
  (H : ((128 : Int) ≠ 0 ∧ Go G (pV P) 217 22 [some (vR 34), some (vI (Int.tdiv (wL ((h 34 21) + 127)) 128)), some (vL (h 34 22)), none, some (vI 0)] [] h)) :
  RunsV G 217 [vR 34] h P := runs_of (by decide) 4 rfl (go1 ok217 900 H)
set_option maxRecDepth 100000 in
theorem q_M_meetClusters_c22 {G : GG} {P : AH → Prop} {x1 y2 x4 : Int} {h : AH}
  (H : ((wI x1 ≤ wI x4 →
    P h) ∧
    (¬ wI x1 ≤ wI x4 →
    ((0 ≤ wI y2 ∧ wI y2 < 102) ∧
    (((1 : Int) = 0 ∨ (1 : Int) = 1) ∧ ((wI ((hs h 37 (wI y2).toNat 1) 34 23) = 0 →
      RunsL G 171 [vR 34, vR 35, vI y2] (hs h 37 (wI y2).toNat 1) (fun r1 h1 =>
      Go G (pV P) 217 22 [some (vR 34), some (vI x1), some (vL r1), none, some (vI (x4 + 1))] [] h1)) ∧
      (¬ wI ((hs h 37 (wI y2).toNat 1) 34 23) = 0 →
      Go G (pV P) 217 22 [some (vR 34), some (vI x1), some (vL (y2 + 1)), none, some (vI (x4 + 1))] [] (hs h 37 (wI y2).toNat 1)))))))) :
  Go G (pV P) 217 22 [some (vR 34), some (vI x1), some (vL y2), none, some (vI x4)] [] h := go1 ok217 900 H
