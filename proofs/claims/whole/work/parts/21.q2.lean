/-! what is to be shown of each method, from its entry and from its cuts, by program out of the code tables -/
-- BitmapVolume$Chain.add(I)V  [15]
set_option maxRecDepth 100000 in
theorem q_C_add_15 {G : GG} {P : AH → Prop} {x1 : Int} {h : AH}
  (H : (((102 : Int) ≤ wI (h 15 1) →
    P h) ∧
    (¬ (102 : Int) ≤ wI (h 15 1) →
    ((0 ≤ wI (h 15 1) ∧ wI (h 15 1) < 102) ∧
    P (hs (hs h 15 1 ((h 15 1) + 1)) 16 (wI (h 15 1)).toNat x1))))) :
  RunsV G 25 [vR 15, vI x1] h P := runs_of (by decide) 0 rfl (go1 ok25 900 H)
-- BitmapVolume$Chain.add(I)V  [18]
set_option maxRecDepth 100000 in
theorem q_C_add_18 {G : GG} {P : AH → Prop} {x1 : Int} {h : AH}
  (H : (((102 : Int) ≤ wI (h 18 1) →
    P h) ∧
    (¬ (102 : Int) ≤ wI (h 18 1) →
    ((0 ≤ wI (h 18 1) ∧ wI (h 18 1) < 102) ∧
    P (hs (hs h 18 1 ((h 18 1) + 1)) 19 (wI (h 18 1)).toNat x1))))) :
  RunsV G 25 [vR 18, vI x1] h P := runs_of (by decide) 0 rfl (go1 ok25 900 H)
-- BitmapVolume$Chain.add(I)V  [20]
set_option maxRecDepth 100000 in
theorem q_C_add_20 {G : GG} {P : AH → Prop} {x1 : Int} {h : AH}
  (H : (((102 : Int) ≤ wI (h 20 1) →
    P h) ∧
    (¬ (102 : Int) ≤ wI (h 20 1) →
    ((0 ≤ wI (h 20 1) ∧ wI (h 20 1) < 102) ∧
    P (hs (hs h 20 1 ((h 20 1) + 1)) 21 (wI (h 20 1)).toNat x1))))) :
  RunsV G 25 [vR 20, vI x1] h P := runs_of (by decide) 0 rfl (go1 ok25 900 H)
-- BitmapVolume$Chain.add(I)V  [28]
set_option maxRecDepth 100000 in
theorem q_C_add_28 {G : GG} {P : AH → Prop} {x1 : Int} {h : AH}
  (H : (((102 : Int) ≤ wI (h 28 1) →
    P h) ∧
    (¬ (102 : Int) ≤ wI (h 28 1) →
    ((0 ≤ wI (h 28 1) ∧ wI (h 28 1) < 102) ∧
    P (hs (hs h 28 1 ((h 28 1) + 1)) 29 (wI (h 28 1)).toNat x1))))) :
  RunsV G 25 [vR 28, vI x1] h P := runs_of (by decide) 0 rfl (go1 ok25 900 H)
-- BitmapVolume$Chain.add(I)V  [30]
set_option maxRecDepth 100000 in
theorem q_C_add_30 {G : GG} {P : AH → Prop} {x1 : Int} {h : AH}
  (H : (((102 : Int) ≤ wI (h 30 1) →
    P h) ∧
    (¬ (102 : Int) ≤ wI (h 30 1) →
    ((0 ≤ wI (h 30 1) ∧ wI (h 30 1) < 102) ∧
    P (hs (hs h 30 1 ((h 30 1) + 1)) 31 (wI (h 30 1)).toNat x1))))) :
  RunsV G 25 [vR 30, vI x1] h P := runs_of (by decide) 0 rfl (go1 ok25 900 H)
-- BitmapVolume$Chain.at(I)I  [15]
set_option maxRecDepth 100000 in
theorem q_C_at_15 {G : GG} {P : Int → AH → Prop} {x1 : Int} {h : AH}
  (H : ((wI x1 < 0 →
    P 0 h) ∧
    (¬ wI x1 < 0 →
    ((wI (h 15 1) ≤ wI x1 →
      P 0 h) ∧
      (¬ wI (h 15 1) ≤ wI x1 →
      (((102 : Int) ≤ wI x1 →
        P 0 h) ∧
        (¬ (102 : Int) ≤ wI x1 →
        ((0 ≤ wI x1 ∧ wI x1 < 102) ∧
        P (h 16 (wI x1).toNat) h)))))))) :
  RunsI G 26 [vR 15, vI x1] h P := runs_of (by decide) 0 rfl (go1 ok26 900 H)
-- BitmapVolume$Chain.at(I)I  [18]
set_option maxRecDepth 100000 in
theorem q_C_at_18 {G : GG} {P : Int → AH → Prop} {x1 : Int} {h : AH}
  (H : ((wI x1 < 0 →
    P 0 h) ∧
    (¬ wI x1 < 0 →
    ((wI (h 18 1) ≤ wI x1 →
      P 0 h) ∧
      (¬ wI (h 18 1) ≤ wI x1 →
      (((102 : Int) ≤ wI x1 →
        P 0 h) ∧
        (¬ (102 : Int) ≤ wI x1 →
        ((0 ≤ wI x1 ∧ wI x1 < 102) ∧
        P (h 19 (wI x1).toNat) h)))))))) :
  RunsI G 26 [vR 18, vI x1] h P := runs_of (by decide) 0 rfl (go1 ok26 900 H)
-- BitmapVolume$Chain.at(I)I  [20]
set_option maxRecDepth 100000 in
theorem q_C_at_20 {G : GG} {P : Int → AH → Prop} {x1 : Int} {h : AH}
  (H : ((wI x1 < 0 →
    P 0 h) ∧
    (¬ wI x1 < 0 →
    ((wI (h 20 1) ≤ wI x1 →
      P 0 h) ∧
      (¬ wI (h 20 1) ≤ wI x1 →
      (((102 : Int) ≤ wI x1 →
        P 0 h) ∧
        (¬ (102 : Int) ≤ wI x1 →
        ((0 ≤ wI x1 ∧ wI x1 < 102) ∧
        P (h 21 (wI x1).toNat) h)))))))) :
  RunsI G 26 [vR 20, vI x1] h P := runs_of (by decide) 0 rfl (go1 ok26 900 H)
-- BitmapVolume$Chain.at(I)I  [28]
set_option maxRecDepth 100000 in
theorem q_C_at_28 {G : GG} {P : Int → AH → Prop} {x1 : Int} {h : AH}
  (H : ((wI x1 < 0 →
    P 0 h) ∧
    (¬ wI x1 < 0 →
    ((wI (h 28 1) ≤ wI x1 →
      P 0 h) ∧
      (¬ wI (h 28 1) ≤ wI x1 →
      (((102 : Int) ≤ wI x1 →
        P 0 h) ∧
        (¬ (102 : Int) ≤ wI x1 →
        ((0 ≤ wI x1 ∧ wI x1 < 102) ∧
        P (h 29 (wI x1).toNat) h)))))))) :
  RunsI G 26 [vR 28, vI x1] h P := runs_of (by decide) 0 rfl (go1 ok26 900 H)
-- BitmapVolume$Chain.at(I)I  [30]
set_option maxRecDepth 100000 in
theorem q_C_at_30 {G : GG} {P : Int → AH → Prop} {x1 : Int} {h : AH}
  (H : ((wI x1 < 0 →
    P 0 h) ∧
    (¬ wI x1 < 0 →
    ((wI (h 30 1) ≤ wI x1 →
      P 0 h) ∧
      (¬ wI (h 30 1) ≤ wI x1 →
      (((102 : Int) ≤ wI x1 →
        P 0 h) ∧
        (¬ (102 : Int) ≤ wI x1 →
        ((0 ≤ wI x1 ∧ wI x1 < 102) ∧
        P (h 31 (wI x1).toNat) h)))))))) :
  RunsI G 26 [vR 30, vI x1] h P := runs_of (by decide) 0 rfl (go1 ok26 900 H)
-- BitmapVolume$Chain.last()I  [20]
set_option maxRecDepth 100000 in
theorem q_C_last_20 {G : GG} {P : Int → AH → Prop} {h : AH}
  (H : RunsI G 26 [vR 20, vI ((h 20 1) - 1)] h (fun r1 h1 =>
  P r1 h1)) :
  RunsI G 27 [vR 20] h P := runs_of (by decide) 0 rfl (go1 ok27 900 H)
-- BitmapVolume$Chain.last()I  [28]
set_option maxRecDepth 100000 in
theorem q_C_last_28 {G : GG} {P : Int → AH → Prop} {h : AH}
  (H : RunsI G 26 [vR 28, vI ((h 28 1) - 1)] h (fun r1 h1 =>
  P r1 h1)) :
  RunsI G 27 [vR 28] h P := runs_of (by decide) 0 rfl (go1 ok27 900 H)
-- BitmapVolume$Chain.trace(LBitmapVolume$Space;IZI)I  [15, 7]
set_option maxRecDepth 100000 in
theorem q_C_trace_15 {G : GG} {P : Int → AH → Prop} {x2 x3 x4 : Int} {h : AH}
  (H : Go G (pI P) 28 11 [some (vR 15), some (vR 7), none, some (vI x3), some (vI x4), some (vI x2), some (vI 0)] [] (hs h 15 1 0)) :
  RunsI G 28 [vR 15, vR 7, vI x2, vI x3, vI x4] h P := runs_of (by decide) 2 rfl (go1 ok28 900 H)
set_option maxRecDepth 100000 in
theorem q_C_trace_15_c11 {G : GG} {P : Int → AH → Prop} {x3 x4 x5 x6 : Int} {h : AH}
  (H : ((wI x4 ≤ wI x6 →
    ((wI x3 = 0 →
      ((wI x4 = 0 →
        P 0 h) ∧
        (¬ wI x4 = 0 →
        ((wI x5 = ((-1) : Int) →
          P 0 h) ∧
          (¬ wI x5 = ((-1) : Int) →
          P 2 h))))) ∧
      (¬ wI x3 = 0 →
      P 0 h))) ∧
    (¬ wI x4 ≤ wI x6 →
    RunsI G 110 [vR 7, vI x5] h (fun r1 h1 =>
    ((wI r1 = 0 →
      P 1 h1) ∧
      (¬ wI r1 = 0 →
      RunsV G 25 [vR 15, vI x5] h1 (fun h2 =>
      ((wI x3 = 0 →
        RunsI G 111 [vR 7, vI x5] h2 (fun r3 h3 =>
        Go G (pI P) 28 11 [some (vR 15), some (vR 7), none, some (vI x3), some (vI x4), some (vI r3), some (vI (x6 + 1))] [] h3)) ∧
        (¬ wI x3 = 0 →
        Go G (pI P) 28 11 [some (vR 15), some (vR 7), none, some (vI x3), some (vI x4), some (vI (x5 + 1)), some (vI (x6 + 1))] [] h2))))))))) :
  Go G (pI P) 28 11 [some (vR 15), some (vR 7), none, some (vI x3), some (vI x4), some (vI x5), some (vI x6)] [] h := go1 ok28 900 H
-- BitmapVolume$Chain.trace(LBitmapVolume$Space;IZI)I  [18, 7]
set_option maxRecDepth 100000 in
theorem q_C_trace_18 {G : GG} {P : Int → AH → Prop} {x2 x3 x4 : Int} {h : AH}
  (H : Go G (pI P) 28 11 [some (vR 18), some (vR 7), none, some (vI x3), some (vI x4), some (vI x2), some (vI 0)] [] (hs h 18 1 0)) :
  RunsI G 28 [vR 18, vR 7, vI x2, vI x3, vI x4] h P := runs_of (by decide) 2 rfl (go1 ok28 900 H)
set_option maxRecDepth 100000 in
theorem q_C_trace_18_c11 {G : GG} {P : Int → AH → Prop} {x3 x4 x5 x6 : Int} {h : AH}
  (H : ((wI x4 ≤ wI x6 →
    ((wI x3 = 0 →
      ((wI x4 = 0 →
        P 0 h) ∧
        (¬ wI x4 = 0 →
        ((wI x5 = ((-1) : Int) →
          P 0 h) ∧
          (¬ wI x5 = ((-1) : Int) →
          P 2 h))))) ∧
      (¬ wI x3 = 0 →
      P 0 h))) ∧
    (¬ wI x4 ≤ wI x6 →
    RunsI G 110 [vR 7, vI x5] h (fun r1 h1 =>
    ((wI r1 = 0 →
      P 1 h1) ∧
      (¬ wI r1 = 0 →
      RunsV G 25 [vR 18, vI x5] h1 (fun h2 =>
      ((wI x3 = 0 →
        RunsI G 111 [vR 7, vI x5] h2 (fun r3 h3 =>
        Go G (pI P) 28 11 [some (vR 18), some (vR 7), none, some (vI x3), some (vI x4), some (vI r3), some (vI (x6 + 1))] [] h3)) ∧
        (¬ wI x3 = 0 →
        Go G (pI P) 28 11 [some (vR 18), some (vR 7), none, some (vI x3), some (vI x4), some (vI (x5 + 1)), some (vI (x6 + 1))] [] h2))))))))) :
  Go G (pI P) 28 11 [some (vR 18), some (vR 7), none, some (vI x3), some (vI x4), some (vI x5), some (vI x6)] [] h := go1 ok28 900 H
-- BitmapVolume$Chain.trace(LBitmapVolume$Space;IZI)I  [20, 7]
set_option maxRecDepth 100000 in
theorem q_C_trace_20 {G : GG} {P : Int → AH → Prop} {x2 x3 x4 : Int} {h : AH}
  (H : Go G (pI P) 28 11 [some (vR 20), some (vR 7), none, some (vI x3), some (vI x4), some (vI x2), some (vI 0)] [] (hs h 20 1 0)) :
  RunsI G 28 [vR 20, vR 7, vI x2, vI x3, vI x4] h P := runs_of (by decide) 2 rfl (go1 ok28 900 H)
set_option maxRecDepth 100000 in
theorem q_C_trace_20_c11 {G : GG} {P : Int → AH → Prop} {x3 x4 x5 x6 : Int} {h : AH}
  (H : ((wI x4 ≤ wI x6 →
    ((wI x3 = 0 →
      ((wI x4 = 0 →
        P 0 h) ∧
        (¬ wI x4 = 0 →
        ((wI x5 = ((-1) : Int) →
          P 0 h) ∧
          (¬ wI x5 = ((-1) : Int) →
          P 2 h))))) ∧
      (¬ wI x3 = 0 →
      P 0 h))) ∧
    (¬ wI x4 ≤ wI x6 →
    RunsI G 110 [vR 7, vI x5] h (fun r1 h1 =>
    ((wI r1 = 0 →
      P 1 h1) ∧
      (¬ wI r1 = 0 →
      RunsV G 25 [vR 20, vI x5] h1 (fun h2 =>
      ((wI x3 = 0 →
        RunsI G 111 [vR 7, vI x5] h2 (fun r3 h3 =>
        Go G (pI P) 28 11 [some (vR 20), some (vR 7), none, some (vI x3), some (vI x4), some (vI r3), some (vI (x6 + 1))] [] h3)) ∧
        (¬ wI x3 = 0 →
        Go G (pI P) 28 11 [some (vR 20), some (vR 7), none, some (vI x3), some (vI x4), some (vI (x5 + 1)), some (vI (x6 + 1))] [] h2))))))))) :
  Go G (pI P) 28 11 [some (vR 20), some (vR 7), none, some (vI x3), some (vI x4), some (vI x5), some (vI x6)] [] h := go1 ok28 900 H
-- BitmapVolume$Chain.trace(LBitmapVolume$Space;IZI)I  [28, 7]
set_option maxRecDepth 100000 in
theorem q_C_trace_28 {G : GG} {P : Int → AH → Prop} {x2 x3 x4 : Int} {h : AH}
  (H : Go G (pI P) 28 11 [some (vR 28), some (vR 7), none, some (vI x3), some (vI x4), some (vI x2), some (vI 0)] [] (hs h 28 1 0)) :
  RunsI G 28 [vR 28, vR 7, vI x2, vI x3, vI x4] h P := runs_of (by decide) 2 rfl (go1 ok28 900 H)
set_option maxRecDepth 100000 in
theorem q_C_trace_28_c11 {G : GG} {P : Int → AH → Prop} {x3 x4 x5 x6 : Int} {h : AH}
  (H : ((wI x4 ≤ wI x6 →
    ((wI x3 = 0 →
      ((wI x4 = 0 →
        P 0 h) ∧
        (¬ wI x4 = 0 →
        ((wI x5 = ((-1) : Int) →
          P 0 h) ∧
          (¬ wI x5 = ((-1) : Int) →
          P 2 h))))) ∧
      (¬ wI x3 = 0 →
      P 0 h))) ∧
    (¬ wI x4 ≤ wI x6 →
    RunsI G 110 [vR 7, vI x5] h (fun r1 h1 =>
    ((wI r1 = 0 →
      P 1 h1) ∧
      (¬ wI r1 = 0 →
      RunsV G 25 [vR 28, vI x5] h1 (fun h2 =>
      ((wI x3 = 0 →
        RunsI G 111 [vR 7, vI x5] h2 (fun r3 h3 =>
        Go G (pI P) 28 11 [some (vR 28), some (vR 7), none, some (vI x3), some (vI x4), some (vI r3), some (vI (x6 + 1))] [] h3)) ∧
        (¬ wI x3 = 0 →
        Go G (pI P) 28 11 [some (vR 28), some (vR 7), none, some (vI x3), some (vI x4), some (vI (x5 + 1)), some (vI (x6 + 1))] [] h2))))))))) :
  Go G (pI P) 28 11 [some (vR 28), some (vR 7), none, some (vI x3), some (vI x4), some (vI x5), some (vI x6)] [] h := go1 ok28 900 H
-- BitmapVolume$Chain.traceToEnd(LBitmapVolume$Space;I)V  [15, 7]
set_option maxRecDepth 100000 in
theorem q_C_traceToEnd_15 {G : GG} {P : AH → Prop} {x2 : Int} {h : AH}
  (H : Go G (pV P) 29 10 [some (vR 15), some (vR 7), none, some (vI x2), some (vI 0)] [] (hs h 15 1 0)) :
  RunsV G 29 [vR 15, vR 7, vI x2] h P := runs_of (by decide) 2 rfl (go1 ok29 900 H)
set_option maxRecDepth 100000 in
theorem q_C_traceToEnd_15_c10 {G : GG} {P : AH → Prop} {x3 x4 : Int} {h : AH}
  (H : (((102 : Int) ≤ wI x4 →
    P h) ∧
    (¬ (102 : Int) ≤ wI x4 →
    RunsI G 110 [vR 7, vI x3] h (fun r1 h1 =>
    ((wI r1 = 0 →
      P h1) ∧
      (¬ wI r1 = 0 →
      RunsV G 25 [vR 15, vI x3] h1 (fun h2 =>
      RunsI G 111 [vR 7, vI x3] h2 (fun r3 h3 =>
      Go G (pV P) 29 10 [some (vR 15), some (vR 7), none, some (vI r3), some (vI (x4 + 1))] [] h3)))))))) :
  Go G (pV P) 29 10 [some (vR 15), some (vR 7), none, some (vI x3), some (vI x4)] [] h := go1 ok29 900 H
-- BitmapVolume$Chain.traceToEnd(LBitmapVolume$Space;I)V  [18, 7]
set_option maxRecDepth 100000 in
theorem q_C_traceToEnd_18 {G : GG} {P : AH → Prop} {x2 : Int} {h : AH}
  (H : Go G (pV P) 29 10 [some (vR 18), some (vR 7), none, some (vI x2), some (vI 0)] [] (hs h 18 1 0)) :
  RunsV G 29 [vR 18, vR 7, vI x2] h P := runs_of (by decide) 2 rfl (go1 ok29 900 H)
set_option maxRecDepth 100000 in
theorem q_C_traceToEnd_18_c10 {G : GG} {P : AH → Prop} {x3 x4 : Int} {h : AH}
  (H : (((102 : Int) ≤ wI x4 →
    P h) ∧
    (¬ (102 : Int) ≤ wI x4 →
    RunsI G 110 [vR 7, vI x3] h (fun r1 h1 =>
    ((wI r1 = 0 →
      P h1) ∧
      (¬ wI r1 = 0 →
      RunsV G 25 [vR 18, vI x3] h1 (fun h2 =>
      RunsI G 111 [vR 7, vI x3] h2 (fun r3 h3 =>
      Go G (pV P) 29 10 [some (vR 18), some (vR 7), none, some (vI r3), some (vI (x4 + 1))] [] h3)))))))) :
  Go G (pV P) 29 10 [some (vR 18), some (vR 7), none, some (vI x3), some (vI x4)] [] h := go1 ok29 900 H
-- BitmapVolume$Chain.traceToEnd(LBitmapVolume$Space;I)V  [28, 7]
set_option maxRecDepth 100000 in
theorem q_C_traceToEnd_28 {G : GG} {P : AH → Prop} {x2 : Int} {h : AH}
  (H : Go G (pV P) 29 10 [some (vR 28), some (vR 7), none, some (vI x2), some (vI 0)] [] (hs h 28 1 0)) :
  RunsV G 29 [vR 28, vR 7, vI x2] h P := runs_of (by decide) 2 rfl (go1 ok29 900 H)
set_option maxRecDepth 100000 in
theorem q_C_traceToEnd_28_c10 {G : GG} {P : AH → Prop} {x3 x4 : Int} {h : AH}
  (H : (((102 : Int) ≤ wI x4 →
    P h) ∧
    (¬ (102 : Int) ≤ wI x4 →
    RunsI G 110 [vR 7, vI x3] h (fun r1 h1 =>
    ((wI r1 = 0 →
      P h1) ∧
      (¬ wI r1 = 0 →
      RunsV G 25 [vR 28, vI x3] h1 (fun h2 =>
      RunsI G 111 [vR 7, vI x3] h2 (fun r3 h3 =>
      Go G (pV P) 29 10 [some (vR 28), some (vR 7), none, some (vI r3), some (vI (x4 + 1))] [] h3)))))))) :
  Go G (pV P) 29 10 [some (vR 28), some (vR 7), none, some (vI x3), some (vI x4)] [] h := go1 ok29 900 H
-- BitmapVolume$Chain.hasTwice()Z  [20]
set_option maxRecDepth 100000 in
theorem q_C_hasTwice {G : GG} {P : Int → AH → Prop} {h : AH}
  (H : Go G (pI P) 30 2 [some (vR 20), some (vI 0), none] [] h) :
  RunsI G 30 [vR 20] h P := runs_of (by decide) 2 rfl (go1 ok30 900 H)
set_option maxRecDepth 100000 in
theorem q_C_hasTwice_c2 {G : GG} {P : Int → AH → Prop} {x1 : Int} {h : AH}
  (H : ((wI (h 20 1) ≤ wI x1 →
    (((0 : Int) = 0 ∨ (0 : Int) = 1) ∧ P 0 h)) ∧
    (¬ wI (h 20 1) ≤ wI x1 →
    Go G (pI P) 30 12 [some (vR 20), some (vI x1), some (vI 0)] [] h))) :
  Go G (pI P) 30 2 [some (vR 20), some (vI x1), none] [] h := go1 ok30 900 H
set_option maxRecDepth 100000 in
theorem q_C_hasTwice_c12 {G : GG} {P : Int → AH → Prop} {x1 x2 : Int} {h : AH}
  (H : ((wI x1 ≤ wI x2 →
    Go G (pI P) 30 2 [some (vR 20), some (vI (x1 + 1)), none] [] h) ∧
    (¬ wI x1 ≤ wI x2 →
    RunsI G 26 [vR 20, vI x1] h (fun r1 h1 =>
    RunsI G 26 [vR 20, vI x2] h1 (fun r2 h2 =>
    ((wI r1 = wI r2 →
      (((1 : Int) = 0 ∨ (1 : Int) = 1) ∧ P 1 h2)) ∧
      (¬ wI r1 = wI r2 →
      Go G (pI P) 30 12 [some (vR 20), some (vI x1), some (vI (x2 + 1))] [] h2))))))) :
  Go G (pI P) 30 12 [some (vR 20), some (vI x1), some (vI x2)] [] h := go1 ok30 900 H
-- BitmapVolume$Chain.places()I  [15]
set_option maxRecDepth 100000 in
theorem q_C_places_15 {G : GG} {P : Int → AH → Prop} {h : AH}
  (H : P (4 * (h 15 1)) h) :
  RunsI G 31 [vR 15] h P := runs_of (by decide) 0 rfl (go1 ok31 900 H)
-- BitmapVolume$Chain.places()I  [18]
set_option maxRecDepth 100000 in
theorem q_C_places_18 {G : GG} {P : Int → AH → Prop} {h : AH}
  (H : P (4 * (h 18 1)) h) :
  RunsI G 31 [vR 18] h P := runs_of (by decide) 0 rfl (go1 ok31 900 H)
-- BitmapVolume$Chain.places()I  [28]
set_option maxRecDepth 100000 in
theorem q_C_places_28 {G : GG} {P : Int → AH → Prop} {h : AH}
  (H : P (4 * (h 28 1)) h) :
  RunsI G 31 [vR 28] h P := runs_of (by decide) 0 rfl (go1 ok31 900 H)
-- BitmapVolume$Chain.entry(I)I  [15]
set_option maxRecDepth 100000 in
theorem q_C_entry_15 {G : GG} {P : Int → AH → Prop} {x1 : Int} {h : AH}
  (H : ((wI x1 < 0 →
    P (-1) h) ∧
    (¬ wI x1 < 0 →
    RunsI G 31 [vR 15] h (fun r1 h1 =>
    ((wI r1 ≤ wI x1 →
      P (-1) h1) ∧
      (¬ wI r1 ≤ wI x1 →
      ((4 : Int) ≠ 0 ∧ RunsI G 26 [vR 15, vI (Int.tdiv (wI x1) 4)] h1 (fun r2 h2 =>
      RunsI G 109 [vI r2] h2 (fun r3 h3 =>
      ((4 : Int) ≠ 0 ∧ P (r3 + (32 * (Int.tmod (wI x1) 4))) h3)))))))))) :
  RunsI G 32 [vR 15, vI x1] h P := runs_of (by decide) 0 rfl (go1 ok32 900 H)
-- BitmapVolume$Chain.entry(I)I  [18]
set_option maxRecDepth 100000 in
theorem q_C_entry_18 {G : GG} {P : Int → AH → Prop} {x1 : Int} {h : AH}
  (H : ((wI x1 < 0 →
    P (-1) h) ∧
    (¬ wI x1 < 0 →
    RunsI G 31 [vR 18] h (fun r1 h1 =>
    ((wI r1 ≤ wI x1 →
      P (-1) h1) ∧
      (¬ wI r1 ≤ wI x1 →
      ((4 : Int) ≠ 0 ∧ RunsI G 26 [vR 18, vI (Int.tdiv (wI x1) 4)] h1 (fun r2 h2 =>
      RunsI G 109 [vI r2] h2 (fun r3 h3 =>
      ((4 : Int) ≠ 0 ∧ P (r3 + (32 * (Int.tmod (wI x1) 4))) h3)))))))))) :
  RunsI G 32 [vR 18, vI x1] h P := runs_of (by decide) 0 rfl (go1 ok32 900 H)
-- BitmapVolume$Chain.entry(I)I  [28]
set_option maxRecDepth 100000 in
theorem q_C_entry_28 {G : GG} {P : Int → AH → Prop} {x1 : Int} {h : AH}
  (H : ((wI x1 < 0 →
    P (-1) h) ∧
    (¬ wI x1 < 0 →
    RunsI G 31 [vR 28] h (fun r1 h1 =>
    ((wI r1 ≤ wI x1 →
      P (-1) h1) ∧
      (¬ wI r1 ≤ wI x1 →
      ((4 : Int) ≠ 0 ∧ RunsI G 26 [vR 28, vI (Int.tdiv (wI x1) 4)] h1 (fun r2 h2 =>
      RunsI G 109 [vI r2] h2 (fun r3 h3 =>
      ((4 : Int) ≠ 0 ∧ P (r3 + (32 * (Int.tmod (wI x1) 4))) h3)))))))))) :
  RunsI G 32 [vR 28, vI x1] h P := runs_of (by decide) 0 rfl (go1 ok32 900 H)
-- BitmapVolume$Growth.begin(Z)V  [27]
set_option maxRecDepth 100000 in
theorem q_G_begin {G : GG} {P : AH → Prop} {x1 : Int} {h : AH}
  (H : ((x1 = 0 ∨ x1 = 1) ∧ ((x1 = 0 ∨ x1 = 1) ∧ P (hs (hs (hs h 27 4 x1) 27 5 x1) 30 1 0)))) :
  RunsV G 68 [vR 27, vI x1] h P := runs_of (by decide) 0 rfl (go1 ok68 900 H)
-- BitmapVolume$Growth.choose(I)Z  [27]
set_option maxRecDepth 100000 in
theorem q_G_choose {G : GG} {P : Int → AH → Prop} {x1 : Int} {h : AH}
  (H : ((wI (h 28 1) = 0 →
    RunsI G 118 [vR 7, vI x1] h (fun r1 h1 =>
    Go G (pI P) 69 22 [some (vR 27), some (vI x1), none, none] [vI r1] h1)) ∧
    (¬ wI (h 28 1) = 0 →
    Go G (pI P) 69 22 [some (vR 27), some (vI x1), none, none] [vI 0] h))) :
  RunsI G 69 [vR 27, vI x1] h P := runs_of (by decide) 2 rfl (go1 ok69 900 H)
set_option maxRecDepth 100000 in
theorem q_G_choose_c22 {G : GG} {P : Int → AH → Prop} {x1 s0 : Int} {h : AH}
  (H : ((wI (h 27 4) = 0 →
    Go G (pI P) 69 60 [some (vR 27), some (vI x1), some (vI s0), none] [] h) ∧
    (¬ wI (h 27 4) = 0 →
    RunsI G 27 [vR 28] h (fun r1 h1 =>
    RunsI G 117 [vR 7, vI (r1 + 1), vI x1] h1 (fun r2 h2 =>
    ((wI r2 = 0 →
      Go G (pI P) 69 60 [some (vR 27), some (vI x1), some (vI s0), none] [] h2) ∧
      (¬ wI r2 = 0 →
      RunsI G 27 [vR 28] h2 (fun r3 h3 =>
      Go G (pI P) 69 60 [some (vR 27), some (vI x1), some (vI (r3 + 1)), none] [] h3)))))))) :
  Go G (pI P) 69 22 [some (vR 27), some (vI x1), none, none] [vI s0] h := go1 ok69 900 H
set_option maxRecDepth 100000 in
theorem q_G_choose_c60 {G : GG} {P : Int → AH → Prop} {x1 x2 : Int} {h : AH}
  (H : ((wI x2 = 0 →
    (((0 : Int) = 0 ∨ (0 : Int) = 1) ∧ ((wI ((hs h 27 5 0) 27 5) = 0 →
      Go G (pI P) 69 107 [some (vR 27), some (vI x1), none, some (vI 2)] [] (hs h 27 5 0)) ∧
      (¬ wI ((hs h 27 5 0) 27 5) = 0 →
      Go G (pI P) 69 82 [some (vR 27), some (vI x1), some (vI x2), some (vI 0)] [] (hs h 27 5 0))))) ∧
    (¬ wI x2 = 0 →
    (((1 : Int) = 0 ∨ (1 : Int) = 1) ∧ ((wI ((hs h 27 5 1) 27 5) = 0 →
      Go G (pI P) 69 107 [some (vR 27), some (vI x1), none, some (vI 2)] [] (hs h 27 5 1)) ∧
      (¬ wI ((hs h 27 5 1) 27 5) = 0 →
      Go G (pI P) 69 82 [some (vR 27), some (vI x1), some (vI x2), some (vI 0)] [] (hs h 27 5 1))))))) :
  Go G (pI P) 69 60 [some (vR 27), some (vI x1), some (vI x2), none] [] h := go1 ok69 900 H
set_option maxRecDepth 100000 in
theorem q_G_choose_c82 {G : GG} {P : Int → AH → Prop} {x1 x2 x3 : Int} {h : AH}
  (H : ((wI x1 ≤ wI x3 →
    (((1 : Int) = 0 ∨ (1 : Int) = 1) ∧ P 1 h)) ∧
    (¬ wI x1 ≤ wI x3 →
    RunsV G 25 [vR 30, vI (x2 + x3)] h (fun h1 =>
    Go G (pI P) 69 82 [some (vR 27), some (vI x1), some (vI x2), some (vI (x3 + 1))] [] h1)))) :
  Go G (pI P) 69 82 [some (vR 27), some (vI x1), some (vI x2), some (vI x3)] [] h := go1 ok69 900 H
set_option maxRecDepth 100000 in
theorem q_G_choose_c107 {G : GG} {P : Int → AH → Prop} {x1 x3 : Int} {h : AH}
  (H : ((wI ((h 7 1) + 1) < wI x3 →
    ((wI (h 30 1) = wI x1 →
      (((1 : Int) = 0 ∨ (1 : Int) = 1) ∧ P 1 h)) ∧
      (¬ wI (h 30 1) = wI x1 →
      (((0 : Int) = 0 ∨ (0 : Int) = 1) ∧ P 0 h)))) ∧
    (¬ wI ((h 7 1) + 1) < wI x3 →
    ((wI x1 ≤ wI (h 30 1) →
      ((wI (h 30 1) = wI x1 →
        (((1 : Int) = 0 ∨ (1 : Int) = 1) ∧ P 1 h)) ∧
        (¬ wI (h 30 1) = wI x1 →
        (((0 : Int) = 0 ∨ (0 : Int) = 1) ∧ P 0 h)))) ∧
      (¬ wI x1 ≤ wI (h 30 1) →
      RunsI G 115 [vR 7, vI x3] h (fun r1 h1 =>
      ((wI r1 = 0 →
        Go G (pI P) 69 107 [some (vR 27), some (vI x1), none, some (vI (x3 + 1))] [] h1) ∧
        (¬ wI r1 = 0 →
        RunsV G 25 [vR 30, vI x3] h1 (fun h2 =>
        Go G (pI P) 69 107 [some (vR 27), some (vI x1), none, some (vI (x3 + 1))] [] h2))))))))) :
  Go G (pI P) 69 107 [some (vR 27), some (vI x1), none, some (vI x3)] [] h := go1 ok69 900 H
-- BitmapVolume$Growth.at(I)I  [27]
set_option maxRecDepth 100000 in
theorem q_G_at {G : GG} {P : Int → AH → Prop} {x1 : Int} {h : AH}
  (H : ((wI (h 28 1) ≤ wI x1 →
    RunsI G 26 [vR 30, vI (x1 - (h 28 1))] h (fun r1 h1 =>
    P r1 h1)) ∧
    (¬ wI (h 28 1) ≤ wI x1 →
    RunsI G 26 [vR 28, vI x1] h (fun r2 h2 =>
    P r2 h2)))) :
  RunsI G 70 [vR 27, vI x1] h P := runs_of (by decide) 0 rfl (go1 ok70 900 H)
-- BitmapVolume$Growth.take()Z  [27]
set_option maxRecDepth 100000 in
theorem q_G_take {G : GG} {P : Int → AH → Prop} {h : AH}
  (H : ((wI (h 27 5) = 0 →
    RunsV G 72 [vR 27] h (fun h1 =>
    Go G (pI P) 71 11 [some (vR 27), none] [] h1)) ∧
    (¬ wI (h 27 5) = 0 →
    Go G (pI P) 71 11 [some (vR 27), none] [] h))) :
  RunsI G 71 [vR 27] h P := runs_of (by decide) 1 rfl (go1 ok71 900 H)
set_option maxRecDepth 100000 in
theorem q_G_take_c11 {G : GG} {P : Int → AH → Prop} {h : AH}
  (H : RunsI G 64 [vR 1] h (fun r1 h1 =>
  ((wI r1 = 0 →
    (((0 : Int) = 0 ∨ (0 : Int) = 1) ∧ P 0 h1)) ∧
    (¬ wI r1 = 0 →
    ((wI (h1 27 5) = 0 →
      ((wI (h1 28 1) ≤ 0 →
        RunsI G 64 [vR 1] h1 (fun r3 h3 =>
        ((wI r3 = 0 →
          (((0 : Int) = 0 ∨ (0 : Int) = 1) ∧ P 0 h3)) ∧
          (¬ wI r3 = 0 →
          Go G (pI P) 71 86 [some (vR 27), some (vI 0)] [] h3)))) ∧
        (¬ wI (h1 28 1) ≤ 0 →
        ((wI (h1 30 1) ≤ 0 →
          RunsI G 64 [vR 1] h1 (fun r4 h4 =>
          ((wI r4 = 0 →
            (((0 : Int) = 0 ∨ (0 : Int) = 1) ∧ P 0 h4)) ∧
            (¬ wI r4 = 0 →
            Go G (pI P) 71 86 [some (vR 27), some (vI 0)] [] h4)))) ∧
          (¬ wI (h1 30 1) ≤ 0 →
          RunsI G 27 [vR 28] h1 (fun r5 h5 =>
          RunsI G 26 [vR 30, vI 0] h5 (fun r6 h6 =>
          RunsV G 112 [vR 7, vI r5, vI r6] h6 (fun h7 =>
          RunsI G 64 [vR 1] h7 (fun r8 h8 =>
          ((wI r8 = 0 →
            (((0 : Int) = 0 ∨ (0 : Int) = 1) ∧ P 0 h8)) ∧
            (¬ wI r8 = 0 →
            Go G (pI P) 71 86 [some (vR 27), some (vI 0)] [] h8))))))))))) ∧
      (¬ wI (h1 27 5) = 0 →
      RunsI G 64 [vR 1] h1 (fun r2 h2 =>
      ((wI r2 = 0 →
        (((0 : Int) = 0 ∨ (0 : Int) = 1) ∧ P 0 h2)) ∧
        (¬ wI r2 = 0 →
        Go G (pI P) 71 86 [some (vR 27), some (vI 0)] [] h2))))))))) :
  Go G (pI P) 71 11 [some (vR 27), none] [] h := go1 ok71 900 H
set_option maxRecDepth 100000 in
theorem q_G_take_c86 {G : GG} {P : Int → AH → Prop} {x1 : Int} {h : AH}
  (H : ((wI (h 30 1) ≤ wI x1 →
    RunsV G 114 [vR 7, vI (h 7 4), vI 1] h (fun h1 =>
    RunsI G 64 [vR 1] h1 (fun r2 h2 =>
    ((r2 = 0 ∨ r2 = 1) ∧ P r2 h2)))) ∧
    (¬ wI (h 30 1) ≤ wI x1 →
    RunsI G 26 [vR 30, vI x1] h (fun r3 h3 =>
    RunsV G 114 [vR 7, vI r3, vI 1] h3 (fun h4 =>
    Go G (pI P) 71 86 [some (vR 27), some (vI (x1 + 1))] [] h4))))) :
  Go G (pI P) 71 86 [some (vR 27), some (vI x1)] [] h := go1 ok71 900 H
-- BitmapVolume$Growth.layFat()V  [27]
set_option maxRecDepth 100000 in
theorem q_G_layFat {G : GG} {P : AH → Prop} {h : AH}
  (H : ((wI (h 27 4) = 0 →
    Go G (pV P) 72 55 [some (vR 27), some (vI 0)] [] h) ∧
    (¬ wI (h 27 4) = 0 →
    Go G (pV P) 72 9 [some (vR 27), some (vI 0)] [] h))) :
  RunsV G 72 [vR 27] h P := runs_of (by decide) 1 rfl (go1 ok72 900 H)
set_option maxRecDepth 100000 in
theorem q_G_layFat_c9 {G : GG} {P : AH → Prop} {x1 : Int} {h : AH}
  (H : ((wI (h 28 1) ≤ wI (x1 + 1) →
    Go G (pV P) 72 55 [some (vR 27), some (vI 0)] [] h) ∧
    (¬ wI (h 28 1) ≤ wI (x1 + 1) →
    RunsI G 26 [vR 28, vI x1] h (fun r1 h1 =>
    RunsI G 26 [vR 28, vI (x1 + 1)] h1 (fun r2 h2 =>
    RunsV G 112 [vR 7, vI r1, vI r2] h2 (fun h3 =>
    Go G (pV P) 72 9 [some (vR 27), some (vI (x1 + 1))] [] h3)))))) :
  Go G (pV P) 72 9 [some (vR 27), some (vI x1)] [] h := go1 ok72 900 H
set_option maxRecDepth 100000 in
theorem q_G_layFat_c55 {G : GG} {P : AH → Prop} {x1 : Int} {h : AH}
  (H : ((wI (h 30 1) ≤ wI x1 →
    P h) ∧
    (¬ wI (h 30 1) ≤ wI x1 →
    RunsI G 26 [vR 30, vI x1] h (fun r1 h1 =>
    ((wI (h1 30 1) ≤ wI (x1 + 1) →
      RunsV G 112 [vR 7, vI r1, vI (-1)] h1 (fun h2 =>
      Go G (pV P) 72 55 [some (vR 27), some (vI (x1 + 1))] [] h2)) ∧
      (¬ wI (h1 30 1) ≤ wI (x1 + 1) →
      RunsI G 26 [vR 30, vI (x1 + 1)] h1 (fun r3 h3 =>
      RunsV G 112 [vR 7, vI r1, vI r3] h3 (fun h4 =>
      Go G (pV P) 72 55 [some (vR 27), some (vI (x1 + 1))] [] h4)))))))) :
  Go G (pV P) 72 55 [some (vR 27), some (vI x1)] [] h := go1 ok72 900 H
-- BitmapVolume$Growth.free(I)Z  [27]
set_option maxRecDepth 100000 in
theorem q_G_free {G : GG} {P : Int → AH → Prop} {x1 : Int} {h : AH}
  (H : ((wI (h 27 4) = 0 →
    ((wI (h 28 1) ≤ wI x1 →
      RunsI G 64 [vR 1] h (fun r2 h2 =>
      ((wI r2 = 0 →
        (((0 : Int) = 0 ∨ (0 : Int) = 1) ∧ P 0 h2)) ∧
        (¬ wI r2 = 0 →
        Go G (pI P) 73 85 [some (vR 27), none, some (vI x1)] [] h2)))) ∧
      (¬ wI (h 28 1) ≤ wI x1 →
      RunsI G 26 [vR 28, vI (x1 - 1)] h (fun r3 h3 =>
      RunsV G 112 [vR 7, vI r3, vI (-1)] h3 (fun h4 =>
      Go G (pI P) 73 38 [some (vR 27), some (vI x1), some (vI x1)] [] h4))))) ∧
    (¬ wI (h 27 4) = 0 →
    RunsI G 64 [vR 1] h (fun r1 h1 =>
    ((wI r1 = 0 →
      (((0 : Int) = 0 ∨ (0 : Int) = 1) ∧ P 0 h1)) ∧
      (¬ wI r1 = 0 →
      Go G (pI P) 73 85 [some (vR 27), none, some (vI x1)] [] h1)))))) :
  RunsI G 73 [vR 27, vI x1] h P := runs_of (by decide) 1 rfl (go1 ok73 900 H)
set_option maxRecDepth 100000 in
theorem q_G_free_c38 {G : GG} {P : Int → AH → Prop} {x1 x2 : Int} {h : AH}
  (H : ((wI (h 28 1) ≤ wI x2 →
    RunsI G 64 [vR 1] h (fun r1 h1 =>
    ((wI r1 = 0 →
      (((0 : Int) = 0 ∨ (0 : Int) = 1) ∧ P 0 h1)) ∧
      (¬ wI r1 = 0 →
      Go G (pI P) 73 85 [some (vR 27), none, some (vI x1)] [] h1)))) ∧
    (¬ wI (h 28 1) ≤ wI x2 →
    RunsI G 26 [vR 28, vI x2] h (fun r2 h2 =>
    RunsV G 112 [vR 7, vI r2, vI 0] h2 (fun h3 =>
    Go G (pI P) 73 38 [some (vR 27), some (vI x1), some (vI (x2 + 1))] [] h3))))) :
  Go G (pI P) 73 38 [some (vR 27), some (vI x1), some (vI x2)] [] h := go1 ok73 900 H
set_option maxRecDepth 100000 in
theorem q_G_free_c85 {G : GG} {P : Int → AH → Prop} {x2 : Int} {h : AH}
  (H : ((wI (h 28 1) ≤ wI x2 →
    RunsI G 64 [vR 1] h (fun r1 h1 =>
    ((r1 = 0 ∨ r1 = 1) ∧ P r1 h1))) ∧
    (¬ wI (h 28 1) ≤ wI x2 →
    RunsI G 26 [vR 28, vI x2] h (fun r2 h2 =>
    RunsV G 114 [vR 7, vI r2, vI 0] h2 (fun h3 =>
    Go G (pI P) 73 85 [some (vR 27), none, some (vI (x2 + 1))] [] h3))))) :
  Go G (pI P) 73 85 [some (vR 27), none, some (vI x2)] [] h := go1 ok73 900 H
-- BitmapVolume$Cases.learn(II)Z  [8]
set_option maxRecDepth 100000 in
theorem q_K_learn {G : GG} {P : Int → AH → Prop} {x1 x2 : Int} {h : AH}
  (H : Go G (pI P) 18 2 [some (vR 8), some (vI x1), some (vI x2), some (vI 0), none, none] [] h) :
  RunsI G 18 [vR 8, vI x1, vI x2] h P := runs_of (by decide) 3 rfl (go1 ok18 900 H)
set_option maxRecDepth 100000 in
theorem q_K_learn_c2 {G : GG} {P : Int → AH → Prop} {x1 x2 x3 : Int} {h : AH}
  (H : (((256 : Int) ≤ wI x3 →
    Go G (pI P) 18 29 [some (vR 8), some (vI x1), some (vI x2), some (vI 0), some (vI 0), none] [] h) ∧
    (¬ (256 : Int) ≤ wI x3 →
    ((0 ≤ wI x3 ∧ wI x3 < 256) ∧
    Go G (pI P) 18 2 [some (vR 8), some (vI x1), some (vI x2), some (vI (x3 + 1)), none, none] [] (hs h 9 (wI x3).toNat x3))))) :
  Go G (pI P) 18 2 [some (vR 8), some (vI x1), some (vI x2), some (vI x3), none, none] [] h := go1 ok18 900 H
set_option maxRecDepth 100000 in
theorem q_K_learn_c29 {G : GG} {P : Int → AH → Prop} {x1 x2 x3 x4 : Int} {h : AH}
  (H : ((wI x2 ≤ wI x4 →
    Go G (pI P) 18 133 [some (vR 8), none, none, none, some (vI 0), none] [] h) ∧
    (¬ wI x2 ≤ wI x4 →
    RunsI G 55 [vR 1, vI (x1 + x4)] h (fun r1 h1 =>
    ((wI r1 = (65535 : Int) →
      ((wI (x4 + 2) < wI x2 →
        RunsI G 55 [vR 1, vI (x1 + (x4 + 2))] h1 (fun r2 h2 =>
        ((wI (x3 + r2) ≤ (256 : Int) →
          Go G (pI P) 18 29 [some (vR 8), some (vI x1), some (vI x2), some (vI (x3 + r2)), some (vI ((x4 + 2) + 2)), none] [] h2) ∧
          (¬ wI (x3 + r2) ≤ (256 : Int) →
          (((0 : Int) = 0 ∨ (0 : Int) = 1) ∧ P 0 h2))))) ∧
        (¬ wI (x4 + 2) < wI x2 →
        (((0 : Int) = 0 ∨ (0 : Int) = 1) ∧ P 0 h1)))) ∧
      (¬ wI r1 = (65535 : Int) →
      (((255 : Int) < wI r1 →
        (((0 : Int) = 0 ∨ (0 : Int) = 1) ∧ P 0 h1)) ∧
        (¬ (255 : Int) < wI r1 →
        ((wI x3 < (256 : Int) →
          ((0 ≤ wI x3 ∧ wI x3 < 256) ∧
          ((wI (x3 + 1) ≤ (256 : Int) →
            Go G (pI P) 18 29 [some (vR 8), some (vI x1), some (vI x2), some (vI (x3 + 1)), some (vI (x4 + 2)), none] [] (hs h1 9 (wI x3).toNat r1)) ∧
            (¬ wI (x3 + 1) ≤ (256 : Int) →
            (((0 : Int) = 0 ∨ (0 : Int) = 1) ∧ P 0 (hs h1 9 (wI x3).toNat r1)))))) ∧
          (¬ wI x3 < (256 : Int) →
          (((0 : Int) = 0 ∨ (0 : Int) = 1) ∧ P 0 h1))))))))))) :
  Go G (pI P) 18 29 [some (vR 8), some (vI x1), some (vI x2), some (vI x3), some (vI x4), none] [] h := go1 ok18 900 H
set_option maxRecDepth 100000 in
theorem q_K_learn_c133 {G : GG} {P : Int → AH → Prop} {x4 : Int} {h : AH}
  (H : (((256 : Int) ≤ wI x4 →
    (((1 : Int) = 0 ∨ (1 : Int) = 1) ∧ P 1 h)) ∧
    (¬ (256 : Int) ≤ wI x4 →
    ((0 ≤ wI x4 ∧ wI x4 < 256) ∧
    RunsI G 19 [vR 8, vI (h 9 (wI x4).toNat)] h (fun r1 h1 =>
    ((0 ≤ wI x4 ∧ wI x4 < 256) ∧
    ((wI r1 = wI (h1 9 (wI x4).toNat) →
      Go G (pI P) 18 133 [some (vR 8), none, none, none, some (vI (x4 + 1)), none] [] h1) ∧
      (¬ wI r1 = wI (h1 9 (wI x4).toNat) →
      (((0 : Int) = 0 ∨ (0 : Int) = 1) ∧ P 0 h1))))))))) :
  Go G (pI P) 18 133 [some (vR 8), none, none, none, some (vI x4), none] [] h := go1 ok18 900 H
-- BitmapVolume$Cases.greatOf(I)I  [8]
set_option maxRecDepth 100000 in
theorem q_K_greatOf {G : GG} {P : Int → AH → Prop} {x1 : Int} {h : AH}
  (H : ((wI x1 < 0 →
    P x1 h) ∧
    (¬ wI x1 < 0 →
    (((256 : Int) ≤ wI x1 →
      P x1 h) ∧
      (¬ (256 : Int) ≤ wI x1 →
      ((0 ≤ wI x1 ∧ wI x1 < 256) ∧
      P (h 9 (wI x1).toNat) h)))))) :
  RunsI G 19 [vR 8, vI x1] h P := runs_of (by decide) 0 rfl (go1 ok19 900 H)
-- BitmapVolume$Cases.hash(LBitmapVolume$Name;)I  [8, 22]
set_option maxRecDepth 100000 in
theorem q_K_hash_22 {G : GG} {P : Int → AH → Prop} {h : AH}
  (H : Go G (pI P) 20 4 [some (vR 8), some (vR 22), some (vI 0), some (vI 0), none] [] h) :
  RunsI G 20 [vR 8, vR 22] h P := runs_of (by decide) 3 rfl (go1 ok20 900 H)
set_option maxRecDepth 100000 in
theorem q_K_hash_22_c4 {G : GG} {P : Int → AH → Prop} {x2 x3 : Int} {h : AH}
  (H : ((wI (h 22 1) ≤ wI x3 →
    P x2 h) ∧
    (¬ wI (h 22 1) ≤ wI x3 →
    RunsI G 74 [vR 22, vI x3] h (fun r1 h1 =>
    RunsI G 19 [vR 8, vI r1] h1 (fun r2 h2 =>
    RunsI G 80 [vI x2, vI (bA r2 255)] h2 (fun r3 h3 =>
    RunsI G 80 [vI r3, vI (sUI r2 8)] h3 (fun r4 h4 =>
    Go G (pI P) 20 4 [some (vR 8), some (vR 22), some (vI r4), some (vI (x3 + 1)), none] [] h4))))))) :
  Go G (pI P) 20 4 [some (vR 8), some (vR 22), some (vI x2), some (vI x3), none] [] h := go1 ok20 900 H
-- BitmapVolume$Cases.hash(LBitmapVolume$Name;)I  [8, 32]
set_option maxRecDepth 100000 in
theorem q_K_hash_32 {G : GG} {P : Int → AH → Prop} {h : AH}
  (H : Go G (pI P) 20 4 [some (vR 8), some (vR 32), some (vI 0), some (vI 0), none] [] h) :
  RunsI G 20 [vR 8, vR 32] h P := runs_of (by decide) 3 rfl (go1 ok20 900 H)
set_option maxRecDepth 100000 in
theorem q_K_hash_32_c4 {G : GG} {P : Int → AH → Prop} {x2 x3 : Int} {h : AH}
  (H : ((wI (h 32 1) ≤ wI x3 →
    P x2 h) ∧
    (¬ wI (h 32 1) ≤ wI x3 →
    RunsI G 74 [vR 32, vI x3] h (fun r1 h1 =>
    RunsI G 19 [vR 8, vI r1] h1 (fun r2 h2 =>
    RunsI G 80 [vI x2, vI (bA r2 255)] h2 (fun r3 h3 =>
    RunsI G 80 [vI r3, vI (sUI r2 8)] h3 (fun r4 h4 =>
    Go G (pI P) 20 4 [some (vR 8), some (vR 32), some (vI r4), some (vI (x3 + 1)), none] [] h4))))))) :
  Go G (pI P) 20 4 [some (vR 8), some (vR 32), some (vI x2), some (vI x3), none] [] h := go1 ok20 900 H
-- BitmapVolume$Cases.sum(LBitmapVolume$Disk;II)I  [1]
set_option maxRecDepth 100000 in
theorem q_K_sum {G : GG} {P : Int → AH → Prop} {x1 x2 : Int} {h : AH}
  (H : Go G (pI P) 21 5 [some (vR 1), some (vI x1), some (vI x2), some (vI 0), some (vI 0)] [] h) :
  RunsI G 21 [vR 1, vI x1, vI x2] h P := runs_of (by decide) 2 rfl (go1 ok21 900 H)
set_option maxRecDepth 100000 in
theorem q_K_sum_c5 {G : GG} {P : Int → AH → Prop} {x1 x2 x3 x4 : Int} {h : AH}
  (H : ((wI x2 ≤ wI x4 →
    P x3 h) ∧
    (¬ wI x2 ≤ wI x4 →
    RunsI G 54 [vR 1, vI (x1 + x4)] h (fun r1 h1 =>
    Go G (pI P) 21 5 [some (vR 1), some (vI x1), some (vI x2), some (vI ((bO (sUI x3 1) (sLI x3 31)) + r1)), some (vI (x4 + 1))] [] h1)))) :
  Go G (pI P) 21 5 [some (vR 1), some (vI x1), some (vI x2), some (vI x3), some (vI x4)] [] h := go1 ok21 900 H
-- BitmapVolume$Cases.layUsual(LBitmapVolume$Disk;I)I  [1]
set_option maxRecDepth 100000 in
theorem q_K_layUsual {G : GG} {P : Int → AH → Prop} {x1 : Int} {h : AH}
  (H : RunsI G 23 [vR 1, vI x1, vI 97] h (fun r1 h1 =>
  RunsI G 24 [vR 1, vI r1, vI 97, vI 122] h1 (fun r2 h2 =>
  RunsI G 23 [vR 1, vI r2, vI 101] h2 (fun r3 h3 =>
  RunsI G 24 [vR 1, vI r3, vI 224, vI 246] h3 (fun r4 h4 =>
  RunsI G 23 [vR 1, vI r4, vI 1] h4 (fun r5 h5 =>
  RunsI G 24 [vR 1, vI r5, vI 248, vI 254] h5 (fun r6 h6 =>
  RunsI G 23 [vR 1, vI r6, vI 1] h6 (fun r7 h7 =>
  P (r7 - x1) h7)))))))) :
  RunsI G 22 [vR 1, vI x1] h P := runs_of (by decide) 1 rfl (go1 ok22 900 H)
-- BitmapVolume$Cases.layOwn(LBitmapVolume$Disk;II)I  [1]
set_option maxRecDepth 100000 in
theorem q_K_layOwn {G : GG} {P : Int → AH → Prop} {x1 x2 : Int} {h : AH}
  (H : RunsV G 58 [vR 1, vI x1, vI 65535] h (fun h1 =>
  RunsV G 58 [vR 1, vI (x1 + 2), vI x2] h1 (fun h2 =>
  P (x1 + 4) h2))) :
  RunsI G 23 [vR 1, vI x1, vI x2] h P := runs_of (by decide) 0 rfl (go1 ok23 900 H)
-- BitmapVolume$Cases.layGreat(LBitmapVolume$Disk;III)I  [1]
set_option maxRecDepth 100000 in
theorem q_K_layGreat {G : GG} {P : Int → AH → Prop} {x1 x2 x3 : Int} {h : AH}
  (H : Go G (pI P) 24 3 [some (vR 1), some (vI x1), some (vI x2), some (vI x3), some (vI x2)] [] h) :
  RunsI G 24 [vR 1, vI x1, vI x2, vI x3] h P := runs_of (by decide) 1 rfl (go1 ok24 900 H)
set_option maxRecDepth 100000 in
theorem q_K_layGreat_c3 {G : GG} {P : Int → AH → Prop} {x1 x2 x3 x4 : Int} {h : AH}
  (H : ((wI x3 < wI x4 →
    P (x1 + (2 * ((x3 - x2) + 1))) h) ∧
    (¬ wI x3 < wI x4 →
    RunsV G 58 [vR 1, vI (x1 + (2 * (x4 - x2))), vI (x4 - 32)] h (fun h1 =>
    Go G (pI P) 24 3 [some (vR 1), some (vI x1), some (vI x2), some (vI x3), some (vI (x4 + 1))] [] h1)))) :
  Go G (pI P) 24 3 [some (vR 1), some (vI x1), some (vI x2), some (vI x3), some (vI x4)] [] h := go1 ok24 900 H
-- BitmapVolume$Sets.roll(II)I  []
set_option maxRecDepth 100000 in
theorem q_E_roll {G : GG} {P : Int → AH → Prop} {x0 x1 : Int} {h : AH}
  (H : P (bA (((sLI (bA x0 1) 15) + (sRI x0 1)) + x1) 65535) h) :
  RunsI G 80 [vI x0, vI x1] h P := runs_of (by decide) 0 rfl (go1 ok80 900 H)
-- BitmapVolume$Sets.entries(I)I  [10]
set_option maxRecDepth 100000 in
theorem q_E_entries {G : GG} {P : Int → AH → Prop} {x1 : Int} {h : AH}
  (H : RunsI G 54 [vR 1, vI (x1 + 1)] h (fun r1 h1 =>
  P (1 + r1) h1)) :
  RunsI G 81 [vR 10, vI x1] h P := runs_of (by decide) 0 rfl (go1 ok81 900 H)
-- BitmapVolume$Sets.attributes(I)I  [10]
set_option maxRecDepth 100000 in
theorem q_E_attributes {G : GG} {P : Int → AH → Prop} {x1 : Int} {h : AH}
  (H : RunsI G 55 [vR 1, vI (x1 + 4)] h (fun r1 h1 =>
  P r1 h1)) :
  RunsI G 82 [vR 10, vI x1] h P := runs_of (by decide) 0 rfl (go1 ok82 900 H)
-- BitmapVolume$Sets.isDirectory(I)Z  [10]
set_option maxRecDepth 100000 in
theorem q_E_isDirectory {G : GG} {P : Int → AH → Prop} {x1 : Int} {h : AH}
  (H : RunsI G 55 [vR 1, vI (x1 + 4)] h (fun r1 h1 =>
  ((wI (bA r1 16) = 0 →
    (((0 : Int) = 0 ∨ (0 : Int) = 1) ∧ P 0 h1)) ∧
    (¬ wI (bA r1 16) = 0 →
    (((1 : Int) = 0 ∨ (1 : Int) = 1) ∧ P 1 h1))))) :
  RunsI G 83 [vR 10, vI x1] h P := runs_of (by decide) 0 rfl (go1 ok83 900 H)
-- BitmapVolume$Sets.isReadOnly(I)Z  [10]
set_option maxRecDepth 100000 in
theorem q_E_isReadOnly {G : GG} {P : Int → AH → Prop} {x1 : Int} {h : AH}
  (H : RunsI G 55 [vR 1, vI (x1 + 4)] h (fun r1 h1 =>
  ((wI (bA r1 1) = 0 →
    (((0 : Int) = 0 ∨ (0 : Int) = 1) ∧ P 0 h1)) ∧
    (¬ wI (bA r1 1) = 0 →
    (((1 : Int) = 0 ∨ (1 : Int) = 1) ∧ P 1 h1))))) :
  RunsI G 84 [vR 10, vI x1] h P := runs_of (by decide) 0 rfl (go1 ok84 900 H)
-- BitmapVolume$Sets.isRun(I)Z  [10]
set_option maxRecDepth 100000 in
theorem q_E_isRun {G : GG} {P : Int → AH → Prop} {x1 : Int} {h : AH}
  (H : RunsI G 54 [vR 1, vI (x1 + 33)] h (fun r1 h1 =>
  ((wI r1 = (3 : Int) →
    (((1 : Int) = 0 ∨ (1 : Int) = 1) ∧ P 1 h1)) ∧
    (¬ wI r1 = (3 : Int) →
    (((0 : Int) = 0 ∨ (0 : Int) = 1) ∧ P 0 h1))))) :
  RunsI G 85 [vR 10, vI x1] h P := runs_of (by decide) 0 rfl (go1 ok85 900 H)
-- BitmapVolume$Sets.nameSize(I)I  [10]
set_option maxRecDepth 100000 in
theorem q_E_nameSize {G : GG} {P : Int → AH → Prop} {x1 : Int} {h : AH}
  (H : RunsI G 54 [vR 1, vI (x1 + 35)] h (fun r1 h1 =>
  P r1 h1)) :
  RunsI G 86 [vR 10, vI x1] h P := runs_of (by decide) 0 rfl (go1 ok86 900 H)
-- BitmapVolume$Sets.first(I)I  [10]
set_option maxRecDepth 100000 in
theorem q_E_first {G : GG} {P : Int → AH → Prop} {x1 : Int} {h : AH}
  (H : RunsI G 56 [vR 1, vI (x1 + 52)] h (fun r1 h1 =>
  P r1 h1)) :
  RunsI G 87 [vR 10, vI x1] h P := runs_of (by decide) 0 rfl (go1 ok87 900 H)
-- BitmapVolume$Sets.length(I)I  [10]
set_option maxRecDepth 100000 in
theorem q_E_length {G : GG} {P : Int → AH → Prop} {x1 : Int} {h : AH}
  (H : RunsI G 56 [vR 1, vI (x1 + 56)] h (fun r1 h1 =>
  P r1 h1)) :
  RunsI G 88 [vR 10, vI x1] h P := runs_of (by decide) 0 rfl (go1 ok88 900 H)
-- BitmapVolume$Sets.clusters(I)I  [10]
set_option maxRecDepth 100000 in
theorem q_E_clusters {G : GG} {P : Int → AH → Prop} {x1 : Int} {h : AH}
  (H : RunsI G 88 [vR 10, vI x1] h (fun r1 h1 =>
  ((128 : Int) ≠ 0 ∧ P (Int.tdiv (wI ((r1 + 128) - 1)) 128) h1))) :
  RunsI G 89 [vR 10, vI x1] h P := runs_of (by decide) 0 rfl (go1 ok89 900 H)
-- BitmapVolume$Sets.letterAt(II)I  [10]
set_option maxRecDepth 100000 in
theorem q_E_letterAt {G : GG} {P : Int → AH → Prop} {x1 x2 : Int} {h : AH}
  (H : RunsI G 91 [vI x1, vI x2] h (fun r1 h1 =>
  RunsI G 55 [vR 1, vI r1] h1 (fun r2 h2 =>
  P r2 h2))) :
  RunsI G 90 [vR 10, vI x1, vI x2] h P := runs_of (by decide) 0 rfl (go1 ok90 900 H)
-- BitmapVolume$Sets.letterAddress(II)I  []
set_option maxRecDepth 100000 in
theorem q_E_letterAddress {G : GG} {P : Int → AH → Prop} {x0 x1 : Int} {h : AH}
  (H : (((15 : Int) ≤ wI x1 →
    P ((x0 + (2 * x1)) + 4) h) ∧
    (¬ (15 : Int) ≤ wI x1 →
    P ((x0 + (2 * x1)) + 2) h))) :
  RunsI G 91 [vI x0, vI x1] h P := runs_of (by decide) 0 rfl (go1 ok91 900 H)
-- BitmapVolume$Sets.tells(II)I  [10]
set_option maxRecDepth 100000 in
theorem q_E_tells {G : GG} {P : Int → AH → Prop} {x1 x2 : Int} {h : AH}
  (H : ((wI x2 = 0 → RunsI G 82 [vR 10, vI x1] h (fun r9 h9 =>
    P r9 h9)) ∧
    (¬ wI x2 = 0 → ((wI x2 = 1 → RunsI G 88 [vR 10, vI x1] h (fun r8 h8 =>
    P r8 h8)) ∧
    (¬ wI x2 = 1 → ((wI x2 = 2 → RunsI G 87 [vR 10, vI x1] h (fun r7 h7 =>
    P r7 h7)) ∧
    (¬ wI x2 = 2 → ((wI x2 = 3 → RunsI G 85 [vR 10, vI x1] h (fun r6 h6 =>
    ((wI r6 = 0 →
      P 0 h6) ∧
      (¬ wI r6 = 0 →
      P 1 h6)))) ∧
    (¬ wI x2 = 3 → ((wI x2 = 4 → RunsI G 86 [vR 10, vI x1] h (fun r5 h5 =>
    P r5 h5)) ∧
    (¬ wI x2 = 4 → ((wI x2 = 5 → RunsI G 55 [vR 1, vI (x1 + 36)] h (fun r4 h4 =>
    P r4 h4)) ∧
    (¬ wI x2 = 5 → ((wI x2 = 6 → RunsI G 55 [vR 1, vI (x1 + 2)] h (fun r3 h3 =>
    P r3 h3)) ∧
    (¬ wI x2 = 6 → ((wI x2 = 7 → RunsI G 56 [vR 1, vI (x1 + 8)] h (fun r2 h2 =>
    P r2 h2)) ∧
    (¬ wI x2 = 7 → RunsI G 56 [vR 1, vI (x1 + 12)] h (fun r1 h1 =>
    P r1 h1)))))))))))))))))) :
  RunsI G 92 [vR 10, vI x1, vI x2] h P := runs_of (by decide) 0 rfl (go1 ok92 900 H)
-- BitmapVolume$Sets.sum(II)I  [10]
set_option maxRecDepth 100000 in
theorem q_E_sum {G : GG} {P : Int → AH → Prop} {x1 x2 : Int} {h : AH}
  (H : Go G (pI P) 93 5 [some (vR 10), some (vI x1), some (vI x2), some (vI 0), some (vI 0)] [] h) :
  RunsI G 93 [vR 10, vI x1, vI x2] h P := runs_of (by decide) 2 rfl (go1 ok93 900 H)
set_option maxRecDepth 100000 in
theorem q_E_sum_c5 {G : GG} {P : Int → AH → Prop} {x1 x2 x3 x4 : Int} {h : AH}
  (H : (((64 : Int) ≤ wI x4 →
    Go G (pI P) 93 49 [some (vR 10), some (vI x1), some (vI x2), some (vI x3), some (vI 0)] [] h) ∧
    (¬ (64 : Int) ≤ wI x4 →
    ((wI x4 = (2 : Int) →
      Go G (pI P) 93 5 [some (vR 10), some (vI x1), some (vI x2), some (vI x3), some (vI (x4 + 1))] [] h) ∧
      (¬ wI x4 = (2 : Int) →
      ((wI x4 = (3 : Int) →
        Go G (pI P) 93 5 [some (vR 10), some (vI x1), some (vI x2), some (vI x3), some (vI (x4 + 1))] [] h) ∧
        (¬ wI x4 = (3 : Int) →
        RunsI G 54 [vR 1, vI (x1 + x4)] h (fun r1 h1 =>
        RunsI G 80 [vI x3, vI r1] h1 (fun r2 h2 =>
        Go G (pI P) 93 5 [some (vR 10), some (vI x1), some (vI x2), some (vI r2), some (vI (x4 + 1))] [] h2))))))))) :
  Go G (pI P) 93 5 [some (vR 10), some (vI x1), some (vI x2), some (vI x3), some (vI x4)] [] h := go1 ok93 900 H
set_option maxRecDepth 100000 in
theorem q_E_sum_c49 {G : GG} {P : Int → AH → Prop} {x1 x2 x3 x4 : Int} {h : AH}
  (H : RunsI G 81 [vR 10, vI x1] h (fun r1 h1 =>
  ((wI (32 * (r1 - 2)) ≤ wI x4 →
    P x3 h1) ∧
    (¬ wI (32 * (r1 - 2)) ≤ wI x4 →
    RunsI G 54 [vR 1, vI (x2 + x4)] h1 (fun r2 h2 =>
    RunsI G 80 [vI x3, vI r2] h2 (fun r3 h3 =>
    Go G (pI P) 93 49 [some (vR 10), some (vI x1), some (vI x2), some (vI r3), some (vI (x4 + 1))] [] h3)))))) :
  Go G (pI P) 93 49 [some (vR 10), some (vI x1), some (vI x2), some (vI x3), some (vI x4)] [] h := go1 ok93 900 H
-- BitmapVolume$Sets.readName(LBitmapVolume$Name;II)V  [10, 22]
set_option maxRecDepth 100000 in
theorem q_E_readName {G : GG} {P : AH → Prop} {x2 x3 : Int} {h : AH}
  (H : RunsI G 54 [vR 1, vI (x2 + 35)] h (fun r1 h1 =>
  Go G (pV P) 94 21 [some (vR 10), some (vR 22), none, some (vI x3), some (vI (mm 1 r1 30)), some (vI 0)] [] h1)) :
  RunsV G 94 [vR 10, vR 22, vI x2, vI x3] h P := runs_of (by decide) 2 rfl (go1 ok94 900 H)
set_option maxRecDepth 100000 in
theorem q_E_readName_c21 {G : GG} {P : AH → Prop} {x3 x4 x5 : Int} {h : AH}
  (H : ((wI x4 ≤ wI x5 →
    P (hs h 22 1 x4)) ∧
    (¬ wI x4 ≤ wI x5 →
    RunsI G 91 [vI x3, vI x5] h (fun r1 h1 =>
    RunsI G 55 [vR 1, vI r1] h1 (fun r2 h2 =>
    ((0 ≤ wI x5 ∧ wI x5 < 30) ∧
    Go G (pV P) 94 21 [some (vR 10), some (vR 22), none, some (vI x3), some (vI x4), some (vI (x5 + 1))] [] (hs h2 23 (wI x5).toNat r2))))))) :
  Go G (pV P) 94 21 [some (vR 10), some (vR 22), none, some (vI x3), some (vI x4), some (vI x5)] [] h := go1 ok94 900 H
-- BitmapVolume$Sets.isLike(LBitmapVolume$Name;II)Z  [10, 22]
set_option maxRecDepth 100000 in
theorem q_E_isLike_22 {G : GG} {P : Int → AH → Prop} {x2 x3 : Int} {h : AH}
  (H : RunsI G 54 [vR 1, vI (x2 + 35)] h (fun r1 h1 =>
  ((wI (h 22 1) = wI r1 →
    Go G (pI P) 95 23 [some (vR 10), some (vR 22), none, some (vI x3), some (vI 0)] [] h1) ∧
    (¬ wI (h 22 1) = wI r1 →
    (((0 : Int) = 0 ∨ (0 : Int) = 1) ∧ P 0 h1))))) :
  RunsI G 95 [vR 10, vR 22, vI x2, vI x3] h P := runs_of (by decide) 1 rfl (go1 ok95 900 H)
set_option maxRecDepth 100000 in
theorem q_E_isLike_22_c23 {G : GG} {P : Int → AH → Prop} {x3 x4 : Int} {h : AH}
  (H : ((wI (h 22 1) ≤ wI x4 →
    (((1 : Int) = 0 ∨ (1 : Int) = 1) ∧ P 1 h)) ∧
    (¬ wI (h 22 1) ≤ wI x4 →
    RunsI G 74 [vR 22, vI x4] h (fun r1 h1 =>
    RunsI G 19 [vR 8, vI r1] h1 (fun r2 h2 =>
    RunsI G 91 [vI x3, vI x4] h2 (fun r3 h3 =>
    RunsI G 55 [vR 1, vI r3] h3 (fun r4 h4 =>
    RunsI G 19 [vR 8, vI r4] h4 (fun r5 h5 =>
    ((wI r2 = wI r5 →
      Go G (pI P) 95 23 [some (vR 10), some (vR 22), none, some (vI x3), some (vI (x4 + 1))] [] h5) ∧
      (¬ wI r2 = wI r5 →
      (((0 : Int) = 0 ∨ (0 : Int) = 1) ∧ P 0 h5))))))))))) :
  Go G (pI P) 95 23 [some (vR 10), some (vR 22), none, some (vI x3), some (vI x4)] [] h := go1 ok95 900 H
-- BitmapVolume$Sets.isLike(LBitmapVolume$Name;II)Z  [10, 32]
set_option maxRecDepth 100000 in
theorem q_E_isLike_32 {G : GG} {P : Int → AH → Prop} {x2 x3 : Int} {h : AH}
  (H : RunsI G 54 [vR 1, vI (x2 + 35)] h (fun r1 h1 =>
  ((wI (h 32 1) = wI r1 →
    Go G (pI P) 95 23 [some (vR 10), some (vR 32), none, some (vI x3), some (vI 0)] [] h1) ∧
    (¬ wI (h 32 1) = wI r1 →
    (((0 : Int) = 0 ∨ (0 : Int) = 1) ∧ P 0 h1))))) :
  RunsI G 95 [vR 10, vR 32, vI x2, vI x3] h P := runs_of (by decide) 1 rfl (go1 ok95 900 H)
set_option maxRecDepth 100000 in
theorem q_E_isLike_32_c23 {G : GG} {P : Int → AH → Prop} {x3 x4 : Int} {h : AH}
  (H : ((wI (h 32 1) ≤ wI x4 →
    (((1 : Int) = 0 ∨ (1 : Int) = 1) ∧ P 1 h)) ∧
    (¬ wI (h 32 1) ≤ wI x4 →
    RunsI G 74 [vR 32, vI x4] h (fun r1 h1 =>
    RunsI G 19 [vR 8, vI r1] h1 (fun r2 h2 =>
    RunsI G 91 [vI x3, vI x4] h2 (fun r3 h3 =>
    RunsI G 55 [vR 1, vI r3] h3 (fun r4 h4 =>
    RunsI G 19 [vR 8, vI r4] h4 (fun r5 h5 =>
    ((wI r2 = wI r5 →
      Go G (pI P) 95 23 [some (vR 10), some (vR 32), none, some (vI x3), some (vI (x4 + 1))] [] h5) ∧
      (¬ wI r2 = wI r5 →
      (((0 : Int) = 0 ∨ (0 : Int) = 1) ∧ P 0 h5))))))))))) :
  Go G (pI P) 95 23 [some (vR 10), some (vR 32), none, some (vI x3), some (vI x4)] [] h := go1 ok95 900 H
-- BitmapVolume$Sets.isRight(IIIILBitmapVolume$Name;)Z  [10, 22]
set_option maxRecDepth 100000 in
theorem q_E_isRight {G : GG} {P : Int → AH → Prop} {x1 x2 x3 x4 : Int} {h : AH}
  (H : RunsI G 54 [vR 1, vI x1] h (fun r1 h1 =>
  ((wI r1 = (133 : Int) →
    RunsI G 81 [vR 10, vI x1] h1 (fun r2 h2 =>
    ((wI r2 ≤ wI x3 →
      RunsI G 82 [vR 10, vI x1] h2 (fun r3 h3 =>
      ((wI (bA r3 (-18)) = 0 →
        RunsI G 61 [vR 1, vI (x1 + 6), vI (x1 + 8)] h3 (fun r4 h4 =>
        ((wI r4 = 0 →
          (((0 : Int) = 0 ∨ (0 : Int) = 1) ∧ P 0 h4)) ∧
          (¬ wI r4 = 0 →
          RunsI G 61 [vR 1, vI (x1 + 16), vI (x1 + 32)] h4 (fun r5 h5 =>
          ((wI r5 = 0 →
            (((0 : Int) = 0 ∨ (0 : Int) = 1) ∧ P 0 h5)) ∧
            (¬ wI r5 = 0 →
            RunsI G 97 [vR 10, vI x1] h5 (fun r6 h6 =>
            ((wI r6 = 0 →
              (((0 : Int) = 0 ∨ (0 : Int) = 1) ∧ P 0 h6)) ∧
              (¬ wI r6 = 0 →
              RunsI G 98 [vR 10, vI x1, vI x4] h6 (fun r7 h7 =>
              ((wI r7 = 0 →
                (((0 : Int) = 0 ∨ (0 : Int) = 1) ∧ P 0 h7)) ∧
                (¬ wI r7 = 0 →
                RunsI G 99 [vR 10, vI x1, vI x2, vR 22] h7 (fun r8 h8 =>
                ((wI r8 = 0 →
                  (((0 : Int) = 0 ∨ (0 : Int) = 1) ∧ P 0 h8)) ∧
                  (¬ wI r8 = 0 →
                  RunsI G 93 [vR 10, vI x1, vI x2] h8 (fun r9 h9 =>
                  RunsI G 55 [vR 1, vI (x1 + 2)] h9 (fun r10 h10 =>
                  ((wI r9 = wI r10 →
                    (((1 : Int) = 0 ∨ (1 : Int) = 1) ∧ P 1 h10)) ∧
                    (¬ wI r9 = wI r10 →
                    (((0 : Int) = 0 ∨ (0 : Int) = 1) ∧ P 0 h10))))))))))))))))))))) ∧
        (¬ wI (bA r3 (-18)) = 0 →
        (((0 : Int) = 0 ∨ (0 : Int) = 1) ∧ P 0 h3))))) ∧
      (¬ wI r2 ≤ wI x3 →
      (((0 : Int) = 0 ∨ (0 : Int) = 1) ∧ P 0 h2))))) ∧
    (¬ wI r1 = (133 : Int) →
    (((0 : Int) = 0 ∨ (0 : Int) = 1) ∧ P 0 h1))))) :
  RunsI G 96 [vR 10, vI x1, vI x2, vI x3, vI x4, vR 22] h P := runs_of (by decide) 0 rfl (go1 ok96 900 H)
-- BitmapVolume$Sets.isRightStream(I)Z  [10]
set_option maxRecDepth 100000 in
theorem q_E_isRightStream {G : GG} {P : Int → AH → Prop} {x1 : Int} {h : AH}
  (H : RunsI G 54 [vR 1, vI (x1 + 32)] h (fun r1 h1 =>
  ((wI r1 = (192 : Int) →
    RunsI G 54 [vR 1, vI ((x1 + 32) + 1)] h1 (fun r2 h2 =>
    ((wI r2 = (1 : Int) →
      Go G (pI P) 97 51 [some (vR 10), none, some (vI (x1 + 32))] [] h2) ∧
      (¬ wI r2 = (1 : Int) →
      RunsI G 54 [vR 1, vI ((x1 + 32) + 1)] h2 (fun r3 h3 =>
      ((wI r3 = (3 : Int) →
        Go G (pI P) 97 51 [some (vR 10), none, some (vI (x1 + 32))] [] h3) ∧
        (¬ wI r3 = (3 : Int) →
        (((0 : Int) = 0 ∨ (0 : Int) = 1) ∧ P 0 h3)))))))) ∧
    (¬ wI r1 = (192 : Int) →
    (((0 : Int) = 0 ∨ (0 : Int) = 1) ∧ P 0 h1))))) :
  RunsI G 97 [vR 10, vI x1] h P := runs_of (by decide) 1 rfl (go1 ok97 900 H)
set_option maxRecDepth 100000 in
theorem q_E_isRightStream_c51 {G : GG} {P : Int → AH → Prop} {x2 : Int} {h : AH}
  (H : RunsI G 54 [vR 1, vI (x2 + 2)] h (fun r1 h1 =>
  ((wI r1 = 0 →
    RunsI G 61 [vR 1, vI (x2 + 6), vI (x2 + 8)] h1 (fun r2 h2 =>
    ((wI r2 = 0 →
      (((0 : Int) = 0 ∨ (0 : Int) = 1) ∧ P 0 h2)) ∧
      (¬ wI r2 = 0 →
      RunsI G 61 [vR 1, vI (x2 + 16), vI (x2 + 20)] h2 (fun r3 h3 =>
      ((wI r3 = 0 →
        (((0 : Int) = 0 ∨ (0 : Int) = 1) ∧ P 0 h3)) ∧
        (¬ wI r3 = 0 →
        (((1 : Int) = 0 ∨ (1 : Int) = 1) ∧ P 1 h3)))))))) ∧
    (¬ wI r1 = 0 →
    (((0 : Int) = 0 ∨ (0 : Int) = 1) ∧ P 0 h1))))) :
  Go G (pI P) 97 51 [some (vR 10), none, some (vI x2)] [] h := go1 ok97 900 H
-- BitmapVolume$Sets.isRightLength(II)Z  [10]
set_option maxRecDepth 100000 in
theorem q_E_isRightLength {G : GG} {P : Int → AH → Prop} {x1 x2 : Int} {h : AH}
  (H : RunsI G 88 [vR 10, vI x1] h (fun r1 h1 =>
  ((wI r1 < 0 →
    (((0 : Int) = 0 ∨ (0 : Int) = 1) ∧ P 0 h1)) ∧
    (¬ wI r1 < 0 →
    ((wI (128 * x2) < wI r1 →
      (((0 : Int) = 0 ∨ (0 : Int) = 1) ∧ P 0 h1)) ∧
      (¬ wI (128 * x2) < wI r1 →
      RunsI G 56 [vR 1, vI (x1 + 40)] h1 (fun r2 h2 =>
      ((wI r2 = wI r1 →
        RunsI G 56 [vR 1, vI ((x1 + 56) + 4)] h2 (fun r3 h3 =>
        ((wI r3 = 0 →
          RunsI G 56 [vR 1, vI ((x1 + 40) + 4)] h3 (fun r4 h4 =>
          ((wI r4 = 0 →
            RunsI G 83 [vR 10, vI x1] h4 (fun r5 h5 =>
            ((wI r5 = 0 →
              Go G (pI P) 98 92 [some (vR 10), some (vI x1), some (vI x2), some (vI r1)] [] h5) ∧
              (¬ wI r5 = 0 →
              ((wI r1 = 0 →
                (((0 : Int) = 0 ∨ (0 : Int) = 1) ∧ P 0 h5)) ∧
                (¬ wI r1 = 0 →
                ((128 : Int) ≠ 0 ∧ ((wI (Int.tmod (wI r1) 128) = 0 →
                  Go G (pI P) 98 92 [some (vR 10), some (vI x1), some (vI x2), some (vI r1)] [] h5) ∧
                  (¬ wI (Int.tmod (wI r1) 128) = 0 →
                  (((0 : Int) = 0 ∨ (0 : Int) = 1) ∧ P 0 h5)))))))))) ∧
            (¬ wI r4 = 0 →
            (((0 : Int) = 0 ∨ (0 : Int) = 1) ∧ P 0 h4))))) ∧
          (¬ wI r3 = 0 →
          (((0 : Int) = 0 ∨ (0 : Int) = 1) ∧ P 0 h3))))) ∧
        (¬ wI r2 = wI r1 →
        (((0 : Int) = 0 ∨ (0 : Int) = 1) ∧ P 0 h2)))))))))) :
  RunsI G 98 [vR 10, vI x1, vI x2] h P := runs_of (by decide) 1 rfl (go1 ok98 900 H)
set_option maxRecDepth 100000 in
theorem q_E_isRightLength_c92 {G : GG} {P : Int → AH → Prop} {x1 x2 x3 : Int} {h : AH}
  (H : ((wI x3 = 0 →
    RunsI G 87 [vR 10, vI x1] h (fun r3 h3 =>
    ((wI r3 = 0 →
      RunsI G 85 [vR 10, vI x1] h3 (fun r4 h4 =>
      ((wI r4 = 0 →
        (((1 : Int) = 0 ∨ (1 : Int) = 1) ∧ P 1 h4)) ∧
        (¬ wI r4 = 0 →
        (((0 : Int) = 0 ∨ (0 : Int) = 1) ∧ P 0 h4))))) ∧
      (¬ wI r3 = 0 →
      (((0 : Int) = 0 ∨ (0 : Int) = 1) ∧ P 0 h3))))) ∧
    (¬ wI x3 = 0 →
    RunsI G 87 [vR 10, vI x1] h (fun r1 h1 =>
    ((wI r1 < (2 : Int) →
      (((0 : Int) = 0 ∨ (0 : Int) = 1) ∧ P 0 h1)) ∧
      (¬ wI r1 < (2 : Int) →
      RunsI G 87 [vR 10, vI x1] h1 (fun r2 h2 =>
      ((wI (x2 + 1) < wI r2 →
        (((0 : Int) = 0 ∨ (0 : Int) = 1) ∧ P 0 h2)) ∧
        (¬ wI (x2 + 1) < wI r2 →
        (((1 : Int) = 0 ∨ (1 : Int) = 1) ∧ P 1 h2)))))))))) :
  Go G (pI P) 98 92 [some (vR 10), some (vI x1), some (vI x2), some (vI x3)] [] h := go1 ok98 900 H
-- BitmapVolume$Sets.isRightName(IILBitmapVolume$Name;)Z  [10, 22]
set_option maxRecDepth 100000 in
theorem q_E_isRightName {G : GG} {P : Int → AH → Prop} {x1 x2 : Int} {h : AH}
  (H : RunsI G 86 [vR 10, vI x1] h (fun r1 h1 =>
  (((30 : Int) < wI r1 →
    (((0 : Int) = 0 ∨ (0 : Int) = 1) ∧ P 0 h1)) ∧
    (¬ (30 : Int) < wI r1 →
    RunsI G 81 [vR 10, vI x1] h1 (fun r2 h2 =>
    RunsI G 79 [vI r1] h2 (fun r3 h3 =>
    ((wI r2 = wI r3 →
      RunsV G 94 [vR 10, vR 22, vI x1, vI x2] h3 (fun h4 =>
      RunsI G 77 [vR 22] h4 (fun r5 h5 =>
      ((wI r5 = 0 →
        (((0 : Int) = 0 ∨ (0 : Int) = 1) ∧ P 0 h5)) ∧
        (¬ wI r5 = 0 →
        RunsI G 20 [vR 8, vR 22] h5 (fun r6 h6 =>
        RunsI G 55 [vR 1, vI (x1 + 36)] h6 (fun r7 h7 =>
        ((wI r6 = wI r7 →
          Go G (pI P) 99 70 [some (vR 10), some (vI x1), some (vI x2), none, some (vI r1), some (vI 0)] [] h7) ∧
          (¬ wI r6 = wI r7 →
          (((0 : Int) = 0 ∨ (0 : Int) = 1) ∧ P 0 h7)))))))))) ∧
      (¬ wI r2 = wI r3 →
      (((0 : Int) = 0 ∨ (0 : Int) = 1) ∧ P 0 h3))))))))) :
  RunsI G 99 [vR 10, vI x1, vI x2, vR 22] h P := runs_of (by decide) 2 rfl (go1 ok99 900 H)
set_option maxRecDepth 100000 in
theorem q_E_isRightName_c70 {G : GG} {P : Int → AH → Prop} {x1 x2 x4 x5 : Int} {h : AH}
  (H : RunsI G 81 [vR 10, vI x1] h (fun r1 h1 =>
  ((wI (r1 - 2) ≤ wI x5 →
    Go G (pI P) 99 133 [some (vR 10), some (vI x1), some (vI x2), none, none, some (vI x4)] [] h1) ∧
    (¬ wI (r1 - 2) ≤ wI x5 →
    RunsI G 54 [vR 1, vI (x2 + (32 * x5))] h1 (fun r2 h2 =>
    ((wI r2 = (193 : Int) →
      RunsI G 54 [vR 1, vI ((x2 + (32 * x5)) + 1)] h2 (fun r3 h3 =>
      ((wI r3 = 0 →
        Go G (pI P) 99 70 [some (vR 10), some (vI x1), some (vI x2), none, some (vI x4), some (vI (x5 + 1))] [] h3) ∧
        (¬ wI r3 = 0 →
        (((0 : Int) = 0 ∨ (0 : Int) = 1) ∧ P 0 h3))))) ∧
      (¬ wI r2 = (193 : Int) →
      (((0 : Int) = 0 ∨ (0 : Int) = 1) ∧ P 0 h2)))))))) :
  Go G (pI P) 99 70 [some (vR 10), some (vI x1), some (vI x2), none, some (vI x4), some (vI x5)] [] h := go1 ok99 900 H
set_option maxRecDepth 100000 in
theorem q_E_isRightName_c133 {G : GG} {P : Int → AH → Prop} {x1 x2 x5 : Int} {h : AH}
  (H : RunsI G 81 [vR 10, vI x1] h (fun r1 h1 =>
  ((wI (15 * (r1 - 2)) ≤ wI x5 →
    (((1 : Int) = 0 ∨ (1 : Int) = 1) ∧ P 1 h1)) ∧
    (¬ wI (15 * (r1 - 2)) ≤ wI x5 →
    RunsI G 90 [vR 10, vI x2, vI x5] h1 (fun r2 h2 =>
    ((wI r2 = 0 →
      Go G (pI P) 99 133 [some (vR 10), some (vI x1), some (vI x2), none, none, some (vI (x5 + 1))] [] h2) ∧
      (¬ wI r2 = 0 →
      (((0 : Int) = 0 ∨ (0 : Int) = 1) ∧ P 0 h2)))))))) :
  Go G (pI P) 99 133 [some (vR 10), some (vI x1), some (vI x2), none, none, some (vI x5)] [] h := go1 ok99 900 H
-- BitmapVolume$Sets.begin(IILBitmapVolume$Name;)V  [10, 32]
set_option maxRecDepth 100000 in
theorem q_E_begin {G : GG} {P : AH → Prop} {x1 x2 : Int} {h : AH}
  (H : RunsI G 79 [vI (h 32 1)] h (fun r1 h1 =>
  RunsV G 60 [vR 1, vI x1, vI 64] h1 (fun h2 =>
  RunsV G 60 [vR 1, vI x2, vI ((r1 - 2) * 32)] h2 (fun h3 =>
  RunsV G 57 [vR 1, vI x1, vI 133] h3 (fun h4 =>
  RunsV G 57 [vR 1, vI (x1 + 1), vI (1 + (r1 - 2))] h4 (fun h5 =>
  RunsV G 57 [vR 1, vI (x1 + 32), vI 192] h5 (fun h6 =>
  RunsV G 57 [vR 1, vI (x1 + 33), vI 1] h6 (fun h7 =>
  RunsV G 57 [vR 1, vI (x1 + 35), vI (h7 32 1)] h7 (fun h8 =>
  RunsI G 20 [vR 8, vR 32] h8 (fun r9 h9 =>
  RunsV G 58 [vR 1, vI (x1 + 36), vI r9] h9 (fun h10 =>
  Go G (pV P) 100 122 [some (vR 10), none, some (vI x2), some (vR 32), some (vI (r1 - 2)), some (vI 0)] [] h10))))))))))) :
  RunsV G 100 [vR 10, vI x1, vI x2, vR 32] h P := runs_of (by decide) 2 rfl (go1 ok100 900 H)
set_option maxRecDepth 100000 in
theorem q_E_begin_c122 {G : GG} {P : AH → Prop} {x2 x4 x5 : Int} {h : AH}
  (H : ((wI x4 ≤ wI x5 →
    Go G (pV P) 100 155 [some (vR 10), none, some (vI x2), some (vR 32), none, some (vI 0)] [] h) ∧
    (¬ wI x4 ≤ wI x5 →
    RunsV G 57 [vR 1, vI (x2 + (32 * x5)), vI 193] h (fun h1 =>
    Go G (pV P) 100 122 [some (vR 10), none, some (vI x2), some (vR 32), some (vI x4), some (vI (x5 + 1))] [] h1)))) :
  Go G (pV P) 100 122 [some (vR 10), none, some (vI x2), some (vR 32), some (vI x4), some (vI x5)] [] h := go1 ok100 900 H
set_option maxRecDepth 100000 in
theorem q_E_begin_c155 {G : GG} {P : AH → Prop} {x2 x5 : Int} {h : AH}
  (H : ((wI (h 32 1) ≤ wI x5 →
    P h) ∧
    (¬ wI (h 32 1) ≤ wI x5 →
    RunsI G 91 [vI x2, vI x5] h (fun r1 h1 =>
    RunsI G 74 [vR 32, vI x5] h1 (fun r2 h2 =>
    RunsV G 58 [vR 1, vI r1, vI r2] h2 (fun h3 =>
    Go G (pV P) 100 155 [some (vR 10), none, some (vI x2), some (vR 32), none, some (vI (x5 + 1))] [] h3)))))) :
  Go G (pV P) 100 155 [some (vR 10), none, some (vI x2), some (vR 32), none, some (vI x5)] [] h := go1 ok100 900 H
-- BitmapVolume$Sets.setAttributes(II)V  [10]
set_option maxRecDepth 100000 in
theorem q_E_setAttributes {G : GG} {P : AH → Prop} {x1 x2 : Int} {h : AH}
  (H : RunsV G 58 [vR 1, vI (x1 + 4), vI x2] h (fun h1 =>
  P h1)) :
  RunsV G 101 [vR 10, vI x1, vI x2] h P := runs_of (by decide) 0 rfl (go1 ok101 900 H)
-- BitmapVolume$Sets.setMade(II)V  [10]
set_option maxRecDepth 100000 in
theorem q_E_setMade {G : GG} {P : AH → Prop} {x1 x2 : Int} {h : AH}
  (H : RunsV G 59 [vR 1, vI (x1 + 8), vI x2] h (fun h1 =>
  P h1)) :
  RunsV G 102 [vR 10, vI x1, vI x2] h P := runs_of (by decide) 0 rfl (go1 ok102 900 H)
-- BitmapVolume$Sets.setChanged(II)V  [10]
set_option maxRecDepth 100000 in
theorem q_E_setChanged {G : GG} {P : AH → Prop} {x1 x2 : Int} {h : AH}
  (H : RunsV G 59 [vR 1, vI (x1 + 12), vI x2] h (fun h1 =>
  P h1)) :
  RunsV G 103 [vR 10, vI x1, vI x2] h P := runs_of (by decide) 0 rfl (go1 ok103 900 H)
-- BitmapVolume$Sets.setStream(IZII)V  [10]
set_option maxRecDepth 100000 in
theorem q_E_setStream {G : GG} {P : AH → Prop} {x1 x2 x3 x4 : Int} {h : AH}
  (H : ((wI x2 = 0 →
    Go G (pV P) 104 17 [some (vR 10), some (vI x1), none, some (vI x3), some (vI x4)] [vI 1, vI (x1 + 33), vR 1] h) ∧
    (¬ wI x2 = 0 →
    Go G (pV P) 104 17 [some (vR 10), some (vI x1), none, some (vI x3), some (vI x4)] [vI 3, vI (x1 + 33), vR 1] h))) :
  RunsV G 104 [vR 10, vI x1, vI x2, vI x3, vI x4] h P := runs_of (by decide) 0 rfl (go1 ok104 900 H)
set_option maxRecDepth 100000 in
theorem q_E_setStream_c17 {G : GG} {P : AH → Prop} {x1 x3 x4 s1 s2 : Int} {h : AH}
  (H : RunsV G 57 [vR 1, vI s1, vI s2] h (fun h1 =>
  RunsV G 59 [vR 1, vI (x1 + 40), vI x4] h1 (fun h2 =>
  RunsV G 59 [vR 1, vI (x1 + 52), vI x3] h2 (fun h3 =>
  RunsV G 59 [vR 1, vI (x1 + 56), vI x4] h3 (fun h4 =>
  P h4))))) :
  Go G (pV P) 104 17 [some (vR 10), some (vI x1), none, some (vI x3), some (vI x4)] [vI s2, vI s1, vR 1] h := go1 ok104 900 H
-- BitmapVolume$Sets.copyBody(II)V  [10]
set_option maxRecDepth 100000 in
theorem q_E_copyBody {G : GG} {P : AH → Prop} {x1 x2 : Int} {h : AH}
  (H : RunsI G 82 [vR 10, vI x2] h (fun r1 h1 =>
  RunsV G 101 [vR 10, vI x1, vI r1] h1 (fun h2 =>
  RunsI G 56 [vR 1, vI (x2 + 8)] h2 (fun r3 h3 =>
  RunsV G 102 [vR 10, vI x1, vI r3] h3 (fun h4 =>
  RunsI G 56 [vR 1, vI (x2 + 12)] h4 (fun r5 h5 =>
  RunsV G 103 [vR 10, vI x1, vI r5] h5 (fun h6 =>
  RunsI G 85 [vR 10, vI x2] h6 (fun r7 h7 =>
  RunsI G 87 [vR 10, vI x2] h7 (fun r8 h8 =>
  RunsI G 88 [vR 10, vI x2] h8 (fun r9 h9 =>
  RunsV G 104 [vR 10, vI x1, vI r7, vI r8, vI r9] h9 (fun h10 =>
  P h10))))))))))) :
  RunsV G 105 [vR 10, vI x1, vI x2] h P := runs_of (by decide) 0 rfl (go1 ok105 900 H)
-- BitmapVolume$Sets.seal(II)V  [10]
set_option maxRecDepth 100000 in
theorem q_E_seal {G : GG} {P : AH → Prop} {x1 x2 : Int} {h : AH}
  (H : RunsI G 93 [vR 10, vI x1, vI x2] h (fun r1 h1 =>
  RunsV G 58 [vR 1, vI (x1 + 2), vI r1] h1 (fun h2 =>
  P h2))) :
  RunsV G 106 [vR 10, vI x1, vI x2] h P := runs_of (by decide) 0 rfl (go1 ok106 900 H)
-- BitmapVolume$Sets.unuse(II)V  [10]
set_option maxRecDepth 100000 in
theorem q_E_unuse {G : GG} {P : AH → Prop} {x1 x2 : Int} {h : AH}
  (H : RunsI G 81 [vR 10, vI x1] h (fun r1 h1 =>
  RunsV G 108 [vR 10, vI x1] h1 (fun h2 =>
  RunsV G 108 [vR 10, vI (x1 + 32)] h2 (fun h3 =>
  Go G (pV P) 107 24 [some (vR 10), none, some (vI x2), some (vI (r1 - 2)), some (vI 0)] [] h3)))) :
  RunsV G 107 [vR 10, vI x1, vI x2] h P := runs_of (by decide) 2 rfl (go1 ok107 900 H)
set_option maxRecDepth 100000 in
theorem q_E_unuse_c24 {G : GG} {P : AH → Prop} {x2 x3 x4 : Int} {h : AH}
  (H : ((wI x3 ≤ wI x4 →
    P h) ∧
    (¬ wI x3 ≤ wI x4 →
    RunsV G 108 [vR 10, vI (x2 + (32 * x4))] h (fun h1 =>
    Go G (pV P) 107 24 [some (vR 10), none, some (vI x2), some (vI x3), some (vI (x4 + 1))] [] h1)))) :
  Go G (pV P) 107 24 [some (vR 10), none, some (vI x2), some (vI x3), some (vI x4)] [] h := go1 ok107 900 H
-- BitmapVolume$Sets.unuseEntry(I)V  [10]
set_option maxRecDepth 100000 in
theorem q_E_unuseEntry {G : GG} {P : AH → Prop} {x1 : Int} {h : AH}
  (H : RunsI G 54 [vR 1, vI x1] h (fun r1 h1 =>
  RunsV G 57 [vR 1, vI x1, vI (mm 0 (r1 - 128) 1)] h1 (fun h2 =>
  P h2))) :
  RunsV G 108 [vR 10, vI x1] h P := runs_of (by decide) 0 rfl (go1 ok108 900 H)
