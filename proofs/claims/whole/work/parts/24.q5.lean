/-! what is to be shown of each method, from its entry and from its cuts, by program out of the code tables -/
-- Model.keepName()V  [34]
set_option maxRecDepth 100000 in
theorem q_M_keepName {G : GG} {P : AH → Prop} {h : AH}
  (H : Go G (pV P) 218 10 [some (vR 34), some (vI 0)] [] (hs h 34 38 (h 34 19))) :
  RunsV G 218 [vR 34] h P := runs_of (by decide) 1 rfl (go1 ok218 900 H)
set_option maxRecDepth 100000 in
theorem q_M_keepName_c10 {G : GG} {P : AH → Prop} {x1 : Int} {h : AH}
  (H : ((wI (h 34 19) ≤ wI x1 →
    P h) ∧
    (¬ wI (h 34 19) ≤ wI x1 →
    ((0 ≤ wI x1 ∧ wI x1 < 30) ∧
    ((0 ≤ wI x1 ∧ wI x1 < 30) ∧
    Go G (pV P) 218 10 [some (vR 34), some (vI (x1 + 1))] [] (hs h 50 (wI x1).toNat (h 40 (wI x1).toNat))))))) :
  Go G (pV P) 218 10 [some (vR 34), some (vI x1)] [] h := go1 ok218 900 H
-- Model.isLike(I)Z  [34]
set_option maxRecDepth 100000 in
theorem q_M_isLike {G : GG} {P : Int → AH → Prop} {x1 : Int} {h : AH}
  (H : RunsI G 205 [vR 34, vI x1] h (fun r1 h1 =>
  ((wI r1 = 0 →
    Go G (pI P) 219 27 [some (vR 34), none, some (vI 0), some (vI 0)] [] h1) ∧
    (¬ wI r1 = 0 →
    ((wI (h1 34 19) = wI (h1 34 38) →
      Go G (pI P) 219 27 [some (vR 34), none, some (vI 1), some (vI 0)] [] h1) ∧
      (¬ wI (h1 34 19) = wI (h1 34 38) →
      Go G (pI P) 219 27 [some (vR 34), none, some (vI 0), some (vI 0)] [] h1)))))) :
  RunsI G 219 [vR 34, vI x1] h P := runs_of (by decide) 2 rfl (go1 ok219 900 H)
set_option maxRecDepth 100000 in
theorem q_M_isLike_c27 {G : GG} {P : Int → AH → Prop} {x2 x3 : Int} {h : AH}
  (H : ((wI (h 34 38) ≤ wI x3 →
    ((x2 = 0 ∨ x2 = 1) ∧ P x2 h)) ∧
    (¬ wI (h 34 38) ≤ wI x3 →
    ((wI x2 = 0 →
      ((x2 = 0 ∨ x2 = 1) ∧ P x2 h)) ∧
      (¬ wI x2 = 0 →
      ((0 ≤ wI x3 ∧ wI x3 < 30) ∧
      ((0 ≤ wI (h 40 (wI x3).toNat) ∧ wI (h 40 (wI x3).toNat) < 256) ∧
      ((0 ≤ wI x3 ∧ wI x3 < 30) ∧
      ((0 ≤ wI (h 50 (wI x3).toNat) ∧ wI (h 50 (wI x3).toNat) < 256) ∧
      ((wI (h 38 (wI (h 40 (wI x3).toNat)).toNat) = wI (h 38 (wI (h 50 (wI x3).toNat)).toNat) →
        Go G (pI P) 219 27 [some (vR 34), none, some (vI 1), some (vI (x3 + 1))] [] h) ∧
        (¬ wI (h 38 (wI (h 40 (wI x3).toNat)).toNat) = wI (h 38 (wI (h 50 (wI x3).toNat)).toNat) →
        Go G (pI P) 219 27 [some (vR 34), none, some (vI 0), some (vI (x3 + 1))] [] h))))))))))) :
  Go G (pI P) 219 27 [some (vR 34), none, some (vI x2), some (vI x3)] [] h := go1 ok219 900 H
-- Model.isThereBefore(II)Z  [34]
set_option maxRecDepth 100000 in
theorem q_M_isThereBefore {G : GG} {P : Int → AH → Prop} {x1 x2 : Int} {h : AH}
  (H : RunsV G 218 [vR 34] h (fun h1 =>
  Go G (pI P) 220 9 [some (vR 34), some (vI x1), some (vI x2), some (vI 0), some (vI 1)] [] h1)) :
  RunsI G 220 [vR 34, vI x1, vI x2] h P := runs_of (by decide) 2 rfl (go1 ok220 900 H)
set_option maxRecDepth 100000 in
theorem q_M_isThereBefore_c9 {G : GG} {P : Int → AH → Prop} {x1 x2 x3 x4 : Int} {h : AH}
  (H : ((wI (h 34 34) ≤ wI x4 →
    RunsI G 205 [vR 34, vI x2] h (fun r1 h1 =>
    ((x3 = 0 ∨ x3 = 1) ∧ P x3 h1))) ∧
    (¬ wI (h 34 34) ≤ wI x4 →
    ((0 ≤ wI x4 ∧ wI x4 < 200) ∧
    ((wI (h 42 (wI x4).toNat) = wI x1 →
      ((0 ≤ wI x4 ∧ wI x4 < 200) ∧
      RunsI G 219 [vR 34, vI (h 43 (wI x4).toNat)] h (fun r2 h2 =>
      ((wI r2 = 0 →
        Go G (pI P) 220 9 [some (vR 34), some (vI x1), some (vI x2), some (vI (bO x3 0)), some (vI (x4 + 1))] [] h2) ∧
        (¬ wI r2 = 0 →
        Go G (pI P) 220 9 [some (vR 34), some (vI x1), some (vI x2), some (vI (bO x3 1)), some (vI (x4 + 1))] [] h2))))) ∧
      (¬ wI (h 42 (wI x4).toNat) = wI x1 →
      Go G (pI P) 220 9 [some (vR 34), some (vI x1), some (vI x2), some (vI (bO x3 0)), some (vI (x4 + 1))] [] h)))))) :
  Go G (pI P) 220 9 [some (vR 34), some (vI x1), some (vI x2), some (vI x3), some (vI x4)] [] h := go1 ok220 900 H
-- Model.wantType(II)V  [34]
set_option maxRecDepth 100000 in
theorem q_M_wantType {G : GG} {P : AH → Prop} {x1 x2 : Int} {h : AH}
  (H : RunsI G 197 [vR 34, vI x1] h (fun r1 h1 =>
  ((0 ≤ wI r1 ∧ wI r1 < 13824) ∧
  P (hs h1 36 (wI r1).toNat (w8 (w8 x2)))))) :
  RunsV G 221 [vR 34, vI x1, vI x2] h P := runs_of (by decide) 0 rfl (go1 ok221 900 H)
-- Model.wrong(III)Z  [34]
set_option maxRecDepth 100000 in
theorem q_M_wrong {G : GG} {P : Int → AH → Prop} {x1 x2 x3 : Int} {h : AH}
  (H : ((wI (h 34 35) = 0 →
    ((4 : Int) ≠ 0 ∧ ((0 ≤ wI (Int.tdiv (wI x2) 4) ∧ wI (Int.tdiv (wI x2) 4) < 102) ∧
    ((4 : Int) ≠ 0 ∧ RunsI G 188 [vR 34, vI x1, vI (h 39 (wI (Int.tdiv (wI x2) 4)).toNat), vI (Int.tmod (wI x2) 4)] h (fun r1 h1 =>
    ((r1 = 0 ∨ r1 = 1) ∧ P r1 h1)))))) ∧
    (¬ wI (h 34 35) = 0 →
    Go G (pI P) 222 37 [some (vR 34), none, some (vI x2), some (vI x3), some (vI 0), none] [] (hs h 34 36 ((h 34 36) + 1))))) :
  RunsI G 222 [vR 34, vI x1, vI x2, vI x3] h P := runs_of (by decide) 2 rfl (go1 ok222 900 H)
set_option maxRecDepth 100000 in
theorem q_M_wrong_c37 {G : GG} {P : Int → AH → Prop} {x2 x3 x4 : Int} {h : AH}
  (H : ((wI x3 ≤ wI x4 →
    (((1 : Int) = 0 ∨ (1 : Int) = 1) ∧ P 1 h)) ∧
    (¬ wI x3 ≤ wI x4 →
    RunsI G 198 [vR 34, vI (x2 + x4)] h (fun r1 h1 =>
    ((wI (r1 - 128) = 0 →
      RunsV G 221 [vR 34, vI (x2 + x4), vI 1] h1 (fun h3 =>
      Go G (pI P) 222 37 [some (vR 34), none, some (vI x2), some (vI x3), some (vI (x4 + 1)), none] [] h3)) ∧
      (¬ wI (r1 - 128) = 0 →
      RunsV G 221 [vR 34, vI (x2 + x4), vI (r1 - 128)] h1 (fun h2 =>
      Go G (pI P) 222 37 [some (vR 34), none, some (vI x2), some (vI x3), some (vI (x4 + 1)), none] [] h2))))))) :
  Go G (pI P) 222 37 [some (vR 34), none, some (vI x2), some (vI x3), some (vI x4), none] [] h := go1 ok222 900 H
-- Model.isDirectoryRight(I)Z  [34]
set_option maxRecDepth 100000 in
theorem q_M_isDirectoryRight {G : GG} {P : Int → AH → Prop} {x1 : Int} {h : AH}
  (H : RunsV G 210 [vR 34, vI x1] h (fun h1 =>
  ((wI x1 = 0 →
    Go G (pI P) 223 17 [some (vR 34), some (vI x1), some (vI 0), some (vI 2), none, none, none, none] [] h1) ∧
    (¬ wI x1 = 0 →
    Go G (pI P) 223 17 [some (vR 34), some (vI x1), some (vI 0), some (vI 0), none, none, none, none] [] h1)))) :
  RunsI G 223 [vR 34, vI x1] h P := runs_of (by decide) 6 rfl (go1 ok223 900 H)
set_option maxRecDepth 100000 in
theorem q_M_isDirectoryRight_c17 {G : GG} {P : Int → AH → Prop} {x1 x2 x3 : Int} {h : AH}
  (H : RunsI G 199 [vR 34] h (fun r1 h1 =>
  ((wI r1 ≤ wI x3 →
    (((1 : Int) = 0 ∨ (1 : Int) = 1) ∧ P 1 h1)) ∧
    (¬ wI r1 ≤ wI x3 →
    RunsI G 198 [vR 34, vI x3] h1 (fun r2 h2 =>
    ((wI x2 = 0 →
      Go G (pI P) 223 87 [some (vR 34), some (vI x1), some (vI x2), some (vI x3), some (vI r2), some (vI 1), none, none] [] h2) ∧
      (¬ wI x2 = 0 →
      ((wI r2 = 0 →
        Go G (pI P) 223 87 [some (vR 34), some (vI x1), some (vI x2), some (vI x3), some (vI r2), some (vI 1), none, none] [] h2) ∧
        (¬ wI r2 = 0 →
        ((wI (h2 34 35) = 0 →
          ((4 : Int) ≠ 0 ∧ ((0 ≤ wI (Int.tdiv (wI x3) 4) ∧ wI (Int.tdiv (wI x3) 4) < 102) ∧
          ((4 : Int) ≠ 0 ∧ RunsI G 188 [vR 34, vI 5, vI (h2 39 (wI (Int.tdiv (wI x3) 4)).toNat), vI (Int.tmod (wI x3) 4)] h2 (fun r4 h4 =>
          ((r4 = 0 ∨ r4 = 1) ∧ P r4 h4)))))) ∧
          (¬ wI (h2 34 35) = 0 →
          RunsV G 221 [vR 34, vI x3, vI 0] (hs h2 34 36 ((h2 34 36) + 1)) (fun h3 =>
          ((wI r2 = 0 →
            Go G (pI P) 223 17 [some (vR 34), some (vI x1), some (vI (bO x2 1)), some (vI (x3 + 1)), none, none, none, none] [] h3) ∧
            (¬ wI r2 = 0 →
            Go G (pI P) 223 17 [some (vR 34), some (vI x1), some (vI (bO x2 0)), some (vI (x3 + 1)), none, none, none, none] [] h3)))))))))))))) :
  Go G (pI P) 223 17 [some (vR 34), some (vI x1), some (vI x2), some (vI x3), none, none, none, none] [] h := go1 ok223 900 H
set_option maxRecDepth 100000 in
theorem q_M_isDirectoryRight_c87 {G : GG} {P : Int → AH → Prop} {x1 x2 x3 x4 x5 : Int} {h : AH}
  (H : ((wI x4 < (128 : Int) →
    ((wI x4 = 0 →
      Go G (pI P) 223 17 [some (vR 34), some (vI x1), some (vI (bO x2 1)), some (vI (x3 + x5)), none, none, none, none] [] h) ∧
      (¬ wI x4 = 0 →
      Go G (pI P) 223 17 [some (vR 34), some (vI x1), some (vI (bO x2 0)), some (vI (x3 + x5)), none, none, none, none] [] h))) ∧
    (¬ wI x4 < (128 : Int) →
    RunsI G 205 [vR 34, vI x3] h (fun r1 h1 =>
    ((wI r1 = 0 →
      RunsI G 222 [vR 34, vI 5, vI x3, vI 1] h1 (fun r3 h3 =>
      ((wI r3 = 0 →
        (((0 : Int) = 0 ∨ (0 : Int) = 1) ∧ P 0 h3)) ∧
        (¬ wI r3 = 0 →
        ((wI x4 = 0 →
          Go G (pI P) 223 17 [some (vR 34), some (vI x1), some (vI (bO x2 1)), some (vI (x3 + x5)), none, none, none, none] [] h3) ∧
          (¬ wI x4 = 0 →
          Go G (pI P) 223 17 [some (vR 34), some (vI x1), some (vI (bO x2 0)), some (vI (x3 + x5)), none, none, none, none] [] h3)))))) ∧
      (¬ wI r1 = 0 →
      RunsI G 215 [vR 34] h1 (fun r2 h2 =>
      ((wI r2 = (66 : Int) →
        Go G (pI P) 223 139 [some (vR 34), some (vI x1), some (vI x2), some (vI x3), some (vI x4), some (vI (h1 34 18)), some (vI r2), none] [vI 1] h2) ∧
        (¬ wI r2 = (66 : Int) →
        Go G (pI P) 223 139 [some (vR 34), some (vI x1), some (vI x2), some (vI x3), some (vI x4), some (vI (h1 34 18)), some (vI r2), none] [vI 0] h2))))))))) :
  Go G (pI P) 223 87 [some (vR 34), some (vI x1), some (vI x2), some (vI x3), some (vI x4), some (vI x5), none, none] [] h := go1 ok223 900 H
set_option maxRecDepth 100000 in
theorem q_M_isDirectoryRight_c139 {G : GG} {P : Int → AH → Prop} {x1 x2 x3 x4 x5 x6 s0 : Int} {h : AH}
  (H : ((wI x6 = 0 →
    Go G (pI P) 223 151 [some (vR 34), some (vI x1), some (vI x2), some (vI x3), some (vI x4), some (vI x5), some (vI x6), some (vI s0)] [] h) ∧
    (¬ wI x6 = 0 →
    ((wI s0 = 0 →
      ((wI s0 = 0 →
        Go G (pI P) 223 176 [some (vR 34), some (vI x1), some (vI x2), some (vI x3), some (vI x4), some (vI x5), none, some (vI s0)] [vI x6] h) ∧
        (¬ wI s0 = 0 →
        Go G (pI P) 223 176 [some (vR 34), some (vI x1), some (vI x2), some (vI x3), some (vI x4), some (vI x5), none, some (vI s0)] [vI 0] h))) ∧
      (¬ wI s0 = 0 →
      Go G (pI P) 223 151 [some (vR 34), some (vI x1), some (vI x2), some (vI x3), some (vI x4), some (vI x5), some (vI x6), some (vI s0)] [] h))))) :
  Go G (pI P) 223 139 [some (vR 34), some (vI x1), some (vI x2), some (vI x3), some (vI x4), some (vI x5), some (vI x6), none] [vI s0] h := go1 ok223 900 H
set_option maxRecDepth 100000 in
theorem q_M_isDirectoryRight_c151 {G : GG} {P : Int → AH → Prop} {x1 x2 x3 x4 x5 x6 x7 : Int} {h : AH}
  (H : RunsI G 220 [vR 34, vI x1, vI x3] h (fun r1 h1 =>
  ((wI r1 = 0 →
    ((wI x7 = 0 →
      Go G (pI P) 223 176 [some (vR 34), some (vI x1), some (vI x2), some (vI x3), some (vI x4), some (vI x5), none, some (vI x7)] [vI x6] h1) ∧
      (¬ wI x7 = 0 →
      Go G (pI P) 223 176 [some (vR 34), some (vI x1), some (vI x2), some (vI x3), some (vI x4), some (vI x5), none, some (vI x7)] [vI 0] h1))) ∧
    (¬ wI r1 = 0 →
    Go G (pI P) 223 176 [some (vR 34), some (vI x1), some (vI x2), some (vI x3), some (vI x4), some (vI x5), none, some (vI x7)] [vI 8] h1)))) :
  Go G (pI P) 223 151 [some (vR 34), some (vI x1), some (vI x2), some (vI x3), some (vI x4), some (vI x5), some (vI x6), some (vI x7)] [] h := go1 ok223 900 H
set_option maxRecDepth 100000 in
theorem q_M_isDirectoryRight_c176 {G : GG} {P : Int → AH → Prop} {x1 x2 x3 x4 x5 x7 s0 : Int} {h : AH}
  (H : ((wI s0 ≤ 0 →
    ((wI x7 = 0 →
      Go G (pI P) 223 239 [some (vR 34), some (vI x1), some (vI x2), some (vI x3), some (vI x4), some (vI x5), none, none] [] h) ∧
      (¬ wI x7 = 0 →
      ((128 : Int) ≠ 0 ∧ ((0 ≤ wI ((Int.tdiv (wL (((hs h 34 36 ((h 34 36) + 1)) 34 21) + 127)) 128) - 1) ∧ wI ((Int.tdiv (wL (((hs h 34 36 ((h 34 36) + 1)) 34 21) + 127)) 128) - 1) < 102) ∧
      RunsV G 172 [vR 34, vI ((hs h 34 36 ((h 34 36) + 1)) 51 (wI ((Int.tdiv (wL (((hs h 34 36 ((h 34 36) + 1)) 34 21) + 127)) 128) - 1)).toNat), vL 4294967295] (hs h 34 36 ((h 34 36) + 1)) (fun h1 =>
      Go G (pI P) 223 239 [some (vR 34), some (vI x1), some (vI x2), some (vI x3), some (vI x4), some (vI x5), none, none] [] h1)))))) ∧
    (¬ wI s0 ≤ 0 →
    RunsI G 222 [vR 34, vI s0, vI x3, vI x5] h (fun r2 h2 =>
    ((wI r2 = 0 →
      (((0 : Int) = 0 ∨ (0 : Int) = 1) ∧ P 0 h2)) ∧
      (¬ wI r2 = 0 →
      ((wI x4 = 0 →
        Go G (pI P) 223 17 [some (vR 34), some (vI x1), some (vI (bO x2 1)), some (vI (x3 + x5)), none, none, none, none] [] h2) ∧
        (¬ wI x4 = 0 →
        Go G (pI P) 223 17 [some (vR 34), some (vI x1), some (vI (bO x2 0)), some (vI (x3 + x5)), none, none, none, none] [] h2)))))))) :
  Go G (pI P) 223 176 [some (vR 34), some (vI x1), some (vI x2), some (vI x3), some (vI x4), some (vI x5), none, some (vI x7)] [vI s0] h := go1 ok223 900 H
set_option maxRecDepth 100000 in
theorem q_M_isDirectoryRight_c239 {G : GG} {P : Int → AH → Prop} {x1 x2 x3 x4 x5 : Int} {h : AH}
  (H : RunsV G 217 [vR 34] h (fun h1 =>
  RunsV G 208 [vR 34, vI x1, vI x3] h1 (fun h2 =>
  ((wI x4 = 0 →
    Go G (pI P) 223 17 [some (vR 34), some (vI x1), some (vI (bO x2 1)), some (vI (x3 + x5)), none, none, none, none] [] h2) ∧
    (¬ wI x4 = 0 →
    Go G (pI P) 223 17 [some (vR 34), some (vI x1), some (vI (bO x2 0)), some (vI (x3 + x5)), none, none, none, none] [] h2))))) :
  Go G (pI P) 223 239 [some (vR 34), some (vI x1), some (vI x2), some (vI x3), some (vI x4), some (vI x5), none, none] [] h := go1 ok223 900 H
-- Model.areSetsRight()Z  [34]
set_option maxRecDepth 100000 in
theorem q_M_areSetsRight {G : GG} {P : Int → AH → Prop} {h : AH}
  (H : RunsV G 209 [vR 34] h (fun h1 =>
  Go G (pI P) 224 6 [some (vR 34), some (vI 0)] [] h1)) :
  RunsI G 224 [vR 34] h P := runs_of (by decide) 1 rfl (go1 ok224 900 H)
set_option maxRecDepth 100000 in
theorem q_M_areSetsRight_c6 {G : GG} {P : Int → AH → Prop} {x1 : Int} {h : AH}
  (H : ((wI (h 34 34) ≤ wI x1 →
    (((1 : Int) = 0 ∨ (1 : Int) = 1) ∧ P 1 h)) ∧
    (¬ wI (h 34 34) ≤ wI x1 →
    ((0 ≤ wI x1 ∧ wI x1 < 200) ∧
    ((wI (h 45 (wI x1).toNat) = 0 →
      Go G (pI P) 224 6 [some (vR 34), some (vI (x1 + 1))] [] h) ∧
      (¬ wI (h 45 (wI x1).toNat) = 0 →
      RunsI G 223 [vR 34, vI x1] h (fun r1 h1 =>
      ((wI r1 = 0 →
        (((0 : Int) = 0 ∨ (0 : Int) = 1) ∧ P 0 h1)) ∧
        (¬ wI r1 = 0 →
        Go G (pI P) 224 6 [some (vR 34), some (vI (x1 + 1))] [] h1))))))))) :
  Go G (pI P) 224 6 [some (vR 34), some (vI x1)] [] h := go1 ok224 900 H
-- Model.mapOctet(I)I  [34]
set_option maxRecDepth 100000 in
theorem q_M_mapOctet {G : GG} {P : Int → AH → Prop} {x1 : Int} {h : AH}
  (H : Go G (pI P) 225 4 [some (vR 34), some (vI x1), some (vI 0), some (vI 0), none] [] h) :
  RunsI G 225 [vR 34, vI x1] h P := runs_of (by decide) 3 rfl (go1 ok225 900 H)
set_option maxRecDepth 100000 in
theorem q_M_mapOctet_c4 {G : GG} {P : Int → AH → Prop} {x1 x2 x3 : Int} {h : AH}
  (H : (((8 : Int) ≤ wI x3 →
    P x2 h) ∧
    (¬ (8 : Int) ≤ wI x3 →
    ((wI ((h 34 0) + 1) < wI (((8 * x1) + x3) + 2) →
      Go G (pI P) 225 4 [some (vR 34), some (vI x1), some (vI (bO x2 0)), some (vI (x3 + 1)), none] [] h) ∧
      (¬ wI ((h 34 0) + 1) < wI (((8 * x1) + x3) + 2) →
      ((0 ≤ wI (((8 * x1) + x3) + 2) ∧ wI (((8 * x1) + x3) + 2) < 102) ∧
      ((wI (h 37 (wI (((8 * x1) + x3) + 2)).toNat) = 0 →
        Go G (pI P) 225 4 [some (vR 34), some (vI x1), some (vI (bO x2 0)), some (vI (x3 + 1)), none] [] h) ∧
        (¬ wI (h 37 (wI (((8 * x1) + x3) + 2)).toNat) = 0 →
        Go G (pI P) 225 4 [some (vR 34), some (vI x1), some (vI (bO x2 (sLI 1 x3))), some (vI (x3 + 1)), none] [] h)))))))) :
  Go G (pI P) 225 4 [some (vR 34), some (vI x1), some (vI x2), some (vI x3), none] [] h := go1 ok225 900 H
-- Model.isMapRight()Z  [34]
set_option maxRecDepth 100000 in
theorem q_M_isMapRight {G : GG} {P : Int → AH → Prop} {h : AH}
  (H : Go G (pI P) 226 4 [some (vR 34), some (vI 1), some (vI 0)] [] h) :
  RunsI G 226 [vR 34] h P := runs_of (by decide) 2 rfl (go1 ok226 900 H)
set_option maxRecDepth 100000 in
theorem q_M_isMapRight_c4 {G : GG} {P : Int → AH → Prop} {x1 x2 : Int} {h : AH}
  (H : ((8 : Int) ≠ 0 ∧ ((wI (Int.tdiv (wI ((h 34 0) + 7)) 8) ≤ wI x2 →
    ((x1 = 0 ∨ x1 = 1) ∧ P x1 h)) ∧
    (¬ wI (Int.tdiv (wI ((h 34 0) + 7)) 8) ≤ wI x2 →
    RunsI G 169 [vI (h 34 2)] h (fun r1 h1 =>
    ((0 ≤ wI (r1 + x2) ∧ wI (r1 + x2) < 13824) ∧
    RunsI G 225 [vR 34, vI x2] h1 (fun r2 h2 =>
    ((wI (bA (h1 35 (wI (r1 + x2)).toNat) 255) = wI r2 →
      Go G (pI P) 226 4 [some (vR 34), some (vI (bA x1 1)), some (vI (x2 + 1))] [] h2) ∧
      (¬ wI (bA (h1 35 (wI (r1 + x2)).toNat) 255) = wI r2 →
      Go G (pI P) 226 4 [some (vR 34), some (vI (bA x1 0)), some (vI (x2 + 1))] [] h2))))))))) :
  Go G (pI P) 226 4 [some (vR 34), some (vI x1), some (vI x2)] [] h := go1 ok226 900 H
-- Model.mount()I  [34]
set_option maxRecDepth 100000 in
theorem q_M_mount {G : GG} {P : Int → AH → Prop} {h : AH}
  (H : ((wI (h 34 3) = 0 →
    (((0 : Int) = 0 ∨ (0 : Int) = 1) ∧ RunsI G 192 [vR 34] (hs h 34 35 0) (fun r1 h1 =>
    ((wI r1 = 0 →
      Go G (pI P) 227 34 [some (vR 34), none] [vI 0] h1) ∧
      (¬ wI r1 = 0 →
      RunsI G 224 [vR 34] h1 (fun r2 h2 =>
      ((wI r2 = 0 →
        Go G (pI P) 227 34 [some (vR 34), none] [vI 0] h2) ∧
        (¬ wI r2 = 0 →
        Go G (pI P) 227 34 [some (vR 34), none] [vI 1] h2)))))))) ∧
    (¬ wI (h 34 3) = 0 →
    P (-2) h))) :
  RunsI G 227 [vR 34] h P := runs_of (by decide) 1 rfl (go1 ok227 900 H)
set_option maxRecDepth 100000 in
theorem q_M_mount_c34 {G : GG} {P : Int → AH → Prop} {s0 : Int} {h : AH}
  (H : ((wI s0 = 0 →
    ((s0 = 0 ∨ s0 = 1) ∧ ((wI s0 = 0 →
      P ((-10) - ((hs h 34 3 s0) 34 9)) (hs h 34 3 s0)) ∧
      (¬ wI s0 = 0 →
      ((wI ((hs h 34 3 s0) 34 12) = 0 →
        P 1 (hs h 34 3 s0)) ∧
        (¬ wI ((hs h 34 3 s0) 34 12) = 0 →
        P 2 (hs h 34 3 s0))))))) ∧
    (¬ wI s0 = 0 →
    RunsI G 226 [vR 34] h (fun r1 h1 =>
    ((wI r1 = 0 →
      RunsI G 188 [vR 34, vI 9, vI 0, vI 0] h1 (fun r2 h2 =>
      ((r2 = 0 ∨ r2 = 1) ∧ ((wI r2 = 0 →
        P ((-10) - ((hs h2 34 3 r2) 34 9)) (hs h2 34 3 r2)) ∧
        (¬ wI r2 = 0 →
        ((wI ((hs h2 34 3 r2) 34 12) = 0 →
          P 1 (hs h2 34 3 r2)) ∧
          (¬ wI ((hs h2 34 3 r2) 34 12) = 0 →
          P 2 (hs h2 34 3 r2)))))))) ∧
      (¬ wI r1 = 0 →
      ((s0 = 0 ∨ s0 = 1) ∧ ((wI s0 = 0 →
        P ((-10) - ((hs h1 34 3 s0) 34 9)) (hs h1 34 3 s0)) ∧
        (¬ wI s0 = 0 →
        ((wI ((hs h1 34 3 s0) 34 12) = 0 →
          P 1 (hs h1 34 3 s0)) ∧
          (¬ wI ((hs h1 34 3 s0) 34 12) = 0 →
          P 2 (hs h1 34 3 s0)))))))))))) :
  Go G (pI P) 227 34 [some (vR 34), none] [vI s0] h := go1 ok227 900 H
-- Model.unmount()I  [34]
set_option maxRecDepth 100000 in
theorem q_M_unmount {G : GG} {P : Int → AH → Prop} {h : AH}
  (H : ((wI (h 34 3) = 0 →
    P (-2) h) ∧
    (¬ wI (h 34 3) = 0 →
    RunsI G 238 [vR 34] h (fun r1 h1 =>
    RunsV G 177 [vR 34] h1 (fun h2 =>
    ((0 ≤ (44 : Int) ∧ (44 : Int) < 13824) ∧
    ((0 ≤ (44 : Int) ∧ (44 : Int) < 13824) ∧
    (wI ((hs h2 36 44 (w8 (w8 (bA (h2 36 44) (-3))))) 34 0) ≠ 0 ∧ ((0 ≤ (49 : Int) ∧ (49 : Int) < 13824) ∧
    RunsI G 178 [vR 34] (hs (hs h2 36 44 (w8 (w8 (bA (h2 36 44) (-3))))) 36 49 (w8 (w8 (Int.tdiv (wI (100 * ((h 34 0) - r1))) (wI ((hs h2 36 44 (w8 (w8 (bA (h2 36 44) (-3))))) 34 0)))))) (fun r3 h3 =>
    (((0 : Int) = 0 ∨ (0 : Int) = 1) ∧ ((wI r3 = 0 →
      P (-7) (hs h3 34 3 0)) ∧
      (¬ wI r3 = 0 →
      P 1 (hs h3 34 3 0)))))))))))))) :
  RunsI G 228 [vR 34] h P := runs_of (by decide) 2 rfl (go1 ok228 900 H)
-- Model.mend()I  [34]
set_option maxRecDepth 100000 in
theorem q_M_mend {G : GG} {P : Int → AH → Prop} {h : AH}
  (H : ((wI (h 34 3) = 0 →
    (((1 : Int) = 0 ∨ (1 : Int) = 1) ∧ RunsI G 192 [vR 34] (hs (hs h 34 35 1) 34 36 0) (fun r1 h1 =>
    ((wI r1 = 0 →
      P ((-10) - (h1 34 9)) h1) ∧
      (¬ wI r1 = 0 →
      RunsV G 177 [vR 34] h1 (fun h2 =>
      ((wI (h2 34 12) = 0 →
        Go G (pI P) 229 87 [some (vR 34), none, none, none] [] h2) ∧
        (¬ wI (h2 34 12) = 0 →
        Go G (pI P) 229 48 [some (vR 34), some (vI 0), none, none] [] h2)))))))) ∧
    (¬ wI (h 34 3) = 0 →
    P (-2) h))) :
  RunsI G 229 [vR 34] h P := runs_of (by decide) 3 rfl (go1 ok229 900 H)
set_option maxRecDepth 100000 in
theorem q_M_mend_c48 {G : GG} {P : Int → AH → Prop} {x1 : Int} {h : AH}
  (H : (((256 : Int) ≤ wI x1 →
    RunsI G 178 [vR 34] h (fun r1 h1 =>
    ((wI r1 = 0 →
      P (-7) h1) ∧
      (¬ wI r1 = 0 →
      Go G (pI P) 229 87 [some (vR 34), none, none, none] [] h1)))) ∧
    (¬ (256 : Int) ≤ wI x1 →
    ((0 ≤ wI (256 + x1) ∧ wI (256 + x1) < 13824) ∧
    ((0 ≤ wI x1 ∧ wI x1 < 13824) ∧
    Go G (pI P) 229 48 [some (vR 34), some (vI (x1 + 1)), none, none] [] (hs h 36 (wI x1).toNat (w8 (h 35 (wI (256 + x1)).toNat)))))))) :
  Go G (pI P) 229 48 [some (vR 34), some (vI x1), none, none] [] h := go1 ok229 900 H
set_option maxRecDepth 100000 in
theorem q_M_mend_c87 {G : GG} {P : Int → AH → Prop} {h : AH}
  (H : RunsI G 224 [vR 34] h (fun r1 h1 =>
  RunsI G 178 [vR 34] h1 (fun r2 h2 =>
  ((wI r2 = 0 →
    P (-7) h2) ∧
    (¬ wI r2 = 0 →
    RunsI G 226 [vR 34] h2 (fun r3 h3 =>
    ((wI r3 = 0 →
      Go G (pI P) 229 117 [some (vR 34), none, some (vI 1), some (vI 0)] [] h3) ∧
      (¬ wI r3 = 0 →
      Go G (pI P) 229 117 [some (vR 34), none, some (vI 0), some (vI 0)] [] h3)))))))) :
  Go G (pI P) 229 87 [some (vR 34), none, none, none] [] h := go1 ok229 900 H
set_option maxRecDepth 100000 in
theorem q_M_mend_c117 {G : GG} {P : Int → AH → Prop} {x2 x3 : Int} {h : AH}
  (H : ((8 : Int) ≠ 0 ∧ ((wI (Int.tdiv (wI ((h 34 0) + 7)) 8) ≤ wI x3 →
    RunsI G 178 [vR 34] h (fun r1 h1 =>
    ((wI r1 = 0 →
      P (-7) h1) ∧
      (¬ wI r1 = 0 →
      P ((h1 34 36) + x2) h1)))) ∧
    (¬ wI (Int.tdiv (wI ((h 34 0) + 7)) 8) ≤ wI x3 →
    RunsI G 169 [vI (h 34 2)] h (fun r2 h2 =>
    RunsI G 225 [vR 34, vI x3] h2 (fun r3 h3 =>
    ((0 ≤ wI (r2 + x3) ∧ wI (r2 + x3) < 13824) ∧
    Go G (pI P) 229 117 [some (vR 34), none, some (vI x2), some (vI (x3 + 1))] [] (hs h3 36 (wI (r2 + x3)).toNat (w8 (w8 r3)))))))))) :
  Go G (pI P) 229 117 [some (vR 34), none, some (vI x2), some (vI x3)] [] h := go1 ok229 900 H
-- Model.letters(J)I  [34]
set_option maxRecDepth 100000 in
theorem q_M_letters {G : GG} {P : Int → AH → Prop} {y1 : Int} {h : AH}
  (H : Go G (pI P) 230 5 [some (vR 34), some (vL y1), none, some (vI 0), some (vI 0), none] [] h) :
  RunsI G 230 [vR 34, vL y1] h P := runs_of (by decide) 3 rfl (go1 ok230 900 H)
set_option maxRecDepth 100000 in
theorem q_M_letters_c5 {G : GG} {P : Int → AH → Prop} {y1 x3 x4 : Int} {h : AH}
  (H : (((4 : Int) ≤ wI x4 →
    ((wI ((h 34 41) + x3) ≤ (30 : Int) →
      Go G (pI P) 230 57 [some (vR 34), some (vL y1), none, none, some (vI 0), none] [] h) ∧
      (¬ wI ((h 34 41) + x3) ≤ (30 : Int) →
      P (-1) h))) ∧
    (¬ (4 : Int) ≤ wI x4 →
    ((wL (bAL (sRL y1 (16 * x4)) 65535) = (0 : Int) →
      Go G (pI P) 230 5 [some (vR 34), some (vL y1), none, some (vI (x3 + 0)), some (vI (x4 + 1)), none] [] h) ∧
      (¬ wL (bAL (sRL y1 (16 * x4)) 65535) = (0 : Int) →
      Go G (pI P) 230 5 [some (vR 34), some (vL y1), none, some (vI (x3 + 1)), some (vI (x4 + 1)), none] [] h))))) :
  Go G (pI P) 230 5 [some (vR 34), some (vL y1), none, some (vI x3), some (vI x4), none] [] h := go1 ok230 900 H
set_option maxRecDepth 100000 in
theorem q_M_letters_c57 {G : GG} {P : Int → AH → Prop} {y1 x4 : Int} {h : AH}
  (H : (((4 : Int) ≤ wI x4 →
    P (h 34 41) h) ∧
    (¬ (4 : Int) ≤ wI x4 →
    ((wI (bAL (sRL y1 (16 * x4)) 65535) = 0 →
      Go G (pI P) 230 57 [some (vR 34), some (vL y1), none, none, some (vI (x4 + 1)), none] [] h) ∧
      (¬ wI (bAL (sRL y1 (16 * x4)) 65535) = 0 →
      ((0 ≤ wI (h 34 41) ∧ wI (h 34 41) < 30) ∧
      Go G (pI P) 230 57 [some (vR 34), some (vL y1), none, none, some (vI (x4 + 1)), none] [] (hs (hs h 52 (wI (h 34 41)).toNat (bAL (sRL y1 (16 * x4)) 65535)) 34 41 (((hs h 52 (wI (h 34 41)).toNat (bAL (sRL y1 (16 * x4)) 65535)) 34 41) + 1)))))))) :
  Go G (pI P) 230 57 [some (vR 34), some (vL y1), none, none, some (vI x4), none] [] h := go1 ok230 900 H
-- Model.clear()I  [34]
set_option maxRecDepth 100000 in
theorem q_M_clear {G : GG} {P : Int → AH → Prop} {h : AH}
  (H : P (h 34 41) (hs h 34 41 0)) :
  RunsI G 231 [vR 34] h P := runs_of (by decide) 1 rfl (go1 ok231 900 H)
-- Model.clock(I)V  [34]
set_option maxRecDepth 100000 in
theorem q_M_clock {G : GG} {P : AH → Prop} {x1 : Int} {h : AH}
  (H : P (hs h 34 4 x1)) :
  RunsV G 232 [vR 34, vI x1] h P := runs_of (by decide) 0 rfl (go1 ok232 900 H)
-- Model.usedDraft()I  [34]
set_option maxRecDepth 100000 in
theorem q_M_usedDraft {G : GG} {P : Int → AH → Prop} {h : AH}
  (H : P (h 34 41) (hs h 34 41 0)) :
  RunsI G 233 [vR 34] h P := runs_of (by decide) 1 rfl (go1 ok233 900 H)
-- Model.like(II)I  [34]
set_option maxRecDepth 100000 in
theorem q_M_like {G : GG} {P : Int → AH → Prop} {x1 x2 : Int} {h : AH}
  (H : Go G (pI P) 234 7 [some (vR 34), some (vI x1), some (vI x2), some (vI 0)] [] (hs h 34 38 x2)) :
  RunsI G 234 [vR 34, vI x1, vI x2] h P := runs_of (by decide) 1 rfl (go1 ok234 900 H)
set_option maxRecDepth 100000 in
theorem q_M_like_c7 {G : GG} {P : Int → AH → Prop} {x1 x2 x3 : Int} {h : AH}
  (H : ((wI x2 ≤ wI x3 →
    RunsV G 210 [vR 34, vI x1] h (fun h1 =>
    Go G (pI P) 234 37 [some (vR 34), some (vI x1), none, some (vI 1)] [] h1)) ∧
    (¬ wI x2 ≤ wI x3 →
    ((0 ≤ wI x3 ∧ wI x3 < 30) ∧
    ((0 ≤ wI x3 ∧ wI x3 < 30) ∧
    Go G (pI P) 234 7 [some (vR 34), some (vI x1), some (vI x2), some (vI (x3 + 1))] [] (hs h 50 (wI x3).toNat (h 52 (wI x3).toNat))))))) :
  Go G (pI P) 234 7 [some (vR 34), some (vI x1), some (vI x2), some (vI x3)] [] h := go1 ok234 900 H
set_option maxRecDepth 100000 in
theorem q_M_like_c37 {G : GG} {P : Int → AH → Prop} {x1 x3 : Int} {h : AH}
  (H : ((wI (h 34 34) ≤ wI x3 →
    P (-9) h) ∧
    (¬ wI (h 34 34) ≤ wI x3 →
    ((0 ≤ wI x3 ∧ wI x3 < 200) ∧
    ((wI (h 42 (wI x3).toNat) = wI x1 →
      ((0 ≤ wI x3 ∧ wI x3 < 200) ∧
      RunsI G 219 [vR 34, vI (h 43 (wI x3).toNat)] h (fun r1 h1 =>
      ((wI r1 = 0 →
        Go G (pI P) 234 37 [some (vR 34), some (vI x1), none, some (vI (x3 + 1))] [] h1) ∧
        (¬ wI r1 = 0 →
        P x3 h1))))) ∧
      (¬ wI (h 42 (wI x3).toNat) = wI x1 →
      Go G (pI P) 234 37 [some (vR 34), some (vI x1), none, some (vI (x3 + 1))] [] h)))))) :
  Go G (pI P) 234 37 [some (vR 34), some (vI x1), none, some (vI x3)] [] h := go1 ok234 900 H
-- Model.look(I)I  [34]
set_option maxRecDepth 100000 in
theorem q_M_look {G : GG} {P : Int → AH → Prop} {x1 : Int} {h : AH}
  (H : RunsI G 233 [vR 34] h (fun r1 h1 =>
  ((wI (h1 34 3) = 0 →
    P (-2) h1) ∧
    (¬ wI (h1 34 3) = 0 →
    RunsI G 213 [vR 34, vI x1] h1 (fun r2 h2 =>
    ((wI r2 = ((-9) : Int) →
      P (-1) h2) ∧
      (¬ wI r2 = ((-9) : Int) →
      RunsI G 202 [vR 52, vI r1] h2 (fun r3 h3 =>
      ((wI r3 = 0 →
        P (-3) h3) ∧
        (¬ wI r3 = 0 →
        RunsI G 234 [vR 34, vI r2, vI r1] h3 (fun r4 h4 =>
        ((wI r4 = ((-9) : Int) →
          P (-9) h4) ∧
          (¬ wI r4 = ((-9) : Int) →
          ((0 ≤ wI r4 ∧ wI r4 < 200) ∧
          P (h4 41 (wI r4).toNat) h4)))))))))))))) :
  RunsI G 235 [vR 34, vI x1] h P := runs_of (by decide) 3 rfl (go1 ok235 900 H)
-- Model.list(II)I  [34]
set_option maxRecDepth 100000 in
theorem q_M_list {G : GG} {P : Int → AH → Prop} {x1 x2 : Int} {h : AH}
  (H : ((wI (h 34 3) = 0 →
    P (-2) h) ∧
    (¬ wI (h 34 3) = 0 →
    RunsI G 213 [vR 34, vI x1] h (fun r1 h1 =>
    ((wI r1 = ((-9) : Int) →
      P (-1) h1) ∧
      (¬ wI r1 = ((-9) : Int) →
      Go G (pI P) 236 30 [some (vR 34), none, none, some (vI r1), some (vI x2), some (vI 1)] [] h1)))))) :
  RunsI G 236 [vR 34, vI x1, vI x2] h P := runs_of (by decide) 3 rfl (go1 ok236 900 H)
set_option maxRecDepth 100000 in
theorem q_M_list_c30 {G : GG} {P : Int → AH → Prop} {x3 x4 x5 : Int} {h : AH}
  (H : ((wI (h 34 34) ≤ wI x5 →
    P (-9) h) ∧
    (¬ wI (h 34 34) ≤ wI x5 →
    ((wI x4 < 0 →
      P (-9) h) ∧
      (¬ wI x4 < 0 →
      ((0 ≤ wI x5 ∧ wI x5 < 200) ∧
      ((wI (h 42 (wI x5).toNat) = wI x3 →
        ((wI x4 = 0 →
          ((0 ≤ wI x5 ∧ wI x5 < 200) ∧
          P (h 41 (wI x5).toNat) h)) ∧
          (¬ wI x4 = 0 →
          Go G (pI P) 236 30 [some (vR 34), none, none, some (vI x3), some (vI (x4 + (-1))), some (vI (x5 + 1))] [] h))) ∧
        (¬ wI (h 42 (wI x5).toNat) = wI x3 →
        Go G (pI P) 236 30 [some (vR 34), none, none, some (vI x3), some (vI x4), some (vI (x5 + 1))] [] h)))))))) :
  Go G (pI P) 236 30 [some (vR 34), none, none, some (vI x3), some (vI x4), some (vI x5)] [] h := go1 ok236 900 H
-- Model.isFree(I)Z  [34]
set_option maxRecDepth 100000 in
theorem q_M_isFree {G : GG} {P : Int → AH → Prop} {x1 : Int} {h : AH}
  (H : RunsI G 166 [vL (wI x1), vL 2, vL (wI ((h 34 0) + 1))] h (fun r1 h1 =>
  ((wI r1 = 0 →
    (((0 : Int) = 0 ∨ (0 : Int) = 1) ∧ P 0 h1)) ∧
    (¬ wI r1 = 0 →
    RunsI G 173 [vR 34, vR 35, vI x1] h1 (fun r2 h2 =>
    ((wI r2 = 0 →
      ((0 ≤ wI x1 ∧ wI x1 < 102) ∧
      ((wI (h2 59 (wI x1).toNat) = 0 →
        (((1 : Int) = 0 ∨ (1 : Int) = 1) ∧ P 1 h2)) ∧
        (¬ wI (h2 59 (wI x1).toNat) = 0 →
        (((0 : Int) = 0 ∨ (0 : Int) = 1) ∧ P 0 h2))))) ∧
      (¬ wI r2 = 0 →
      (((0 : Int) = 0 ∨ (0 : Int) = 1) ∧ P 0 h2)))))))) :
  RunsI G 237 [vR 34, vI x1] h P := runs_of (by decide) 0 rfl (go1 ok237 900 H)
-- Model.freeMany()I  [34]
set_option maxRecDepth 100000 in
theorem q_M_freeMany {G : GG} {P : Int → AH → Prop} {h : AH}
  (H : Go G (pI P) 238 4 [some (vR 34), some (vI 0), some (vI 2)] [] h) :
  RunsI G 238 [vR 34] h P := runs_of (by decide) 2 rfl (go1 ok238 900 H)
set_option maxRecDepth 100000 in
theorem q_M_freeMany_c4 {G : GG} {P : Int → AH → Prop} {x1 x2 : Int} {h : AH}
  (H : ((wI ((h 34 0) + 1) < wI x2 →
    P x1 h) ∧
    (¬ wI ((h 34 0) + 1) < wI x2 →
    RunsI G 173 [vR 34, vR 35, vI x2] h (fun r1 h1 =>
    ((wI r1 = 0 →
      Go G (pI P) 238 4 [some (vR 34), some (vI (x1 + 1)), some (vI (x2 + 1))] [] h1) ∧
      (¬ wI r1 = 0 →
      Go G (pI P) 238 4 [some (vR 34), some (vI (x1 + 0)), some (vI (x2 + 1))] [] h1)))))) :
  Go G (pI P) 238 4 [some (vR 34), some (vI x1), some (vI x2)] [] h := go1 ok238 900 H
-- Model.noPlans()V  [34]
set_option maxRecDepth 100000 in
theorem q_M_noPlans {G : GG} {P : AH → Prop} {h : AH}
  (H : Go G (pV P) 239 2 [some (vR 34), some (vI 0)] [] h) :
  RunsV G 239 [vR 34] h P := runs_of (by decide) 1 rfl (go1 ok239 900 H)
set_option maxRecDepth 100000 in
theorem q_M_noPlans_c2 {G : GG} {P : AH → Prop} {x1 : Int} {h : AH}
  (H : (((102 : Int) ≤ wI x1 →
    Go G (pV P) 239 23 [some (vR 34), some (vI 0)] [] h) ∧
    (¬ (102 : Int) ≤ wI x1 →
    ((0 ≤ wI x1 ∧ wI x1 < 102) ∧
    (((0 : Int) = 0 ∨ (0 : Int) = 1) ∧ Go G (pV P) 239 2 [some (vR 34), some (vI (x1 + 1))] [] (hs h 59 (wI x1).toNat 0)))))) :
  Go G (pV P) 239 2 [some (vR 34), some (vI x1)] [] h := go1 ok239 900 H
set_option maxRecDepth 100000 in
theorem q_M_noPlans_c23 {G : GG} {P : AH → Prop} {x1 : Int} {h : AH}
  (H : (((2 : Int) ≤ wI x1 →
    P h) ∧
    (¬ (2 : Int) ≤ wI x1 →
    ((0 ≤ wI x1 ∧ wI x1 < 2) ∧
    ((0 ≤ wI x1 ∧ wI x1 < 2) ∧
    ((0 ≤ wI x1 ∧ wI x1 < 2) ∧
    (((0 : Int) = 0 ∨ (0 : Int) = 1) ∧ ((0 ≤ wI x1 ∧ wI x1 < 2) ∧
    (((0 : Int) = 0 ∨ (0 : Int) = 1) ∧ Go G (pV P) 239 23 [some (vR 34), some (vI (x1 + 1))] [] (hs (hs (hs (hs h 54 (wI x1).toNat 0) 56 (wI x1).toNat 0) 57 (wI x1).toNat 0) 58 (wI x1).toNat 0)))))))))) :
  Go G (pV P) 239 23 [some (vR 34), some (vI x1)] [] h := go1 ok239 900 H
-- Model.planFor(II)V  [34]
set_option maxRecDepth 100000 in
theorem q_M_planFor {G : GG} {P : AH → Prop} {x1 x2 : Int} {h : AH}
  (H : RunsV G 210 [vR 34, vI x2] h (fun h1 =>
  ((0 ≤ wI x1 ∧ wI x1 < 2) ∧
  Go G (pV P) 240 17 [some (vR 34), some (vI x1), some (vI x2), some (vI 0)] [] (hs h1 54 (wI x1).toNat (h1 34 17))))) :
  RunsV G 240 [vR 34, vI x1, vI x2] h P := runs_of (by decide) 1 rfl (go1 ok240 900 H)
set_option maxRecDepth 100000 in
theorem q_M_planFor_c17 {G : GG} {P : AH → Prop} {x1 x2 x3 : Int} {h : AH}
  (H : ((wI (h 34 17) ≤ wI x3 →
    ((0 ≤ wI x2 ∧ wI x2 < 200) ∧
    ((0 ≤ wI x1 ∧ wI x1 < 2) ∧
    (((h 46 (wI x2).toNat) = 0 ∨ (h 46 (wI x2).toNat) = 1) ∧ ((0 ≤ wI x2 ∧ wI x2 < 200) ∧
    ((0 ≤ wI x1 ∧ wI x1 < 2) ∧
    ((((hs h 57 (wI x1).toNat (h 46 (wI x2).toNat)) 46 (wI x2).toNat) = 0 ∨ ((hs h 57 (wI x1).toNat (h 46 (wI x2).toNat)) 46 (wI x2).toNat) = 1) ∧ P (hs (hs h 57 (wI x1).toNat (h 46 (wI x2).toNat)) 58 (wI x1).toNat ((hs h 57 (wI x1).toNat (h 46 (wI x2).toNat)) 46 (wI x2).toNat))))))))) ∧
    (¬ wI (h 34 17) ≤ wI x3 →
    ((0 ≤ wI x3 ∧ wI x3 < 102) ∧
    ((0 ≤ wI ((102 * x1) + x3) ∧ wI ((102 * x1) + x3) < 204) ∧
    Go G (pV P) 240 17 [some (vR 34), some (vI x1), some (vI x2), some (vI (x3 + 1))] [] (hs h 53 (wI ((102 * x1) + x3)).toNat (h 39 (wI x3).toNat))))))) :
  Go G (pV P) 240 17 [some (vR 34), some (vI x1), some (vI x2), some (vI x3)] [] h := go1 ok240 900 H
-- Model.reserve(II)V  [34]
set_option maxRecDepth 100000 in
theorem q_M_reserve {G : GG} {P : AH → Prop} {x1 x2 : Int} {h : AH}
  (H : ((0 ≤ wI x1 ∧ wI x1 < 2) ∧
  ((0 ≤ wI ((102 * x1) + (h 56 (wI x1).toNat)) ∧ wI ((102 * x1) + (h 56 (wI x1).toNat)) < 204) ∧
  ((0 ≤ wI x1 ∧ wI x1 < 2) ∧
  ((0 ≤ wI x1 ∧ wI x1 < 2) ∧
  ((0 ≤ wI x2 ∧ wI x2 < 102) ∧
  (((1 : Int) = 0 ∨ (1 : Int) = 1) ∧ P (hs (hs (hs h 55 (wI ((102 * x1) + (h 56 (wI x1).toNat))).toNat x2) 56 (wI x1).toNat (((hs h 55 (wI ((102 * x1) + (h 56 (wI x1).toNat))).toNat x2) 56 (wI x1).toNat) + 1)) 59 (wI x2).toNat 1)))))))) :
  RunsV G 241 [vR 34, vI x1, vI x2] h P := runs_of (by decide) 0 rfl (go1 ok241 900 H)
-- Model.areFree(II)Z  [34]
set_option maxRecDepth 100000 in
theorem q_M_areFree {G : GG} {P : Int → AH → Prop} {x1 x2 : Int} {h : AH}
  (H : Go G (pI P) 242 5 [some (vR 34), some (vI x1), some (vI x2), some (vI 1), some (vI 0)] [] h) :
  RunsI G 242 [vR 34, vI x1, vI x2] h P := runs_of (by decide) 2 rfl (go1 ok242 900 H)
set_option maxRecDepth 100000 in
theorem q_M_areFree_c5 {G : GG} {P : Int → AH → Prop} {x1 x2 x3 x4 : Int} {h : AH}
  (H : ((wI x2 ≤ wI x4 →
    ((x3 = 0 ∨ x3 = 1) ∧ P x3 h)) ∧
    (¬ wI x2 ≤ wI x4 →
    ((wI x3 = 0 →
      ((x3 = 0 ∨ x3 = 1) ∧ P x3 h)) ∧
      (¬ wI x3 = 0 →
      RunsI G 237 [vR 34, vI (x1 + x4)] h (fun r1 h1 =>
      Go G (pI P) 242 5 [some (vR 34), some (vI x1), some (vI x2), some (vI r1), some (vI (x4 + 1))] [] h1)))))) :
  Go G (pI P) 242 5 [some (vR 34), some (vI x1), some (vI x2), some (vI x3), some (vI x4)] [] h := go1 ok242 900 H
-- Model.plans(II)Z  [34]
set_option maxRecDepth 100000 in
theorem q_M_plans {G : GG} {P : Int → AH → Prop} {x1 x2 : Int} {h : AH}
  (H : Go G (pI P) 243 5 [some (vR 34), some (vI x1), some (vI x2), some (vI 0), some (vI 2), none, none] [] h) :
  RunsI G 243 [vR 34, vI x1, vI x2] h P := runs_of (by decide) 4 rfl (go1 ok243 900 H)
set_option maxRecDepth 100000 in
theorem q_M_plans_c5 {G : GG} {P : Int → AH → Prop} {x1 x2 x3 x4 : Int} {h : AH}
  (H : ((wI ((h 34 0) + 1) < wI x4 →
    ((wI x2 ≤ wI x3 →
      ((0 ≤ wI x1 ∧ wI x1 < 2) ∧
      ((wI (h 54 (wI x1).toNat) = 0 →
        Go G (pI P) 243 67 [some (vR 34), some (vI x1), some (vI x2), none, some (vI (-9)), some (vI ((h 34 0) + 1)), none] [] h) ∧
        (¬ wI (h 54 (wI x1).toNat) = 0 →
        ((0 ≤ wI x1 ∧ wI x1 < 2) ∧
        ((wI (h 57 (wI x1).toNat) = 0 →
          Go G (pI P) 243 160 [some (vR 34), some (vI x1), some (vI x2), none, some (vI (-9)), none, none] [] h) ∧
          (¬ wI (h 57 (wI x1).toNat) = 0 →
          ((0 ≤ wI x1 ∧ wI x1 < 2) ∧
          ((0 ≤ wI (((102 * x1) + (h 54 (wI x1).toNat)) - 1) ∧ wI (((102 * x1) + (h 54 (wI x1).toNat)) - 1) < 204) ∧
          RunsI G 242 [vR 34, vI ((h 53 (wI (((102 * x1) + (h 54 (wI x1).toNat)) - 1)).toNat) + 1), vI x2] h (fun r1 h1 =>
          ((wI r1 = 0 →
            Go G (pI P) 243 160 [some (vR 34), some (vI x1), some (vI x2), none, some (vI (-9)), none, none] [] h1) ∧
            (¬ wI r1 = 0 →
            ((0 ≤ wI x1 ∧ wI x1 < 2) ∧
            ((0 ≤ wI (((102 * x1) + (h1 54 (wI x1).toNat)) - 1) ∧ wI (((102 * x1) + (h1 54 (wI x1).toNat)) - 1) < 204) ∧
            Go G (pI P) 243 160 [some (vR 34), some (vI x1), some (vI x2), none, some (vI ((h1 53 (wI (((102 * x1) + (h1 54 (wI x1).toNat)) - 1)).toNat) + 1)), none, none] [] h1)))))))))))))) ∧
      (¬ wI x2 ≤ wI x3 →
      (((0 : Int) = 0 ∨ (0 : Int) = 1) ∧ P 0 h)))) ∧
    (¬ wI ((h 34 0) + 1) < wI x4 →
    RunsI G 237 [vR 34, vI x4] h (fun r2 h2 =>
    ((wI r2 = 0 →
      Go G (pI P) 243 5 [some (vR 34), some (vI x1), some (vI x2), some (vI (x3 + 0)), some (vI (x4 + 1)), none, none] [] h2) ∧
      (¬ wI r2 = 0 →
      Go G (pI P) 243 5 [some (vR 34), some (vI x1), some (vI x2), some (vI (x3 + 1)), some (vI (x4 + 1)), none, none] [] h2)))))) :
  Go G (pI P) 243 5 [some (vR 34), some (vI x1), some (vI x2), some (vI x3), some (vI x4), none, none] [] h := go1 ok243 900 H
set_option maxRecDepth 100000 in
theorem q_M_plans_c67 {G : GG} {P : Int → AH → Prop} {x1 x2 x4 x5 : Int} {h : AH}
  (H : ((wI x5 < (2 : Int) →
    Go G (pI P) 243 160 [some (vR 34), some (vI x1), some (vI x2), none, some (vI x4), none, none] [] h) ∧
    (¬ wI x5 < (2 : Int) →
    RunsI G 242 [vR 34, vI x5, vI x2] h (fun r1 h1 =>
    ((wI r1 = 0 →
      Go G (pI P) 243 67 [some (vR 34), some (vI x1), some (vI x2), none, some (vI x4), some (vI (x5 + (-1))), none] [] h1) ∧
      (¬ wI r1 = 0 →
      Go G (pI P) 243 67 [some (vR 34), some (vI x1), some (vI x2), none, some (vI x5), some (vI (x5 + (-1))), none] [] h1)))))) :
  Go G (pI P) 243 67 [some (vR 34), some (vI x1), some (vI x2), none, some (vI x4), some (vI x5), none] [] h := go1 ok243 900 H
set_option maxRecDepth 100000 in
theorem q_M_plans_c160 {G : GG} {P : Int → AH → Prop} {x1 x2 x4 : Int} {h : AH}
  (H : ((wI x4 = ((-9) : Int) →
    ((0 ≤ wI x1 ∧ wI x1 < 2) ∧
    (((0 : Int) = 0 ∨ (0 : Int) = 1) ∧ Go G (pI P) 243 181 [some (vR 34), some (vI x1), some (vI x2), none, some (vI x4), some (vI 0), none] [] (hs h 58 (wI x1).toNat 0)))) ∧
    (¬ wI x4 = ((-9) : Int) →
    ((0 ≤ wI x1 ∧ wI x1 < 2) ∧
    (((1 : Int) = 0 ∨ (1 : Int) = 1) ∧ Go G (pI P) 243 181 [some (vR 34), some (vI x1), some (vI x2), none, some (vI x4), some (vI 0), none] [] (hs h 58 (wI x1).toNat 1)))))) :
  Go G (pI P) 243 160 [some (vR 34), some (vI x1), some (vI x2), none, some (vI x4), none, none] [] h := go1 ok243 900 H
set_option maxRecDepth 100000 in
theorem q_M_plans_c181 {G : GG} {P : Int → AH → Prop} {x1 x2 x4 x5 : Int} {h : AH}
  (H : ((wI x2 ≤ wI x5 →
    (((1 : Int) = 0 ∨ (1 : Int) = 1) ∧ P 1 h)) ∧
    (¬ wI x2 ≤ wI x5 →
    ((wI x4 = ((-9) : Int) →
      Go G (pI P) 243 204 [some (vR 34), some (vI x1), some (vI x2), none, some (vI x4), some (vI x5), some (vI 2)] [] h) ∧
      (¬ wI x4 = ((-9) : Int) →
      RunsV G 241 [vR 34, vI x1, vI (x4 + x5)] h (fun h1 =>
      Go G (pI P) 243 181 [some (vR 34), some (vI x1), some (vI x2), none, some (vI x4), some (vI (x5 + 1)), none] [] h1)))))) :
  Go G (pI P) 243 181 [some (vR 34), some (vI x1), some (vI x2), none, some (vI x4), some (vI x5), none] [] h := go1 ok243 900 H
set_option maxRecDepth 100000 in
theorem q_M_plans_c204 {G : GG} {P : Int → AH → Prop} {x1 x2 x4 x5 x6 : Int} {h : AH}
  (H : RunsI G 237 [vR 34, vI x6] h (fun r1 h1 =>
  ((wI r1 = 0 →
    Go G (pI P) 243 204 [some (vR 34), some (vI x1), some (vI x2), none, some (vI x4), some (vI x5), some (vI (x6 + 1))] [] h1) ∧
    (¬ wI r1 = 0 →
    RunsV G 241 [vR 34, vI x1, vI x6] h1 (fun h2 =>
    Go G (pI P) 243 181 [some (vR 34), some (vI x1), some (vI x2), none, some (vI x4), some (vI (x5 + 1)), none] [] h2))))) :
  Go G (pI P) 243 204 [some (vR 34), some (vI x1), some (vI x2), none, some (vI x4), some (vI x5), some (vI x6)] [] h := go1 ok243 900 H
-- Model.wantChain(I)V  [34]
set_option maxRecDepth 100000 in
theorem q_M_wantChain {G : GG} {P : AH → Prop} {x1 : Int} {h : AH}
  (H : ((0 ≤ wI x1 ∧ wI x1 < 2) ∧
  ((wI (h 56 (wI x1).toNat) = 0 →
    P h) ∧
    (¬ wI (h 56 (wI x1).toNat) = 0 →
    ((0 ≤ wI x1 ∧ wI x1 < 2) ∧
    ((wI (h 58 (wI x1).toNat) = 0 →
      Go G (pV P) 244 21 [some (vR 34), some (vI x1), some (vI 0)] [] h) ∧
      (¬ wI (h 58 (wI x1).toNat) = 0 →
      P h))))))) :
  RunsV G 244 [vR 34, vI x1] h P := runs_of (by decide) 1 rfl (go1 ok244 900 H)
set_option maxRecDepth 100000 in
theorem q_M_wantChain_c21 {G : GG} {P : AH → Prop} {x1 x2 : Int} {h : AH}
  (H : ((0 ≤ wI x1 ∧ wI x1 < 2) ∧
  ((wI (h 54 (wI x1).toNat) ≤ wI (x2 + 1) →
    Go G (pV P) 244 79 [some (vR 34), some (vI x1), some (vI 0)] [] h) ∧
    (¬ wI (h 54 (wI x1).toNat) ≤ wI (x2 + 1) →
    ((0 ≤ wI x1 ∧ wI x1 < 2) ∧
    ((wI (h 57 (wI x1).toNat) = 0 →
      Go G (pV P) 244 79 [some (vR 34), some (vI x1), some (vI 0)] [] h) ∧
      (¬ wI (h 57 (wI x1).toNat) = 0 →
      ((0 ≤ wI ((102 * x1) + x2) ∧ wI ((102 * x1) + x2) < 204) ∧
      ((0 ≤ wI (((102 * x1) + x2) + 1) ∧ wI (((102 * x1) + x2) + 1) < 204) ∧
      RunsV G 172 [vR 34, vI (h 53 (wI ((102 * x1) + x2)).toNat), vL (wI (h 53 (wI (((102 * x1) + x2) + 1)).toNat))] h (fun h1 =>
      Go G (pV P) 244 21 [some (vR 34), some (vI x1), some (vI (x2 + 1))] [] h1)))))))))) :
  Go G (pV P) 244 21 [some (vR 34), some (vI x1), some (vI x2)] [] h := go1 ok244 900 H
set_option maxRecDepth 100000 in
theorem q_M_wantChain_c79 {G : GG} {P : AH → Prop} {x1 x2 : Int} {h : AH}
  (H : ((0 ≤ wI x1 ∧ wI x1 < 2) ∧
  ((wI (h 56 (wI x1).toNat) ≤ wI x2 →
    P h) ∧
    (¬ wI (h 56 (wI x1).toNat) ≤ wI x2 →
    ((0 ≤ wI ((102 * x1) + x2) ∧ wI ((102 * x1) + x2) < 204) ∧
    ((0 ≤ wI x1 ∧ wI x1 < 2) ∧
    ((wI (h 56 (wI x1).toNat) ≤ wI (x2 + 1) →
      RunsV G 172 [vR 34, vI (h 55 (wI ((102 * x1) + x2)).toNat), vL 4294967295] h (fun h1 =>
      Go G (pV P) 244 79 [some (vR 34), some (vI x1), some (vI (x2 + 1))] [] h1)) ∧
      (¬ wI (h 56 (wI x1).toNat) ≤ wI (x2 + 1) →
      ((0 ≤ wI (((102 * x1) + x2) + 1) ∧ wI (((102 * x1) + x2) + 1) < 204) ∧
      RunsV G 172 [vR 34, vI (h 55 (wI ((102 * x1) + x2)).toNat), vL (wI (h 55 (wI (((102 * x1) + x2) + 1)).toNat))] h (fun h2 =>
      Go G (pV P) 244 79 [some (vR 34), some (vI x1), some (vI (x2 + 1))] [] h2)))))))))) :
  Go G (pV P) 244 79 [some (vR 34), some (vI x1), some (vI x2)] [] h := go1 ok244 900 H
-- Model.wantJoint(I)V  [34]
set_option maxRecDepth 100000 in
theorem q_M_wantJoint {G : GG} {P : AH → Prop} {x1 : Int} {h : AH}
  (H : ((0 ≤ wI x1 ∧ wI x1 < 2) ∧
  ((wI (h 56 (wI x1).toNat) ≤ 0 →
    P h) ∧
    (¬ wI (h 56 (wI x1).toNat) ≤ 0 →
    ((0 ≤ wI x1 ∧ wI x1 < 2) ∧
    ((wI (h 54 (wI x1).toNat) ≤ 0 →
      P h) ∧
      (¬ wI (h 54 (wI x1).toNat) ≤ 0 →
      ((0 ≤ wI x1 ∧ wI x1 < 2) ∧
      ((wI (h 58 (wI x1).toNat) = 0 →
        ((0 ≤ wI x1 ∧ wI x1 < 2) ∧
        ((0 ≤ wI (((102 * x1) + (h 54 (wI x1).toNat)) - 1) ∧ wI (((102 * x1) + (h 54 (wI x1).toNat)) - 1) < 204) ∧
        ((0 ≤ wI (102 * x1) ∧ wI (102 * x1) < 204) ∧
        RunsV G 172 [vR 34, vI (h 53 (wI (((102 * x1) + (h 54 (wI x1).toNat)) - 1)).toNat), vL (wI (h 55 (wI (102 * x1)).toNat))] h (fun h1 =>
        P h1))))) ∧
        (¬ wI (h 58 (wI x1).toNat) = 0 →
        P h)))))))))) :
  RunsV G 245 [vR 34, vI x1] h P := runs_of (by decide) 0 rfl (go1 ok245 900 H)
-- Model.chains()Z  [34]
set_option maxRecDepth 100000 in
theorem q_M_chains {G : GG} {P : Int → AH → Prop} {h : AH}
  (H : RunsV G 244 [vR 34, vI 0] h (fun h1 =>
  RunsV G 244 [vR 34, vI 1] h1 (fun h2 =>
  RunsI G 178 [vR 34] h2 (fun r3 h3 =>
  ((wI r3 = 0 →
    (((0 : Int) = 0 ∨ (0 : Int) = 1) ∧ P 0 h3)) ∧
    (¬ wI r3 = 0 →
    RunsV G 245 [vR 34, vI 0] h3 (fun h4 =>
    RunsV G 245 [vR 34, vI 1] h4 (fun h5 =>
    RunsI G 178 [vR 34] h5 (fun r6 h6 =>
    ((r6 = 0 ∨ r6 = 1) ∧ P r6 h6)))))))))) :
  RunsI G 246 [vR 34] h P := runs_of (by decide) 0 rfl (go1 ok246 900 H)
-- Model.wantTaken(I)V  [34]
set_option maxRecDepth 100000 in
theorem q_M_wantTaken {G : GG} {P : AH → Prop} {x1 : Int} {h : AH}
  (H : Go G (pV P) 247 2 [some (vR 34), some (vI x1), some (vI 0)] [] h) :
  RunsV G 247 [vR 34, vI x1] h P := runs_of (by decide) 1 rfl (go1 ok247 900 H)
set_option maxRecDepth 100000 in
theorem q_M_wantTaken_c2 {G : GG} {P : AH → Prop} {x1 x2 : Int} {h : AH}
  (H : ((0 ≤ wI x1 ∧ wI x1 < 2) ∧
  ((wI (h 56 (wI x1).toNat) ≤ wI x2 →
    P h) ∧
    (¬ wI (h 56 (wI x1).toNat) ≤ wI x2 →
    ((0 ≤ wI ((102 * x1) + x2) ∧ wI ((102 * x1) + x2) < 204) ∧
    RunsV G 174 [vR 34, vI (h 55 (wI ((102 * x1) + x2)).toNat), vI 1] h (fun h1 =>
    Go G (pV P) 247 2 [some (vR 34), some (vI x1), some (vI (x2 + 1))] [] h1)))))) :
  Go G (pV P) 247 2 [some (vR 34), some (vI x1), some (vI x2)] [] h := go1 ok247 900 H
-- Model.plannedAt(II)I  [34]
set_option maxRecDepth 100000 in
theorem q_M_plannedAt {G : GG} {P : Int → AH → Prop} {x1 x2 : Int} {h : AH}
  (H : ((0 ≤ wI x1 ∧ wI x1 < 2) ∧
  ((wI (h 54 (wI x1).toNat) ≤ wI x2 →
    ((0 ≤ wI x1 ∧ wI x1 < 2) ∧
    ((0 ≤ wI (((102 * x1) + x2) - (h 54 (wI x1).toNat)) ∧ wI (((102 * x1) + x2) - (h 54 (wI x1).toNat)) < 204) ∧
    P (h 55 (wI (((102 * x1) + x2) - (h 54 (wI x1).toNat))).toNat) h))) ∧
    (¬ wI (h 54 (wI x1).toNat) ≤ wI x2 →
    ((0 ≤ wI ((102 * x1) + x2) ∧ wI ((102 * x1) + x2) < 204) ∧
    P (h 53 (wI ((102 * x1) + x2)).toNat) h))))) :
  RunsI G 248 [vR 34, vI x1, vI x2] h P := runs_of (by decide) 0 rfl (go1 ok248 900 H)
-- Model.emptyNew(I)V  [34]
set_option maxRecDepth 100000 in
theorem q_M_emptyNew {G : GG} {P : AH → Prop} {x1 : Int} {h : AH}
  (H : Go G (pV P) 249 2 [some (vR 34), some (vI x1), some (vI 0), none] [] h) :
  RunsV G 249 [vR 34, vI x1] h P := runs_of (by decide) 2 rfl (go1 ok249 900 H)
set_option maxRecDepth 100000 in
theorem q_M_emptyNew_c2 {G : GG} {P : AH → Prop} {x1 x2 : Int} {h : AH}
  (H : ((0 ≤ wI x1 ∧ wI x1 < 2) ∧
  ((wI (h 56 (wI x1).toNat) ≤ wI x2 →
    P h) ∧
    (¬ wI (h 56 (wI x1).toNat) ≤ wI x2 →
    Go G (pV P) 249 14 [some (vR 34), some (vI x1), some (vI x2), some (vI 0)] [] h)))) :
  Go G (pV P) 249 2 [some (vR 34), some (vI x1), some (vI x2), none] [] h := go1 ok249 900 H
set_option maxRecDepth 100000 in
theorem q_M_emptyNew_c14 {G : GG} {P : AH → Prop} {x1 x2 x3 : Int} {h : AH}
  (H : (((128 : Int) ≤ wI x3 →
    Go G (pV P) 249 2 [some (vR 34), some (vI x1), some (vI (x2 + 1)), none] [] h) ∧
    (¬ (128 : Int) ≤ wI x3 →
    ((0 ≤ wI ((102 * x1) + x2) ∧ wI ((102 * x1) + x2) < 204) ∧
    RunsI G 169 [vI (h 55 (wI ((102 * x1) + x2)).toNat)] h (fun r1 h1 =>
    ((0 ≤ wI (r1 + x3) ∧ wI (r1 + x3) < 13824) ∧
    Go G (pV P) 249 14 [some (vR 34), some (vI x1), some (vI x2), some (vI (x3 + 1))] [] (hs h1 36 (wI (r1 + x3)).toNat (w8 0)))))))) :
  Go G (pV P) 249 14 [some (vR 34), some (vI x1), some (vI x2), some (vI x3)] [] h := go1 ok249 900 H
-- Model.rowOfPlan(I)V  [34]
set_option maxRecDepth 100000 in
theorem q_M_rowOfPlan {G : GG} {P : AH → Prop} {x1 : Int} {h : AH}
  (H : ((0 ≤ wI x1 ∧ wI x1 < 2) ∧
  ((0 ≤ wI x1 ∧ wI x1 < 2) ∧
  Go G (pV P) 250 19 [some (vR 34), some (vI x1), some (vI 0)] [] (hs h 34 17 ((h 54 (wI x1).toNat) + (h 56 (wI x1).toNat)))))) :
  RunsV G 250 [vR 34, vI x1] h P := runs_of (by decide) 1 rfl (go1 ok250 900 H)
set_option maxRecDepth 100000 in
theorem q_M_rowOfPlan_c19 {G : GG} {P : AH → Prop} {x1 x2 : Int} {h : AH}
  (H : ((wI (h 34 17) ≤ wI x2 →
    P h) ∧
    (¬ wI (h 34 17) ≤ wI x2 →
    RunsI G 248 [vR 34, vI x1, vI x2] h (fun r1 h1 =>
    ((0 ≤ wI x2 ∧ wI x2 < 102) ∧
    Go G (pV P) 250 19 [some (vR 34), some (vI x1), some (vI (x2 + 1))] [] (hs h1 39 (wI x2).toNat r1)))))) :
  Go G (pV P) 250 19 [some (vR 34), some (vI x1), some (vI x2)] [] h := go1 ok250 900 H
-- Model.wantedType(I)I  [34]
set_option maxRecDepth 100000 in
theorem q_M_wantedType {G : GG} {P : Int → AH → Prop} {x1 : Int} {h : AH}
  (H : RunsI G 197 [vR 34, vI x1] h (fun r1 h1 =>
  ((0 ≤ wI r1 ∧ wI r1 < 13824) ∧
  P (bA (h1 36 (wI r1).toNat) 255) h1))) :
  RunsI G 251 [vR 34, vI x1] h P := runs_of (by decide) 0 rfl (go1 ok251 900 H)
-- Model.spaceFor(I)I  [34]
set_option maxRecDepth 100000 in
theorem q_M_spaceFor {G : GG} {P : Int → AH → Prop} {x1 : Int} {h : AH}
  (H : Go G (pI P) 252 2 [some (vR 34), some (vI x1), some (vI 0), none, none] [] h) :
  RunsI G 252 [vR 34, vI x1] h P := runs_of (by decide) 3 rfl (go1 ok252 900 H)
set_option maxRecDepth 100000 in
theorem q_M_spaceFor_c2 {G : GG} {P : Int → AH → Prop} {x1 x2 : Int} {h : AH}
  (H : RunsI G 199 [vR 34] h (fun r1 h1 =>
  ((wI r1 < wI (x2 + x1) →
    P (-9) h1) ∧
    (¬ wI r1 < wI (x2 + x1) →
    Go G (pI P) 252 17 [some (vR 34), some (vI x1), some (vI x2), some (vI 1), some (vI 0)] [] h1)))) :
  Go G (pI P) 252 2 [some (vR 34), some (vI x1), some (vI x2), none, none] [] h := go1 ok252 900 H
set_option maxRecDepth 100000 in
theorem q_M_spaceFor_c17 {G : GG} {P : Int → AH → Prop} {x1 x2 x3 x4 : Int} {h : AH}
  (H : ((wI x1 ≤ wI x4 →
    ((wI x3 = 0 →
      Go G (pI P) 252 2 [some (vR 34), some (vI x1), some (vI (x2 + 2)), none, none] [] h) ∧
      (¬ wI x3 = 0 →
      P x2 h))) ∧
    (¬ wI x1 ≤ wI x4 →
    RunsI G 251 [vR 34, vI (x2 + x4)] h (fun r1 h1 =>
    (((128 : Int) ≤ wI r1 →
      Go G (pI P) 252 17 [some (vR 34), some (vI x1), some (vI x2), some (vI (bA x3 0)), some (vI (x4 + 1))] [] h1) ∧
      (¬ (128 : Int) ≤ wI r1 →
      Go G (pI P) 252 17 [some (vR 34), some (vI x1), some (vI x2), some (vI (bA x3 1)), some (vI (x4 + 1))] [] h1)))))) :
  Go G (pI P) 252 17 [some (vR 34), some (vI x1), some (vI x2), some (vI x3), some (vI x4)] [] h := go1 ok252 900 H
-- Model.seal(II)V  [34]
set_option maxRecDepth 100000 in
theorem q_M_seal {G : GG} {P : AH → Prop} {x1 x2 : Int} {h : AH}
  (H : RunsI G 197 [vR 34, vI x1] h (fun r1 h1 =>
  RunsI G 204 [vR 34, vR 36, vI x1, vI x2] h1 (fun r2 h2 =>
  RunsV G 168 [vR 36, vI (r1 + 2), vI 2, vL (wI r2)] h2 (fun h3 =>
  P h3)))) :
  RunsV G 253 [vR 34, vI x1, vI x2] h P := runs_of (by decide) 0 rfl (go1 ok253 900 H)
-- Model.laySet(IIIJJJIZ)V  [34]
set_option maxRecDepth 100000 in
theorem q_M_laySet {G : GG} {P : AH → Prop} {x1 x2 x3 y4 y6 y8 x10 x11 : Int} {h : AH}
  (H : Go G (pV P) 254 3 [some (vR 34), some (vI x1), some (vI x2), some (vI x3), some (vL y4), none, some (vL y6), none, some (vL y8), none, some (vI x10), some (vI x11), some (vI 0), none, none, none] [] h) :
  RunsV G 254 [vR 34, vI x1, vI x2, vI x3, vL y4, vL y6, vL y8, vI x10, vI x11] h P := runs_of (by decide) 4 rfl (go1 ok254 900 H)
set_option maxRecDepth 100000 in
theorem q_M_laySet_c3 {G : GG} {P : AH → Prop} {x1 x2 x3 y4 y6 y8 x10 x11 x12 : Int} {h : AH}
  (H : ((wI x1 ≤ wI x12 →
    ((wI x2 ≤ (15 : Int) →
      Go G (pV P) 254 56 [some (vR 34), some (vI x1), some (vI x2), some (vI x3), some (vL y4), none, some (vL y6), none, some (vL y8), none, some (vI x10), some (vI x11), some (vI 3), some (vI 0), none, none] [] h) ∧
      (¬ wI x2 ≤ (15 : Int) →
      Go G (pV P) 254 56 [some (vR 34), some (vI x1), some (vI x2), some (vI x3), some (vL y4), none, some (vL y6), none, some (vL y8), none, some (vI x10), some (vI x11), some (vI 4), some (vI 0), none, none] [] h))) ∧
    (¬ wI x1 ≤ wI x12 →
    RunsI G 251 [vR 34, vI x12] h (fun r1 h1 =>
    ((wI r1 = 0 →
      RunsV G 221 [vR 34, vI x12, vI 1] h1 (fun h4 =>
      Go G (pV P) 254 3 [some (vR 34), some (vI x1), some (vI x2), some (vI x3), some (vL y4), none, some (vL y6), none, some (vL y8), none, some (vI x10), some (vI x11), some (vI (x12 + 1)), none, none, none] [] h4)) ∧
      (¬ wI r1 = 0 →
      RunsI G 251 [vR 34, vI x12] h1 (fun r2 h2 =>
      RunsV G 221 [vR 34, vI x12, vI r2] h2 (fun h3 =>
      Go G (pV P) 254 3 [some (vR 34), some (vI x1), some (vI x2), some (vI x3), some (vL y4), none, some (vL y6), none, some (vL y8), none, some (vI x10), some (vI x11), some (vI (x12 + 1)), none, none, none] [] h3)))))))) :
  Go G (pV P) 254 3 [some (vR 34), some (vI x1), some (vI x2), some (vI x3), some (vL y4), none, some (vL y6), none, some (vL y8), none, some (vI x10), some (vI x11), some (vI x12), none, none, none] [] h := go1 ok254 900 H
set_option maxRecDepth 100000 in
theorem q_M_laySet_c56 {G : GG} {P : AH → Prop} {x1 x2 x3 y4 y6 y8 x10 x11 x12 x13 : Int} {h : AH}
  (H : ((wI x12 ≤ wI x13 →
    RunsI G 197 [vR 34, vI x1] h (fun r1 h1 =>
    ((0 ≤ wI r1 ∧ wI r1 < 13824) ∧
    ((0 ≤ wI (r1 + 1) ∧ wI (r1 + 1) < 13824) ∧
    RunsV G 168 [vR 36, vI (r1 + 4), vI 2, vL (wI x3)] (hs (hs h1 36 (wI r1).toNat (w8 (-123))) 36 (wI (r1 + 1)).toNat (w8 (w8 (x12 - 1)))) (fun h2 =>
    RunsV G 168 [vR 36, vI (r1 + 8), vI 4, vL y4] h2 (fun h3 =>
    RunsV G 168 [vR 36, vI (r1 + 12), vI 4, vL y6] h3 (fun h4 =>
    RunsI G 197 [vR 34, vI (x1 + 1)] h4 (fun r5 h5 =>
    ((0 ≤ wI r5 ∧ wI r5 < 13824) ∧
    ((0 ≤ wI (r5 + 3) ∧ wI (r5 + 3) < 13824) ∧
    RunsI G 203 [vR 34, vR 52, vI x2] (hs (hs h5 36 (wI r5).toNat (w8 (-64))) 36 (wI (r5 + 3)).toNat (w8 (w8 x2))) (fun r6 h6 =>
    RunsV G 168 [vR 36, vI (r5 + 4), vI 2, vL (wI r6)] h6 (fun h7 =>
    RunsV G 255 [vR 34, vI r5, vL y8, vI x10, vI x11] h7 (fun h8 =>
    Go G (pV P) 254 242 [some (vR 34), some (vI x1), some (vI x2), none, none, none, none, none, none, none, none, none, some (vI x12), none, none, some (vI 0)] [] h8))))))))))))) ∧
    (¬ wI x12 ≤ wI x13 →
    Go G (pV P) 254 66 [some (vR 34), some (vI x1), some (vI x2), some (vI x3), some (vL y4), none, some (vL y6), none, some (vL y8), none, some (vI x10), some (vI x11), some (vI x12), some (vI x13), some (vI 0), none] [] h))) :
  Go G (pV P) 254 56 [some (vR 34), some (vI x1), some (vI x2), some (vI x3), some (vL y4), none, some (vL y6), none, some (vL y8), none, some (vI x10), some (vI x11), some (vI x12), some (vI x13), none, none] [] h := go1 ok254 900 H
set_option maxRecDepth 100000 in
theorem q_M_laySet_c66 {G : GG} {P : AH → Prop} {x1 x2 x3 y4 y6 y8 x10 x11 x12 x13 x14 : Int} {h : AH}
  (H : (((32 : Int) ≤ wI x14 →
    Go G (pV P) 254 56 [some (vR 34), some (vI x1), some (vI x2), some (vI x3), some (vL y4), none, some (vL y6), none, some (vL y8), none, some (vI x10), some (vI x11), some (vI x12), some (vI (x13 + 1)), none, none] [] h) ∧
    (¬ (32 : Int) ≤ wI x14 →
    RunsI G 197 [vR 34, vI (x1 + x13)] h (fun r1 h1 =>
    ((0 ≤ wI (r1 + x14) ∧ wI (r1 + x14) < 13824) ∧
    Go G (pV P) 254 66 [some (vR 34), some (vI x1), some (vI x2), some (vI x3), some (vL y4), none, some (vL y6), none, some (vL y8), none, some (vI x10), some (vI x11), some (vI x12), some (vI x13), some (vI (x14 + 1)), none] [] (hs h1 36 (wI (r1 + x14)).toNat (w8 0))))))) :
  Go G (pV P) 254 66 [some (vR 34), some (vI x1), some (vI x2), some (vI x3), some (vL y4), none, some (vL y6), none, some (vL y8), none, some (vI x10), some (vI x11), some (vI x12), some (vI x13), some (vI x14), none] [] h := go1 ok254 900 H
set_option maxRecDepth 100000 in
theorem q_M_laySet_c242 {G : GG} {P : AH → Prop} {x1 x2 x12 x15 : Int} {h : AH}
  (H : ((wI x2 ≤ wI x15 →
    Go G (pV P) 254 296 [some (vR 34), some (vI x1), none, none, none, none, none, none, none, none, none, none, some (vI x12), none, none, some (vI 2)] [] h) ∧
    (¬ wI x2 ≤ wI x15 →
    ((15 : Int) ≠ 0 ∧ RunsI G 197 [vR 34, vI ((x1 + 2) + (Int.tdiv (wI x15) 15))] h (fun r1 h1 =>
    ((15 : Int) ≠ 0 ∧ ((0 ≤ wI x15 ∧ wI x15 < 30) ∧
    RunsV G 168 [vR 36, vI ((r1 + 2) + (2 * (Int.tmod (wI x15) 15))), vI 2, vL (wI (h1 52 (wI x15).toNat))] h1 (fun h2 =>
    Go G (pV P) 254 242 [some (vR 34), some (vI x1), some (vI x2), none, none, none, none, none, none, none, none, none, some (vI x12), none, none, some (vI (x15 + 1))] [] h2)))))))) :
  Go G (pV P) 254 242 [some (vR 34), some (vI x1), some (vI x2), none, none, none, none, none, none, none, none, none, some (vI x12), none, none, some (vI x15)] [] h := go1 ok254 900 H
set_option maxRecDepth 100000 in
theorem q_M_laySet_c296 {G : GG} {P : AH → Prop} {x1 x12 x15 : Int} {h : AH}
  (H : ((wI x12 ≤ wI x15 →
    RunsV G 253 [vR 34, vI x1, vI x12] h (fun h1 =>
    P h1)) ∧
    (¬ wI x12 ≤ wI x15 →
    RunsI G 197 [vR 34, vI (x1 + x15)] h (fun r2 h2 =>
    ((0 ≤ wI r2 ∧ wI r2 < 13824) ∧
    Go G (pV P) 254 296 [some (vR 34), some (vI x1), none, none, none, none, none, none, none, none, none, none, some (vI x12), none, none, some (vI (x15 + 1))] [] (hs h2 36 (wI r2).toNat (w8 (-63)))))))) :
  Go G (pV P) 254 296 [some (vR 34), some (vI x1), none, none, none, none, none, none, none, none, none, none, some (vI x12), none, none, some (vI x15)] [] h := go1 ok254 900 H
-- Model.wantStream(IJIZ)V  [34]
set_option maxRecDepth 100000 in
theorem q_M_wantStream {G : GG} {P : AH → Prop} {x1 y2 x4 x5 : Int} {h : AH}
  (H : ((wI x5 = 0 →
    Go G (pV P) 255 17 [some (vR 34), some (vI x1), some (vL y2), none, some (vI x4), none] [vI 1, vI (x1 + 1), vR 36] h) ∧
    (¬ wI x5 = 0 →
    Go G (pV P) 255 17 [some (vR 34), some (vI x1), some (vL y2), none, some (vI x4), none] [vI 3, vI (x1 + 1), vR 36] h))) :
  RunsV G 255 [vR 34, vI x1, vL y2, vI x4, vI x5] h P := runs_of (by decide) 0 rfl (go1 ok255 900 H)
set_option maxRecDepth 100000 in
theorem q_M_wantStream_c17 {G : GG} {P : AH → Prop} {x1 y2 x4 s1 s2 : Int} {h : AH}
  (H : ((0 ≤ wI s1 ∧ wI s1 < 13824) ∧
  RunsV G 168 [vR 36, vI (x1 + 8), vI 8, vL y2] (hs h 36 (wI s1).toNat (w8 (w8 s2))) (fun h1 =>
  RunsV G 168 [vR 36, vI (x1 + 20), vI 4, vL (wI x4)] h1 (fun h2 =>
  RunsV G 168 [vR 36, vI (x1 + 24), vI 8, vL y2] h2 (fun h3 =>
  P h3))))) :
  Go G (pV P) 255 17 [some (vR 34), some (vI x1), some (vL y2), none, some (vI x4), none] [vI s2, vI s1, vR 36] h := go1 ok255 900 H
-- Model.changeSet(IJIZ)V  [34]
set_option maxRecDepth 100000 in
theorem q_M_changeSet {G : GG} {P : AH → Prop} {x1 y2 x4 x5 : Int} {h : AH}
  (H : ((0 ≤ wI x1 ∧ wI x1 < 200) ∧
  RunsV G 210 [vR 34, vI (h 42 (wI x1).toNat)] h (fun h1 =>
  ((0 ≤ wI x1 ∧ wI x1 < 200) ∧
  RunsI G 197 [vR 34, vI (h1 43 (wI x1).toNat)] h1 (fun r2 h2 =>
  RunsV G 168 [vR 36, vI (r2 + 12), vI 4, vL (wI (h2 34 4))] h2 (fun h3 =>
  RunsI G 197 [vR 34, vI ((h1 43 (wI x1).toNat) + 1)] h3 (fun r4 h4 =>
  RunsV G 255 [vR 34, vI r4, vL y2, vI x4, vI x5] h4 (fun h5 =>
  ((0 ≤ wI x1 ∧ wI x1 < 200) ∧
  RunsV G 253 [vR 34, vI (h1 43 (wI x1).toNat), vI (h5 44 (wI x1).toNat)] h5 (fun h6 =>
  P h6)))))))))) :
  RunsV G 256 [vR 34, vI x1, vL y2, vI x4, vI x5] h P := runs_of (by decide) 1 rfl (go1 ok256 900 H)
-- Model.unuse(I)V  [34]
set_option maxRecDepth 100000 in
theorem q_M_unuse {G : GG} {P : AH → Prop} {x1 : Int} {h : AH}
  (H : ((0 ≤ wI x1 ∧ wI x1 < 200) ∧
  RunsV G 210 [vR 34, vI (h 42 (wI x1).toNat)] h (fun h1 =>
  Go G (pV P) 257 12 [some (vR 34), some (vI x1), some (vI 0)] [] h1))) :
  RunsV G 257 [vR 34, vI x1] h P := runs_of (by decide) 1 rfl (go1 ok257 900 H)
set_option maxRecDepth 100000 in
theorem q_M_unuse_c12 {G : GG} {P : AH → Prop} {x1 x2 : Int} {h : AH}
  (H : ((0 ≤ wI x1 ∧ wI x1 < 200) ∧
  ((wI (h 44 (wI x1).toNat) ≤ wI x2 →
    P h) ∧
    (¬ wI (h 44 (wI x1).toNat) ≤ wI x2 →
    ((0 ≤ wI x1 ∧ wI x1 < 200) ∧
    ((0 ≤ wI x1 ∧ wI x1 < 200) ∧
    RunsI G 251 [vR 34, vI ((h 43 (wI x1).toNat) + x2)] h (fun r1 h1 =>
    RunsV G 221 [vR 34, vI ((h 43 (wI x1).toNat) + x2), vI (bA r1 127)] h1 (fun h2 =>
    Go G (pV P) 257 12 [some (vR 34), some (vI x1), some (vI (x2 + 1))] [] h2)))))))) :
  Go G (pV P) 257 12 [some (vR 34), some (vI x1), some (vI x2)] [] h := go1 ok257 900 H
-- Model.planSpace(II)I  [34]
set_option maxRecDepth 100000 in
theorem q_M_planSpace {G : GG} {P : Int → AH → Prop} {x1 x2 : Int} {h : AH}
  (H : RunsV G 240 [vR 34, vI 1, vI x1] h (fun h1 =>
  RunsV G 250 [vR 34, vI 1] h1 (fun h2 =>
  RunsI G 252 [vR 34, vI x2] h2 (fun r3 h3 =>
  ((wI r3 = ((-9) : Int) →
    RunsI G 243 [vR 34, vI 1, vI 1] h3 (fun r4 h4 =>
    ((wI r4 = 0 →
      P (-6) h4) ∧
      (¬ wI r4 = 0 →
      RunsV G 250 [vR 34, vI 1] h4 (fun h5 =>
      RunsI G 260 [vR 34, vI x2] h5 (fun r6 h6 =>
      P r6 h6)))))) ∧
    (¬ wI r3 = ((-9) : Int) →
    P r3 h3)))))) :
  RunsI G 258 [vR 34, vI x1, vI x2] h P := runs_of (by decide) 1 rfl (go1 ok258 900 H)
-- Model.areUnused(II)Z  [34]
set_option maxRecDepth 100000 in
theorem q_M_areUnused {G : GG} {P : Int → AH → Prop} {x1 x2 : Int} {h : AH}
  (H : Go G (pI P) 259 5 [some (vR 34), none, some (vI x2), some (vI 1), some (vI x1)] [] h) :
  RunsI G 259 [vR 34, vI x1, vI x2] h P := runs_of (by decide) 2 rfl (go1 ok259 900 H)
set_option maxRecDepth 100000 in
theorem q_M_areUnused_c5 {G : GG} {P : Int → AH → Prop} {x2 x3 x4 : Int} {h : AH}
  (H : ((wI x2 ≤ wI x4 →
    ((x3 = 0 ∨ x3 = 1) ∧ P x3 h)) ∧
    (¬ wI x2 ≤ wI x4 →
    RunsI G 251 [vR 34, vI x4] h (fun r1 h1 =>
    (((128 : Int) ≤ wI r1 →
      Go G (pI P) 259 5 [some (vR 34), none, some (vI x2), some (vI (bA x3 0)), some (vI (x4 + 1))] [] h1) ∧
      (¬ (128 : Int) ≤ wI r1 →
      Go G (pI P) 259 5 [some (vR 34), none, some (vI x2), some (vI (bA x3 1)), some (vI (x4 + 1))] [] h1)))))) :
  Go G (pI P) 259 5 [some (vR 34), none, some (vI x2), some (vI x3), some (vI x4)] [] h := go1 ok259 900 H
-- Model.firstSpace(I)I  [34]
set_option maxRecDepth 100000 in
theorem q_M_firstSpace {G : GG} {P : Int → AH → Prop} {x1 : Int} {h : AH}
  (H : Go G (pI P) 260 2 [some (vR 34), some (vI x1), some (vI 0)] [] h) :
  RunsI G 260 [vR 34, vI x1] h P := runs_of (by decide) 1 rfl (go1 ok260 900 H)
set_option maxRecDepth 100000 in
theorem q_M_firstSpace_c2 {G : GG} {P : Int → AH → Prop} {x1 x2 : Int} {h : AH}
  (H : ((0 ≤ (1 : Int) ∧ (1 : Int) < 2) ∧
  RunsI G 164 [vI (x2 + x1), vI (4 * (h 54 1))] h (fun r1 h1 =>
  RunsI G 259 [vR 34, vI x2, vI r1] h1 (fun r2 h2 =>
  ((wI r2 = 0 →
    Go G (pI P) 260 2 [some (vR 34), some (vI x1), some (vI (x2 + 2))] [] h2) ∧
    (¬ wI r2 = 0 →
    P x2 h2)))))) :
  Go G (pI P) 260 2 [some (vR 34), some (vI x1), some (vI x2)] [] h := go1 ok260 900 H
-- Model.comesIn(Z)Z  [34]
set_option maxRecDepth 100000 in
theorem q_M_comesIn {G : GG} {P : Int → AH → Prop} {x1 : Int} {h : AH}
  (H : RunsV G 249 [vR 34, vI 1] h (fun h1 =>
  ((wI x1 = 0 →
    Go G (pI P) 261 14 [some (vR 34), none] [] h1) ∧
    (¬ wI x1 = 0 →
    RunsV G 249 [vR 34, vI 0] h1 (fun h2 =>
    Go G (pI P) 261 14 [some (vR 34), none] [] h2))))) :
  RunsI G 261 [vR 34, vI x1] h P := runs_of (by decide) 0 rfl (go1 ok261 900 H)
set_option maxRecDepth 100000 in
theorem q_M_comesIn_c14 {G : GG} {P : Int → AH → Prop} {h : AH}
  (H : RunsI G 178 [vR 34] h (fun r1 h1 =>
  ((wI r1 = 0 →
    (((0 : Int) = 0 ∨ (0 : Int) = 1) ∧ P 0 h1)) ∧
    (¬ wI r1 = 0 →
    RunsI G 246 [vR 34] h1 (fun r2 h2 =>
    ((wI r2 = 0 →
      (((0 : Int) = 0 ∨ (0 : Int) = 1) ∧ P 0 h2)) ∧
      (¬ wI r2 = 0 →
      RunsV G 247 [vR 34, vI 0] h2 (fun h3 =>
      RunsV G 247 [vR 34, vI 1] h3 (fun h4 =>
      RunsI G 178 [vR 34] h4 (fun r5 h5 =>
      ((r5 = 0 ∨ r5 = 1) ∧ P r5 h5))))))))))) :
  Go G (pI P) 261 14 [some (vR 34), none] [] h := go1 ok261 900 H
-- Model.grow(I)V  [34]
set_option maxRecDepth 100000 in
theorem q_M_grow {G : GG} {P : AH → Prop} {x1 : Int} {h : AH}
  (H : ((0 ≤ (1 : Int) ∧ (1 : Int) < 2) ∧
  ((wI (h 56 1) ≤ 0 →
    P h) ∧
    (¬ wI (h 56 1) ≤ 0 →
    ((wI x1 ≤ 0 →
      P h) ∧
      (¬ wI x1 ≤ 0 →
      ((0 ≤ (1 : Int) ∧ (1 : Int) < 2) ∧
      ((0 ≤ (1 : Int) ∧ (1 : Int) < 2) ∧
      RunsI G 248 [vR 34, vI 1, vI 0] h (fun r1 h1 =>
      ((0 ≤ (1 : Int) ∧ (1 : Int) < 2) ∧
      RunsV G 256 [vR 34, vI x1, vL (128 * (wI ((h 54 1) + (h 56 1)))), vI r1, vI (h1 58 1)] h1 (fun h2 =>
      P h2))))))))))) :
  RunsV G 262 [vR 34, vI x1] h P := runs_of (by decide) 0 rfl (go1 ok262 900 H)
-- Model.make(IZ)I  [34]
set_option maxRecDepth 100000 in
theorem q_M_make {G : GG} {P : Int → AH → Prop} {x1 x2 : Int} {h : AH}
  (H : RunsI G 233 [vR 34] h (fun r1 h1 =>
  ((wI (h1 34 3) = 0 →
    P (-2) h1) ∧
    (¬ wI (h1 34 3) = 0 →
    RunsI G 213 [vR 34, vI x1] h1 (fun r2 h2 =>
    ((wI r2 = ((-9) : Int) →
      P (-1) h2) ∧
      (¬ wI r2 = ((-9) : Int) →
      RunsI G 202 [vR 52, vI r1] h2 (fun r3 h3 =>
      ((wI r3 = 0 →
        P (-3) h3) ∧
        (¬ wI r3 = 0 →
        RunsI G 234 [vR 34, vI r2, vI r1] h3 (fun r4 h4 =>
        ((wI r4 = ((-9) : Int) →
          RunsV G 239 [vR 34] h4 (fun h5 =>
          RunsV G 177 [vR 34] h5 (fun h6 =>
          ((wI x2 = 0 →
            ((wI r1 ≤ (15 : Int) →
              Go G (pI P) 263 98 [some (vR 34), none, some (vI x2), some (vI r1), some (vI r2), none, none] [vI 3, vI r2, vR 34] h6) ∧
              (¬ wI r1 ≤ (15 : Int) →
              Go G (pI P) 263 98 [some (vR 34), none, some (vI x2), some (vI r1), some (vI r2), none, none] [vI 4, vI r2, vR 34] h6))) ∧
            (¬ wI x2 = 0 →
            RunsI G 243 [vR 34, vI 0, vI 1] h6 (fun r7 h7 =>
            ((wI r7 = 0 →
              P (-6) h7) ∧
              (¬ wI r7 = 0 →
              ((wI r1 ≤ (15 : Int) →
                Go G (pI P) 263 98 [some (vR 34), none, some (vI x2), some (vI r1), some (vI r2), none, none] [vI 3, vI r2, vR 34] h7) ∧
                (¬ wI r1 ≤ (15 : Int) →
                Go G (pI P) 263 98 [some (vR 34), none, some (vI x2), some (vI r1), some (vI r2), none, none] [vI 4, vI r2, vR 34] h7)))))))))) ∧
          (¬ wI r4 = ((-9) : Int) →
          P (-4) h4))))))))))))) :
  RunsI G 263 [vR 34, vI x1, vI x2] h P := runs_of (by decide) 4 rfl (go1 ok263 900 H)
set_option maxRecDepth 100000 in
theorem q_M_make_c98 {G : GG} {P : Int → AH → Prop} {x2 x3 x4 s1 s2 : Int} {h : AH}
  (H : RunsI G 258 [vR 34, vI s1, vI s2] h (fun r1 h1 =>
  ((wI r1 = ((-6) : Int) →
    P (-6) h1) ∧
    (¬ wI r1 = ((-6) : Int) →
    RunsI G 179 [vR 34] h1 (fun r2 h2 =>
    ((wI r2 = 0 →
      P (-7) h2) ∧
      (¬ wI r2 = 0 →
      RunsI G 261 [vR 34, vI x2] h2 (fun r3 h3 =>
      ((wI r3 = 0 →
        P (-7) h3) ∧
        (¬ wI r3 = 0 →
        RunsV G 262 [vR 34, vI x4] h3 (fun h4 =>
        RunsV G 250 [vR 34, vI 1] h4 (fun h5 =>
        ((4 : Int) ≠ 0 ∧ ((0 ≤ wI (Int.tdiv (wI r1) 4) ∧ wI (Int.tdiv (wI r1) 4) < 102) ∧
        ((4 : Int) ≠ 0 ∧ ((wI x2 = 0 →
          ((wI x2 = 0 →
            Go G (pI P) 263 195 [some (vR 34), none, some (vI x2), none, none, none, some (vI ((4 * (h5 39 (wI (Int.tdiv (wI r1) 4)).toNat)) + (Int.tmod (wI r1) 4)))] [vL 0, vL (wI (h5 34 4)), vL (wI (h5 34 4)), vI 0, vI x3, vI r1, vR 34] h5) ∧
            (¬ wI x2 = 0 →
            Go G (pI P) 263 195 [some (vR 34), none, some (vI x2), none, none, none, some (vI ((4 * (h5 39 (wI (Int.tdiv (wI r1) 4)).toNat)) + (Int.tmod (wI r1) 4)))] [vL 128, vL (wI (h5 34 4)), vL (wI (h5 34 4)), vI 0, vI x3, vI r1, vR 34] h5))) ∧
          (¬ wI x2 = 0 →
          ((wI x2 = 0 →
            Go G (pI P) 263 195 [some (vR 34), none, some (vI x2), none, none, none, some (vI ((4 * (h5 39 (wI (Int.tdiv (wI r1) 4)).toNat)) + (Int.tmod (wI r1) 4)))] [vL 0, vL (wI (h5 34 4)), vL (wI (h5 34 4)), vI 16, vI x3, vI r1, vR 34] h5) ∧
            (¬ wI x2 = 0 →
            Go G (pI P) 263 195 [some (vR 34), none, some (vI x2), none, none, none, some (vI ((4 * (h5 39 (wI (Int.tdiv (wI r1) 4)).toNat)) + (Int.tmod (wI r1) 4)))] [vL 128, vL (wI (h5 34 4)), vL (wI (h5 34 4)), vI 16, vI x3, vI r1, vR 34] h5))))))))))))))))))) :
  Go G (pI P) 263 98 [some (vR 34), none, some (vI x2), some (vI x3), some (vI x4), none, none] [vI s2, vI s1, vR 34] h := go1 ok263 900 H
set_option maxRecDepth 100000 in
theorem q_M_make_c195 {G : GG} {P : Int → AH → Prop} {x2 x6 s1 s2 s3 t4 t5 t6 : Int} {h : AH}
  (H : ((wI x2 = 0 →
    RunsV G 254 [vR 34, vI s1, vI s2, vI s3, vL t4, vL t5, vL t6, vI 0, vI x2] h (fun h1 =>
    RunsI G 178 [vR 34] h1 (fun r2 h2 =>
    ((wI r2 = 0 →
      P (-7) h2) ∧
      (¬ wI r2 = 0 →
      P x6 h2))))) ∧
    (¬ wI x2 = 0 →
    ((0 ≤ (0 : Int) ∧ (0 : Int) < 204) ∧
    RunsV G 254 [vR 34, vI s1, vI s2, vI s3, vL t4, vL t5, vL t6, vI (h 55 0), vI x2] h (fun h3 =>
    RunsI G 178 [vR 34] h3 (fun r4 h4 =>
    ((wI r4 = 0 →
      P (-7) h4) ∧
      (¬ wI r4 = 0 →
      P x6 h4)))))))) :
  Go G (pI P) 263 195 [some (vR 34), none, some (vI x2), none, none, none, some (vI x6)] [vL t6, vL t5, vL t4, vI s3, vI s2, vI s1, vR 34] h := go1 ok263 900 H
-- Model.write(IIII)I  [34]
set_option maxRecDepth 100000 in
theorem q_M_write {G : GG} {P : Int → AH → Prop} {x1 x2 x3 x4 : Int} {h : AH}
  (H : ((wI (h 34 3) = 0 →
    P (-2) h) ∧
    (¬ wI (h 34 3) = 0 →
    RunsI G 214 [vR 34, vI x1] h (fun r1 h1 =>
    ((wI r1 = ((-9) : Int) →
      P (-1) h1) ∧
      (¬ wI r1 = ((-9) : Int) →
      ((0 ≤ wI r1 ∧ wI r1 < 200) ∧
      RunsI G 166 [vL (wI x2), vL 0, vL (h1 47 (wI r1).toNat)] h1 (fun r2 h2 =>
      ((wI r2 = 0 →
        P (-1) h2) ∧
        (¬ wI r2 = 0 →
        RunsI G 166 [vL (wI x3), vL 1, vL 1024] h2 (fun r3 h3 =>
        ((wI r3 = 0 →
          P (-1) h3) ∧
          (¬ wI r3 = 0 →
          ((0 ≤ wI r1 ∧ wI r1 < 200) ∧
          ((wI (bA (h3 49 (wI r1).toNat) 1) = 0 →
            RunsV G 239 [vR 34] h3 (fun h4 =>
            RunsV G 177 [vR 34] h4 (fun h5 =>
            RunsV G 240 [vR 34, vI 0, vI r1] h5 (fun h6 =>
            ((0 ≤ wI r1 ∧ wI r1 < 200) ∧
            RunsL G 165 [vL (h6 47 (wI r1).toNat), vL ((wI x2) + (wI x3))] h6 (fun r7 h7 =>
            ((128 : Int) ≠ 0 ∧ ((0 ≤ (0 : Int) ∧ (0 : Int) < 2) ∧
            ((wI ((Int.tdiv (wL (r7 + 127)) 128) - (h7 54 0)) ≤ 0 →
              RunsI G 179 [vR 34] h7 (fun r8 h8 =>
              ((wI r8 = 0 →
                P (-7) h8) ∧
                (¬ wI r8 = 0 →
                Go G (pI P) 264 152 [some (vR 34), none, some (vI x2), some (vI x3), some (vI x4), some (vI r1), some (vL r7), none, none, some (vI 0)] [] h8)))) ∧
              (¬ wI ((Int.tdiv (wL (r7 + 127)) 128) - (h7 54 0)) ≤ 0 →
              RunsI G 243 [vR 34, vI 0, vI ((Int.tdiv (wL (r7 + 127)) 128) - (h7 54 0))] h7 (fun r9 h9 =>
              ((wI r9 = 0 →
                P (-6) h9) ∧
                (¬ wI r9 = 0 →
                RunsI G 179 [vR 34] h9 (fun r10 h10 =>
                ((wI r10 = 0 →
                  P (-7) h10) ∧
                  (¬ wI r10 = 0 →
                  Go G (pI P) 264 152 [some (vR 34), none, some (vI x2), some (vI x3), some (vI x4), some (vI r1), some (vL r7), none, none, some (vI 0)] [] h10)))))))))))))))) ∧
            (¬ wI (bA (h3 49 (wI r1).toNat) 1) = 0 →
            P (-5) h3)))))))))))))))) :
  RunsI G 264 [vR 34, vI x1, vI x2, vI x3, vI x4] h P := runs_of (by decide) 5 rfl (go1 ok264 900 H)
set_option maxRecDepth 100000 in
theorem q_M_write_c152 {G : GG} {P : Int → AH → Prop} {x2 x3 x4 x5 y6 x9 : Int} {h : AH}
  (H : ((wI x3 ≤ wI x9 →
    RunsI G 178 [vR 34] h (fun r1 h1 =>
    ((wI r1 = 0 →
      P (-7) h1) ∧
      (¬ wI r1 = 0 →
      RunsI G 246 [vR 34] h1 (fun r2 h2 =>
      ((wI r2 = 0 →
        P (-7) h2) ∧
        (¬ wI r2 = 0 →
        RunsV G 247 [vR 34, vI 0] h2 (fun h3 =>
        RunsI G 178 [vR 34] h3 (fun r4 h4 =>
        ((wI r4 = 0 →
          P (-7) h4) ∧
          (¬ wI r4 = 0 →
          RunsI G 248 [vR 34, vI 0, vI 0] h4 (fun r5 h5 =>
          ((0 ≤ (0 : Int) ∧ (0 : Int) < 2) ∧
          RunsV G 256 [vR 34, vI x5, vL y6, vI r5, vI (h5 58 0)] h5 (fun h6 =>
          RunsI G 178 [vR 34] h6 (fun r7 h7 =>
          ((wI r7 = 0 →
            P (-7) h7) ∧
            (¬ wI r7 = 0 →
            P y6 h7))))))))))))))))) ∧
    (¬ wI x3 ≤ wI x9 →
    ((128 : Int) ≠ 0 ∧ RunsI G 248 [vR 34, vI 0, vI (Int.tdiv (wI (x2 + x9)) 128)] h (fun r8 h8 =>
    RunsI G 169 [vI r8] h8 (fun r9 h9 =>
    ((128 : Int) ≠ 0 ∧ ((0 ≤ wI (r9 + (Int.tmod (wI (x2 + x9)) 128)) ∧ wI (r9 + (Int.tmod (wI (x2 + x9)) 128)) < 13824) ∧
    Go G (pI P) 264 152 [some (vR 34), none, some (vI x2), some (vI x3), some (vI x4), some (vI x5), some (vL y6), none, none, some (vI (x9 + 1))] [] (hs h9 36 (wI (r9 + (Int.tmod (wI (x2 + x9)) 128))).toNat (w8 (w8 (x4 + x9)))))))))))) :
  Go G (pI P) 264 152 [some (vR 34), none, some (vI x2), some (vI x3), some (vI x4), some (vI x5), some (vL y6), none, none, some (vI x9)] [] h := go1 ok264 900 H
-- Model.frees(I)Z  [34]
set_option maxRecDepth 100000 in
theorem q_M_frees {G : GG} {P : Int → AH → Prop} {x1 : Int} {h : AH}
  (H : ((0 ≤ (0 : Int) ∧ (0 : Int) < 2) ∧
  Go G (pI P) 265 9 [some (vR 34), some (vI x1), some (vI (h 54 0)), some (vI x1)] [] h)) :
  RunsI G 265 [vR 34, vI x1] h P := runs_of (by decide) 2 rfl (go1 ok265 900 H)
set_option maxRecDepth 100000 in
theorem q_M_frees_c9 {G : GG} {P : Int → AH → Prop} {x1 x2 x3 : Int} {h : AH}
  (H : ((wI x2 ≤ wI x3 →
    Go G (pI P) 265 40 [some (vR 34), some (vI x1), some (vI x2), none] [] h) ∧
    (¬ wI x2 ≤ wI x3 →
    ((0 ≤ (0 : Int) ∧ (0 : Int) < 2) ∧
    ((wI (h 57 0) = 0 →
      ((0 ≤ wI x3 ∧ wI x3 < 204) ∧
      RunsV G 172 [vR 34, vI (h 53 (wI x3).toNat), vL 0] h (fun h1 =>
      Go G (pI P) 265 9 [some (vR 34), some (vI x1), some (vI x2), some (vI (x3 + 1))] [] h1))) ∧
      (¬ wI (h 57 0) = 0 →
      Go G (pI P) 265 40 [some (vR 34), some (vI x1), some (vI x2), none] [] h)))))) :
  Go G (pI P) 265 9 [some (vR 34), some (vI x1), some (vI x2), some (vI x3)] [] h := go1 ok265 900 H
set_option maxRecDepth 100000 in
theorem q_M_frees_c40 {G : GG} {P : Int → AH → Prop} {x1 x2 : Int} {h : AH}
  (H : ((wI x1 ≤ 0 →
    RunsI G 178 [vR 34] h (fun r1 h1 =>
    ((wI r1 = 0 →
      (((0 : Int) = 0 ∨ (0 : Int) = 1) ∧ P 0 h1)) ∧
      (¬ wI r1 = 0 →
      Go G (pI P) 265 84 [some (vR 34), none, some (vI x2), some (vI x1)] [] h1)))) ∧
    (¬ wI x1 ≤ 0 →
    ((wI x2 ≤ wI x1 →
      RunsI G 178 [vR 34] h (fun r2 h2 =>
      ((wI r2 = 0 →
        (((0 : Int) = 0 ∨ (0 : Int) = 1) ∧ P 0 h2)) ∧
        (¬ wI r2 = 0 →
        Go G (pI P) 265 84 [some (vR 34), none, some (vI x2), some (vI x1)] [] h2)))) ∧
      (¬ wI x2 ≤ wI x1 →
      ((0 ≤ (0 : Int) ∧ (0 : Int) < 2) ∧
      ((wI (h 57 0) = 0 →
        ((0 ≤ wI (x1 - 1) ∧ wI (x1 - 1) < 204) ∧
        RunsV G 172 [vR 34, vI (h 53 (wI (x1 - 1)).toNat), vL 4294967295] h (fun h4 =>
        RunsI G 178 [vR 34] h4 (fun r5 h5 =>
        ((wI r5 = 0 →
          (((0 : Int) = 0 ∨ (0 : Int) = 1) ∧ P 0 h5)) ∧
          (¬ wI r5 = 0 →
          Go G (pI P) 265 84 [some (vR 34), none, some (vI x2), some (vI x1)] [] h5)))))) ∧
        (¬ wI (h 57 0) = 0 →
        RunsI G 178 [vR 34] h (fun r3 h3 =>
        ((wI r3 = 0 →
          (((0 : Int) = 0 ∨ (0 : Int) = 1) ∧ P 0 h3)) ∧
          (¬ wI r3 = 0 →
          Go G (pI P) 265 84 [some (vR 34), none, some (vI x2), some (vI x1)] [] h3))))))))))) :
  Go G (pI P) 265 40 [some (vR 34), some (vI x1), some (vI x2), none] [] h := go1 ok265 900 H
set_option maxRecDepth 100000 in
theorem q_M_frees_c84 {G : GG} {P : Int → AH → Prop} {x2 x3 : Int} {h : AH}
  (H : ((wI x2 ≤ wI x3 →
    RunsI G 178 [vR 34] h (fun r1 h1 =>
    ((r1 = 0 ∨ r1 = 1) ∧ P r1 h1))) ∧
    (¬ wI x2 ≤ wI x3 →
    ((0 ≤ wI x3 ∧ wI x3 < 204) ∧
    RunsV G 174 [vR 34, vI (h 53 (wI x3).toNat), vI 0] h (fun h2 =>
    Go G (pI P) 265 84 [some (vR 34), none, some (vI x2), some (vI (x3 + 1))] [] h2))))) :
  Go G (pI P) 265 84 [some (vR 34), none, some (vI x2), some (vI x3)] [] h := go1 ok265 900 H
-- Model.cut(II)I  [34]
set_option maxRecDepth 100000 in
theorem q_M_cut {G : GG} {P : Int → AH → Prop} {x1 x2 : Int} {h : AH}
  (H : ((wI (h 34 3) = 0 →
    P (-2) h) ∧
    (¬ wI (h 34 3) = 0 →
    RunsI G 214 [vR 34, vI x1] h (fun r1 h1 =>
    ((wI r1 = ((-9) : Int) →
      P (-1) h1) ∧
      (¬ wI r1 = ((-9) : Int) →
      ((0 ≤ wI r1 ∧ wI r1 < 200) ∧
      RunsI G 166 [vL (wI x2), vL 0, vL (h1 47 (wI r1).toNat)] h1 (fun r2 h2 =>
      ((wI r2 = 0 →
        P (-1) h2) ∧
        (¬ wI r2 = 0 →
        ((0 ≤ wI r1 ∧ wI r1 < 200) ∧
        ((wI (bA (h2 49 (wI r1).toNat) 1) = 0 →
          RunsV G 239 [vR 34] h2 (fun h3 =>
          RunsV G 177 [vR 34] h3 (fun h4 =>
          RunsV G 240 [vR 34, vI 0, vI r1] h4 (fun h5 =>
          ((128 : Int) ≠ 0 ∧ ((0 ≤ (0 : Int) ∧ (0 : Int) < 2) ∧
          RunsI G 179 [vR 34] h5 (fun r6 h6 =>
          ((wI r6 = 0 →
            P (-7) h6) ∧
            (¬ wI r6 = 0 →
            ((wI (Int.tdiv (wI (x2 + 127)) 128) = 0 →
              Go G (pI P) 266 117 [some (vR 34), none, none, none, some (vI (Int.tdiv (wI (x2 + 127)) 128)), some (vI ((h5 54 0) - (Int.tdiv (wI (x2 + 127)) 128)))] [vI 0, vL (wI x2), vI r1, vR 34] h6) ∧
              (¬ wI (Int.tdiv (wI (x2 + 127)) 128) = 0 →
              ((0 ≤ (0 : Int) ∧ (0 : Int) < 204) ∧
              Go G (pI P) 266 117 [some (vR 34), none, none, none, some (vI (Int.tdiv (wI (x2 + 127)) 128)), some (vI ((h5 54 0) - (Int.tdiv (wI (x2 + 127)) 128)))] [vI (h6 53 0), vL (wI x2), vI r1, vR 34] h6)))))))))))) ∧
          (¬ wI (bA (h2 49 (wI r1).toNat) 1) = 0 →
          P (-5) h2))))))))))))) :
  RunsI G 266 [vR 34, vI x1, vI x2] h P := runs_of (by decide) 3 rfl (go1 ok266 900 H)
set_option maxRecDepth 100000 in
theorem q_M_cut_c117 {G : GG} {P : Int → AH → Prop} {x4 x5 s1 t2 s3 : Int} {h : AH}
  (H : ((wI x4 ≤ 0 →
    Go G (pI P) 266 136 [some (vR 34), none, none, none, some (vI x4), some (vI x5)] [vI 0, vI s3, vL t2, vI s1, vR 34] h) ∧
    (¬ wI x4 ≤ 0 →
    ((0 ≤ (0 : Int) ∧ (0 : Int) < 2) ∧
    ((wI (h 57 0) = 0 →
      Go G (pI P) 266 136 [some (vR 34), none, none, none, some (vI x4), some (vI x5)] [vI 0, vI s3, vL t2, vI s1, vR 34] h) ∧
      (¬ wI (h 57 0) = 0 →
      Go G (pI P) 266 136 [some (vR 34), none, none, none, some (vI x4), some (vI x5)] [vI 1, vI s3, vL t2, vI s1, vR 34] h)))))) :
  Go G (pI P) 266 117 [some (vR 34), none, none, none, some (vI x4), some (vI x5)] [vI s3, vL t2, vI s1, vR 34] h := go1 ok266 900 H
set_option maxRecDepth 100000 in
theorem q_M_cut_c136 {G : GG} {P : Int → AH → Prop} {x4 x5 s1 t2 s3 s4 : Int} {h : AH}
  (H : RunsV G 256 [vR 34, vI s1, vL t2, vI s3, vI s4] h (fun h1 =>
  RunsI G 178 [vR 34] h1 (fun r2 h2 =>
  ((wI r2 = 0 →
    P (-7) h2) ∧
    (¬ wI r2 = 0 →
    RunsI G 265 [vR 34, vI x4] h2 (fun r3 h3 =>
    ((wI r3 = 0 →
      P (-7) h3) ∧
      (¬ wI r3 = 0 →
      P x5 h3)))))))) :
  Go G (pI P) 266 136 [some (vR 34), none, none, none, some (vI x4), some (vI x5)] [vI s4, vI s3, vL t2, vI s1, vR 34] h := go1 ok266 900 H
-- Model.drop(I)I  [34]
set_option maxRecDepth 100000 in
theorem q_M_drop {G : GG} {P : Int → AH → Prop} {x1 : Int} {h : AH}
  (H : ((wI (h 34 3) = 0 →
    P (-2) h) ∧
    (¬ wI (h 34 3) = 0 →
    RunsI G 212 [vR 34, vI x1] h (fun r1 h1 =>
    ((wI r1 = ((-9) : Int) →
      P (-1) h1) ∧
      (¬ wI r1 = ((-9) : Int) →
      ((wI r1 = 0 →
        P (-1) h1) ∧
        (¬ wI r1 = 0 →
        Go G (pI P) 267 30 [some (vR 34), none, some (vI r1), some (vI 1)] [] h1)))))))) :
  RunsI G 267 [vR 34, vI x1] h P := runs_of (by decide) 2 rfl (go1 ok267 900 H)
set_option maxRecDepth 100000 in
theorem q_M_drop_c30 {G : GG} {P : Int → AH → Prop} {x2 x3 : Int} {h : AH}
  (H : ((wI (h 34 34) ≤ wI x3 →
    ((0 ≤ wI x2 ∧ wI x2 < 200) ∧
    ((wI (bA (h 49 (wI x2).toNat) 1) = 0 →
      RunsV G 239 [vR 34] h (fun h1 =>
      RunsV G 177 [vR 34] h1 (fun h2 =>
      RunsV G 240 [vR 34, vI 0, vI x2] h2 (fun h3 =>
      RunsI G 179 [vR 34] h3 (fun r4 h4 =>
      ((wI r4 = 0 →
        P (-7) h4) ∧
        (¬ wI r4 = 0 →
        RunsV G 257 [vR 34, vI x2] h4 (fun h5 =>
        RunsI G 178 [vR 34] h5 (fun r6 h6 =>
        ((wI r6 = 0 →
          P (-7) h6) ∧
          (¬ wI r6 = 0 →
          RunsI G 265 [vR 34, vI 0] h6 (fun r7 h7 =>
          ((wI r7 = 0 →
            P (-7) h7) ∧
            (¬ wI r7 = 0 →
            ((0 ≤ (0 : Int) ∧ (0 : Int) < 2) ∧
            P (h7 54 0) h7))))))))))))))) ∧
      (¬ wI (bA (h 49 (wI x2).toNat) 1) = 0 →
      P (-5) h)))) ∧
    (¬ wI (h 34 34) ≤ wI x3 →
    ((0 ≤ wI x3 ∧ wI x3 < 200) ∧
    ((wI (h 42 (wI x3).toNat) = wI x2 →
      P (-1) h) ∧
      (¬ wI (h 42 (wI x3).toNat) = wI x2 →
      Go G (pI P) 267 30 [some (vR 34), none, some (vI x2), some (vI (x3 + 1))] [] h)))))) :
  Go G (pI P) 267 30 [some (vR 34), none, some (vI x2), some (vI x3)] [] h := go1 ok267 900 H
-- Model.isWithin(II)Z  [34]
set_option maxRecDepth 100000 in
theorem q_M_isWithin {G : GG} {P : Int → AH → Prop} {x1 x2 : Int} {h : AH}
  (H : Go G (pI P) 268 2 [some (vR 34), some (vI x1), none, some (vI x2)] [] h) :
  RunsI G 268 [vR 34, vI x1, vI x2] h P := runs_of (by decide) 1 rfl (go1 ok268 900 H)
set_option maxRecDepth 100000 in
theorem q_M_isWithin_c2 {G : GG} {P : Int → AH → Prop} {x1 x3 : Int} {h : AH}
  (H : ((wI x3 = ((-9) : Int) →
    ((wI x3 = wI x1 →
      (((1 : Int) = 0 ∨ (1 : Int) = 1) ∧ P 1 h)) ∧
      (¬ wI x3 = wI x1 →
      (((0 : Int) = 0 ∨ (0 : Int) = 1) ∧ P 0 h)))) ∧
    (¬ wI x3 = ((-9) : Int) →
    ((wI x3 = wI x1 →
      ((wI x3 = wI x1 →
        (((1 : Int) = 0 ∨ (1 : Int) = 1) ∧ P 1 h)) ∧
        (¬ wI x3 = wI x1 →
        (((0 : Int) = 0 ∨ (0 : Int) = 1) ∧ P 0 h)))) ∧
      (¬ wI x3 = wI x1 →
      ((0 ≤ wI x3 ∧ wI x3 < 200) ∧
      Go G (pI P) 268 2 [some (vR 34), some (vI x1), none, some (vI (h 42 (wI x3).toNat))] [] h)))))) :
  Go G (pI P) 268 2 [some (vR 34), some (vI x1), none, some (vI x3)] [] h := go1 ok268 900 H
-- Model.move(II)I  [34]
set_option maxRecDepth 100000 in
theorem q_M_move {G : GG} {P : Int → AH → Prop} {x1 x2 : Int} {h : AH}
  (H : RunsI G 233 [vR 34] h (fun r1 h1 =>
  ((wI (h1 34 3) = 0 →
    P (-2) h1) ∧
    (¬ wI (h1 34 3) = 0 →
    RunsI G 212 [vR 34, vI x1] h1 (fun r2 h2 =>
    RunsI G 213 [vR 34, vI x2] h2 (fun r3 h3 =>
    ((wI r2 = ((-9) : Int) →
      P (-1) h3) ∧
      (¬ wI r2 = ((-9) : Int) →
      ((wI r2 = 0 →
        P (-1) h3) ∧
        (¬ wI r2 = 0 →
        ((wI r3 = ((-9) : Int) →
          P (-1) h3) ∧
          (¬ wI r3 = ((-9) : Int) →
          RunsI G 268 [vR 34, vI r2, vI r3] h3 (fun r4 h4 =>
          ((wI r4 = 0 →
            RunsI G 202 [vR 52, vI r1] h4 (fun r5 h5 =>
            ((wI r5 = 0 →
              P (-3) h5) ∧
              (¬ wI r5 = 0 →
              RunsI G 234 [vR 34, vI r3, vI r1] h5 (fun r6 h6 =>
              ((wI r6 = ((-9) : Int) →
                Go G (pI P) 269 101 [some (vR 34), none, none, some (vI r1), some (vI r2), some (vI r3), none, none, none, none, none, none, none] [] h6) ∧
                (¬ wI r6 = ((-9) : Int) →
                ((wI r6 = wI r2 →
                  Go G (pI P) 269 101 [some (vR 34), none, none, some (vI r1), some (vI r2), some (vI r3), none, none, none, none, none, none, none] [] h6) ∧
                  (¬ wI r6 = wI r2 →
                  P (-4) h6))))))))) ∧
            (¬ wI r4 = 0 →
            P (-1) h4))))))))))))))) :
  RunsI G 269 [vR 34, vI x1, vI x2] h P := runs_of (by decide) 10 rfl (go1 ok269 900 H)
set_option maxRecDepth 100000 in
theorem q_M_move_c101 {G : GG} {P : Int → AH → Prop} {x3 x4 x5 : Int} {h : AH}
  (H : ((0 ≤ wI x4 ∧ wI x4 < 200) ∧
  ((wI (bA (h 49 (wI x4).toNat) 1) = 0 →
    RunsV G 239 [vR 34] h (fun h1 =>
    RunsV G 177 [vR 34] h1 (fun h2 =>
    ((wI x3 ≤ (15 : Int) →
      Go G (pI P) 269 138 [some (vR 34), none, none, some (vI x3), some (vI x4), some (vI x5), none, none, none, none, none, none, none] [vI 3, vI x5, vR 34] h2) ∧
      (¬ wI x3 ≤ (15 : Int) →
      Go G (pI P) 269 138 [some (vR 34), none, none, some (vI x3), some (vI x4), some (vI x5), none, none, none, none, none, none, none] [vI 4, vI x5, vR 34] h2))))) ∧
    (¬ wI (bA (h 49 (wI x4).toNat) 1) = 0 →
    P (-5) h)))) :
  Go G (pI P) 269 101 [some (vR 34), none, none, some (vI x3), some (vI x4), some (vI x5), none, none, none, none, none, none, none] [] h := go1 ok269 900 H
set_option maxRecDepth 100000 in
theorem q_M_move_c138 {G : GG} {P : Int → AH → Prop} {x3 x4 x5 s1 s2 : Int} {h : AH}
  (H : RunsI G 258 [vR 34, vI s1, vI s2] h (fun r1 h1 =>
  ((wI r1 = ((-6) : Int) →
    P (-6) h1) ∧
    (¬ wI r1 = ((-6) : Int) →
    ((0 ≤ wI x4 ∧ wI x4 < 200) ∧
    RunsV G 210 [vR 34, vI (h1 42 (wI x4).toNat)] h1 (fun h2 =>
    ((0 ≤ wI x4 ∧ wI x4 < 200) ∧
    RunsI G 197 [vR 34, vI (h2 43 (wI x4).toNat)] h2 (fun r3 h3 =>
    RunsL G 167 [vR 35, vI (r3 + 8), vI 4] h3 (fun r4 h4 =>
    ((0 ≤ wI x4 ∧ wI x4 < 200) ∧
    RunsI G 197 [vR 34, vI (h4 43 (wI x4).toNat)] h4 (fun r5 h5 =>
    RunsL G 167 [vR 35, vI (r5 + 12), vI 4] h5 (fun r6 h6 =>
    RunsI G 179 [vR 34] h6 (fun r7 h7 =>
    ((wI r7 = 0 →
      P (-7) h7) ∧
      (¬ wI r7 = 0 →
      RunsI G 261 [vR 34, vI 0] h7 (fun r8 h8 =>
      ((wI r8 = 0 →
        P (-7) h8) ∧
        (¬ wI r8 = 0 →
        RunsV G 262 [vR 34, vI x5] h8 (fun h9 =>
        RunsV G 250 [vR 34, vI 1] h9 (fun h10 =>
        ((4 : Int) ≠ 0 ∧ ((0 ≤ wI (Int.tdiv (wI r1) 4) ∧ wI (Int.tdiv (wI r1) 4) < 102) ∧
        ((4 : Int) ≠ 0 ∧ ((0 ≤ wI x4 ∧ wI x4 < 200) ∧
        ((0 ≤ wI x4 ∧ wI x4 < 200) ∧
        ((0 ≤ wI x4 ∧ wI x4 < 200) ∧
        ((0 ≤ wI x4 ∧ wI x4 < 200) ∧
        RunsV G 254 [vR 34, vI r1, vI x3, vI (h10 49 (wI x4).toNat), vL r4, vL r6, vL (h10 47 (wI x4).toNat), vI (h10 48 (wI x4).toNat), vI (h10 46 (wI x4).toNat)] h10 (fun h11 =>
        RunsI G 178 [vR 34] h11 (fun r12 h12 =>
        ((wI r12 = 0 →
          P (-7) h12) ∧
          (¬ wI r12 = 0 →
          RunsV G 257 [vR 34, vI x4] h12 (fun h13 =>
          RunsI G 178 [vR 34] h13 (fun r14 h14 =>
          ((wI r14 = 0 →
            P (-7) h14) ∧
            (¬ wI r14 = 0 →
            P ((4 * (h10 39 (wI (Int.tdiv (wI r1) 4)).toNat)) + (Int.tmod (wI r1) 4)) h14))))))))))))))))))))))))))))))))))) :
  Go G (pI P) 269 138 [some (vR 34), none, none, some (vI x3), some (vI x4), some (vI x5), none, none, none, none, none, none, none] [vI s2, vI s1, vR 34] h := go1 ok269 900 H
-- Model.bar(IZ)I  [34]
set_option maxRecDepth 100000 in
theorem q_M_bar {G : GG} {P : Int → AH → Prop} {x1 x2 : Int} {h : AH}
  (H : ((wI (h 34 3) = 0 →
    P (-2) h) ∧
    (¬ wI (h 34 3) = 0 →
    RunsI G 212 [vR 34, vI x1] h (fun r1 h1 =>
    ((wI r1 = ((-9) : Int) →
      P (-1) h1) ∧
      (¬ wI r1 = ((-9) : Int) →
      ((wI r1 = 0 →
        P (-1) h1) ∧
        (¬ wI r1 = 0 →
        RunsV G 177 [vR 34] h1 (fun h2 =>
        RunsI G 179 [vR 34] h2 (fun r3 h3 =>
        ((wI r3 = 0 →
          P (-7) h3) ∧
          (¬ wI r3 = 0 →
          ((0 ≤ wI r1 ∧ wI r1 < 200) ∧
          RunsV G 210 [vR 34, vI (h3 42 (wI r1).toNat)] h3 (fun h4 =>
          ((0 ≤ wI r1 ∧ wI r1 < 200) ∧
          RunsI G 197 [vR 34, vI (h4 43 (wI r1).toNat)] h4 (fun r5 h5 =>
          ((wI x2 = 0 →
            ((0 ≤ wI r1 ∧ wI r1 < 200) ∧
            Go G (pI P) 270 99 [some (vR 34), none, none, some (vI r1), some (vI (h4 43 (wI r1).toNat))] [vL (wI (bA (h5 49 (wI r1).toNat) (-2))), vI 2, vI (r5 + 4), vR 36] h5)) ∧
            (¬ wI x2 = 0 →
            ((0 ≤ wI r1 ∧ wI r1 < 200) ∧
            Go G (pI P) 270 99 [some (vR 34), none, none, some (vI r1), some (vI (h4 43 (wI r1).toNat))] [vL (wI (bO (h5 49 (wI r1).toNat) 1)), vI 2, vI (r5 + 4), vR 36] h5))))))))))))))))))) :
  RunsI G 270 [vR 34, vI x1, vI x2] h P := runs_of (by decide) 2 rfl (go1 ok270 900 H)
set_option maxRecDepth 100000 in
theorem q_M_bar_c99 {G : GG} {P : Int → AH → Prop} {x3 x4 s1 s2 t3 : Int} {h : AH}
  (H : RunsV G 168 [vR 36, vI s1, vI s2, vL t3] h (fun h1 =>
  ((0 ≤ wI x3 ∧ wI x3 < 200) ∧
  RunsV G 253 [vR 34, vI x4, vI (h1 44 (wI x3).toNat)] h1 (fun h2 =>
  RunsI G 178 [vR 34] h2 (fun r3 h3 =>
  ((wI r3 = 0 →
    P (-7) h3) ∧
    (¬ wI r3 = 0 →
    ((0 ≤ wI x3 ∧ wI x3 < 200) ∧
    P (bA (h3 49 (wI x3).toNat) 1) h3)))))))) :
  Go G (pI P) 270 99 [some (vR 34), none, none, some (vI x3), some (vI x4)] [vL t3, vI s2, vI s1, vR 36] h := go1 ok270 900 H
-- Model.read(II)J  [34]
set_option maxRecDepth 100000 in
theorem q_M_read {G : GG} {P : Int → AH → Prop} {x1 x2 : Int} {h : AH}
  (H : ((wI (h 34 3) = 0 →
    Go G (pL P) 271 17 [some (vR 34), none, some (vI x2), none, none, none, none, none, none] [vI (-9)] h) ∧
    (¬ wI (h 34 3) = 0 →
    RunsI G 214 [vR 34, vI x1] h (fun r1 h1 =>
    Go G (pL P) 271 17 [some (vR 34), none, some (vI x2), none, none, none, none, none, none] [vI r1] h1)))) :
  RunsL G 271 [vR 34, vI x1, vI x2] h P := runs_of (by decide) 6 rfl (go1 ok271 900 H)
set_option maxRecDepth 100000 in
theorem q_M_read_c17 {G : GG} {P : Int → AH → Prop} {x2 s0 : Int} {h : AH}
  (H : ((wI s0 = ((-9) : Int) →
    P 0 h) ∧
    (¬ wI s0 = ((-9) : Int) →
    ((0 ≤ wI x2 →
      RunsV G 210 [vR 34, vI s0] h (fun h1 =>
      Go G (pL P) 271 42 [some (vR 34), none, some (vI x2), some (vI s0), some (vL 0), none, some (vI 7), none, none] [] h1)) ∧
      (¬ 0 ≤ wI x2 →
      P 0 h))))) :
  Go G (pL P) 271 17 [some (vR 34), none, some (vI x2), none, none, none, none, none, none] [vI s0] h := go1 ok271 900 H
set_option maxRecDepth 100000 in
theorem q_M_read_c42 {G : GG} {P : Int → AH → Prop} {x2 x3 y4 x6 : Int} {h : AH}
  (H : ((wI x6 < 0 →
    P y4 h) ∧
    (¬ wI x6 < 0 →
    ((0 ≤ wI x3 ∧ wI x3 < 200) ∧
    ((wL (h 47 (wI x3).toNat) ≤ wL ((wI x2) + (wI x6)) →
      Go G (pL P) 271 42 [some (vR 34), none, some (vI x2), some (vI x3), some (vL (bOL (sLL y4 8) 0)), none, some (vI (x6 + (-1))), none, none] [] h) ∧
      (¬ wL (h 47 (wI x3).toNat) ≤ wL ((wI x2) + (wI x6)) →
      ((128 : Int) ≠ 0 ∧ ((0 ≤ wI (Int.tdiv (wL ((wI x2) + (wI x6))) 128) ∧ wI (Int.tdiv (wL ((wI x2) + (wI x6))) 128) < 102) ∧
      RunsI G 169 [vI (h 39 (wI (Int.tdiv (wL ((wI x2) + (wI x6))) 128)).toNat)] h (fun r1 h1 =>
      ((128 : Int) ≠ 0 ∧ ((0 ≤ wI (r1 + (Int.tmod (wL ((wI x2) + (wI x6))) 128)) ∧ wI (r1 + (Int.tmod (wL ((wI x2) + (wI x6))) 128)) < 13824) ∧
      Go G (pL P) 271 42 [some (vR 34), none, some (vI x2), some (vI x3), some (vL (bOL (sLL y4 8) (wI (bA (h1 35 (wI (r1 + (Int.tmod (wL ((wI x2) + (wI x6))) 128))).toNat) 255)))), none, some (vI (x6 + (-1))), none, none] [] h1))))))))))) :
  Go G (pL P) 271 42 [some (vR 34), none, some (vI x2), some (vI x3), some (vL y4), none, some (vI x6), none, none] [] h := go1 ok271 900 H
-- Model.told(II)I  [34]
set_option maxRecDepth 100000 in
theorem q_M_told {G : GG} {P : Int → AH → Prop} {x1 x2 : Int} {h : AH}
  (H : ((wI (h 34 3) = 0 →
    P (-2) h) ∧
    (¬ wI (h 34 3) = 0 →
    RunsI G 212 [vR 34, vI x1] h (fun r1 h1 =>
    ((wI r1 = ((-9) : Int) →
      P (-1) h1) ∧
      (¬ wI r1 = ((-9) : Int) →
      RunsI G 166 [vL (wI x2), vL 0, vL 8] h1 (fun r2 h2 =>
      ((wI r2 = 0 →
        P (-1) h2) ∧
        (¬ wI r2 = 0 →
        ((wI r1 = 0 →
          RunsV G 200 [vR 34] h2 (fun h10 =>
          ((wI x2 = 0 →
            P 16 h10) ∧
            (¬ wI x2 = 0 →
            ((wI x2 = (1 : Int) →
              P (128 * (h10 34 17)) h10) ∧
              (¬ wI x2 = (1 : Int) →
              ((wI x2 = (2 : Int) →
                P (h10 34 1) h10) ∧
                (¬ wI x2 = (2 : Int) →
                P 0 h10)))))))) ∧
          (¬ wI r1 = 0 →
          ((0 ≤ wI r1 ∧ wI r1 < 200) ∧
          RunsV G 210 [vR 34, vI (h2 42 (wI r1).toNat)] h2 (fun h3 =>
          ((0 ≤ wI r1 ∧ wI r1 < 200) ∧
          RunsI G 197 [vR 34, vI (h3 43 (wI r1).toNat)] h3 (fun r4 h4 =>
          ((0 ≤ wI r1 ∧ wI r1 < 200) ∧
          RunsI G 197 [vR 34, vI ((h4 43 (wI r1).toNat) + 1)] h4 (fun r5 h5 =>
          ((wI x2 = 0 → ((0 ≤ wI r1 ∧ wI r1 < 200) ∧
            P (h5 49 (wI r1).toNat) h5)) ∧
            (¬ wI x2 = 0 → ((wI x2 = 1 → ((0 ≤ wI r1 ∧ wI r1 < 200) ∧
            P (h5 47 (wI r1).toNat) h5)) ∧
            (¬ wI x2 = 1 → ((wI x2 = 2 → ((0 ≤ wI r1 ∧ wI r1 < 200) ∧
            P (h5 48 (wI r1).toNat) h5)) ∧
            (¬ wI x2 = 2 → ((wI x2 = 3 → ((0 ≤ wI r1 ∧ wI r1 < 200) ∧
            ((wI (h5 46 (wI r1).toNat) = 0 →
              P 0 h5) ∧
              (¬ wI (h5 46 (wI r1).toNat) = 0 →
              P 1 h5)))) ∧
            (¬ wI x2 = 3 → ((wI x2 = 4 → ((0 ≤ wI (r5 + 3) ∧ wI (r5 + 3) < 13824) ∧
            P (bA (h5 35 (wI (r5 + 3)).toNat) 255) h5)) ∧
            (¬ wI x2 = 4 → ((wI x2 = 5 → RunsL G 167 [vR 35, vI (r5 + 4), vI 2] h5 (fun r9 h9 =>
            P r9 h9)) ∧
            (¬ wI x2 = 5 → ((wI x2 = 6 → RunsL G 167 [vR 35, vI (r4 + 2), vI 2] h5 (fun r8 h8 =>
            P r8 h8)) ∧
            (¬ wI x2 = 6 → ((wI x2 = 7 → RunsL G 167 [vR 35, vI (r4 + 8), vI 4] h5 (fun r7 h7 =>
            P r7 h7)) ∧
            (¬ wI x2 = 7 → RunsL G 167 [vR 35, vI (r4 + 12), vI 4] h5 (fun r6 h6 =>
            P r6 h6)))))))))))))))))))))))))))))))))) :
  RunsI G 272 [vR 34, vI x1, vI x2] h P := runs_of (by decide) 3 rfl (go1 ok272 900 H)
-- Model.letter(II)I  [34]
set_option maxRecDepth 100000 in
theorem q_M_letter {G : GG} {P : Int → AH → Prop} {x1 x2 : Int} {h : AH}
  (H : ((wI (h 34 3) = 0 →
    P (-2) h) ∧
    (¬ wI (h 34 3) = 0 →
    RunsI G 212 [vR 34, vI x1] h (fun r1 h1 =>
    ((wI r1 = ((-9) : Int) →
      P (-1) h1) ∧
      (¬ wI r1 = ((-9) : Int) →
      ((wI r1 = 0 →
        P (-1) h1) ∧
        (¬ wI r1 = 0 →
        ((0 ≤ wI r1 ∧ wI r1 < 200) ∧
        RunsV G 210 [vR 34, vI (h1 42 (wI r1).toNat)] h1 (fun h2 =>
        ((0 ≤ wI r1 ∧ wI r1 < 200) ∧
        RunsI G 205 [vR 34, vI (h2 43 (wI r1).toNat)] h2 (fun r3 h3 =>
        RunsI G 166 [vL (wI x2), vL 0, vL (wI ((h3 34 19) - 1))] h3 (fun r4 h4 =>
        ((wI r4 = 0 →
          P (-1) h4) ∧
          (¬ wI r4 = 0 →
          ((0 ≤ wI x2 ∧ wI x2 < 30) ∧
          P (h4 40 (wI x2).toNat) h4)))))))))))))))) :
  RunsI G 273 [vR 34, vI x1, vI x2] h P := runs_of (by decide) 2 rfl (go1 ok273 900 H)
-- Model.cluster(II)I  [34]
set_option maxRecDepth 100000 in
theorem q_M_cluster {G : GG} {P : Int → AH → Prop} {x1 x2 : Int} {h : AH}
  (H : ((wI (h 34 3) = 0 →
    P (-2) h) ∧
    (¬ wI (h 34 3) = 0 →
    RunsI G 212 [vR 34, vI x1] h (fun r1 h1 =>
    ((wI r1 = ((-9) : Int) →
      P (-1) h1) ∧
      (¬ wI r1 = ((-9) : Int) →
      RunsV G 210 [vR 34, vI r1] h1 (fun h2 =>
      RunsI G 166 [vL (wI x2), vL 0, vL (wI ((h2 34 17) - 1))] h2 (fun r3 h3 =>
      ((wI r3 = 0 →
        P (-9) h3) ∧
        (¬ wI r3 = 0 →
        ((0 ≤ wI x2 ∧ wI x2 < 102) ∧
        P (h3 39 (wI x2).toNat) h3))))))))))) :
  RunsI G 274 [vR 34, vI x1, vI x2] h P := runs_of (by decide) 1 rfl (go1 ok274 900 H)
-- Model.longestFree()I  [34]
set_option maxRecDepth 100000 in
theorem q_M_longestFree {G : GG} {P : Int → AH → Prop} {h : AH}
  (H : Go G (pI P) 275 6 [some (vR 34), some (vI 0), some (vI 0), some (vI 2)] [] h) :
  RunsI G 275 [vR 34] h P := runs_of (by decide) 3 rfl (go1 ok275 900 H)
set_option maxRecDepth 100000 in
theorem q_M_longestFree_c6 {G : GG} {P : Int → AH → Prop} {x1 x2 x3 : Int} {h : AH}
  (H : ((wI ((h 34 0) + 1) < wI x3 →
    P x1 h) ∧
    (¬ wI ((h 34 0) + 1) < wI x3 →
    RunsI G 173 [vR 34, vR 35, vI x3] h (fun r1 h1 =>
    ((wI r1 = 0 →
      ((wI (x2 + 1) ≤ wI x1 →
        Go G (pI P) 275 6 [some (vR 34), some (vI x1), some (vI (x2 + 1)), some (vI (x3 + 1))] [] h1) ∧
        (¬ wI (x2 + 1) ≤ wI x1 →
        Go G (pI P) 275 6 [some (vR 34), some (vI (x2 + 1)), some (vI (x2 + 1)), some (vI (x3 + 1))] [] h1))) ∧
      (¬ wI r1 = 0 →
      (((0 : Int) ≤ wI x1 →
        Go G (pI P) 275 6 [some (vR 34), some (vI x1), some (vI 0), some (vI (x3 + 1))] [] h1) ∧
        (¬ (0 : Int) ≤ wI x1 →
        Go G (pI P) 275 6 [some (vR 34), some (vI 0), some (vI 0), some (vI (x3 + 1))] [] h1)))))))) :
  Go G (pI P) 275 6 [some (vR 34), some (vI x1), some (vI x2), some (vI x3)] [] h := go1 ok275 900 H
-- Model.count(I)I  [34]
set_option maxRecDepth 100000 in
theorem q_M_count {G : GG} {P : Int → AH → Prop} {x1 : Int} {h : AH}
  (H : RunsI G 166 [vL (wI x1), vL 0, vL 5] h (fun r1 h1 =>
  ((wI r1 = 0 →
    P (-1) h1) ∧
    (¬ wI r1 = 0 →
    ((wI x1 ≤ (3 : Int) →
      ((wI (h1 34 3) = 0 →
        P (-2) h1) ∧
        (¬ wI (h1 34 3) = 0 →
        ((wI x1 = 0 →
          P (h1 34 0) h1) ∧
          (¬ wI x1 = 0 →
          ((wI x1 = (1 : Int) →
            RunsI G 238 [vR 34] h1 (fun r3 h3 =>
            P r3 h3)) ∧
            (¬ wI x1 = (1 : Int) →
            ((wI x1 = (2 : Int) →
              RunsI G 275 [vR 34] h1 (fun r2 h2 =>
              P r2 h2)) ∧
              (¬ wI x1 = (2 : Int) →
              ((0 ≤ (44 : Int) ∧ (44 : Int) < 13824) ∧
              P (bA (sRI (h1 35 44) 1) 1) h1)))))))))) ∧
      (¬ wI x1 ≤ (3 : Int) →
      ((wI x1 = (4 : Int) →
        P (h1 34 6) h1) ∧
        (¬ wI x1 = (4 : Int) →
        ((wI (h1 34 3) = 0 →
          P 0 h1) ∧
          (¬ wI (h1 34 3) = 0 →
          P 1 h1)))))))))) :
  RunsI G 276 [vR 34, vI x1] h P := runs_of (by decide) 0 rfl (go1 ok276 900 H)
