/-! code tables, by program out of the printed bytecode, and their checks -/
def cd115 : List (List EM) := [[(false, 4, 0, 0, 0, 0, 0, 1), (false, 2, 1, 0, 0, 0, 0, 2), (false, 27, 110, 1, 111, 9, 0, 5), eD, eD, (false, 15, 0, 28, 0, 0, 0, 8), eD, eD, (false, 2, 1, 0, 0, 0, 0, 9), (false, 4, 0, 0, 0, 0, 0, 10), (false, 19, 9, 4, 20, 0, 0, 13), eD, eD, (false, 16, 0, 28, 0, 0, 0, 16), eD, eD],
  [(false, 4, 0, 0, 0, 0, 0, 17), (false, 2, 1, 0, 0, 0, 0, 18), (false, 27, 113, 1, 127, 9, 0, 21), eD, eD, (false, 15, 1, 28, 0, 0, 0, 24), eD, eD, (false, 0, 0, 0, 0, 0, 1, 25), (false, 17, 0, 29, 0, 0, 0, 28), eD, eD, (false, 0, 0, 0, 0, 0, 0, 29), (false, 29, 0, 0, 0, 1, 0, 30)]]
set_option maxRecDepth 100000 in
theorem ok115 : okM 115 cd115 = true := by decide +kernel
def cd116 : List (List EM) := [[(false, 4, 0, 0, 0, 0, 0, 1), (false, 0, 0, 0, 0, 0, 1, 2), (false, 27, 118, 1, 157, 9, 0, 5), eD, eD, (false, 29, 0, 0, 0, 0, 0, 6)]]
set_option maxRecDepth 100000 in
theorem ok116 : okM 116 cd116 = true := by decide +kernel
def cd117 : List (List EM) := [[(false, 0, 0, 0, 0, 0, 0, 1), (false, 5, 3, 0, 0, 0, 0, 2), (true, 2, 3, 0, 0, 0, 0, 3), (false, 2, 2, 0, 0, 0, 0, 4), (false, 16, 3, 25, 0, 0, 0, 7), eD, eD, (false, 4, 0, 0, 0, 0, 0, 8), (false, 2, 1, 0, 0, 0, 0, 9), (false, 2, 3, 0, 0, 0, 0, 10), (false, 9, 0, 0, 0, 0, 0, 11), (false, 27, 115, 1, 158, 9, 0, 14), eD, eD, (false, 15, 1, 19, 0, 0, 0, 17), eD],
  [eD, (false, 0, 0, 0, 0, 0, 0, 18), (false, 29, 0, 0, 0, 1, 0, 19), (false, 8, 3, 0, 0, 0, 1, 22), eD, eD, (false, 17, 0, 2, 0, 0, 0, 25), eD, eD, (false, 0, 0, 0, 0, 0, 1, 26), (false, 29, 0, 0, 0, 1, 0, 27)]]
set_option maxRecDepth 100000 in
theorem ok117 : okM 117 cd117 = true := by decide +kernel
def cd118 : List (List EM) := [[(false, 0, 0, 0, 0, 0, 0, 1), (false, 5, 2, 0, 0, 0, 0, 2), (false, 0, 0, 0, 0, 0, 2, 3), (false, 5, 3, 0, 0, 0, 0, 4), (true, 2, 3, 0, 0, 0, 0, 5), (false, 4, 0, 0, 0, 0, 0, 6), (false, 19, 9, 1, 10, 0, 0, 9), eD, eD, (false, 0, 0, 0, 0, 0, 1, 10), (false, 9, 0, 0, 0, 0, 0, 11), (false, 16, 4, 47, 0, 0, 0, 14), eD, eD, (false, 4, 0, 0, 0, 0, 0, 15), (false, 2, 3, 0, 0, 0, 0, 16)],
  [(false, 27, 115, 1, 158, 9, 0, 19), eD, eD, (false, 15, 0, 28, 0, 0, 0, 22), eD, eD, (false, 2, 2, 0, 0, 0, 0, 23), (false, 0, 0, 0, 0, 0, 1, 24), (false, 9, 0, 0, 0, 0, 0, 25), (false, 17, 0, 29, 0, 0, 0, 28), eD, eD, (false, 0, 0, 0, 0, 0, 0, 29), (false, 5, 2, 0, 0, 0, 0, 30), (false, 2, 2, 0, 0, 0, 0, 31), (false, 2, 1, 0, 0, 0, 0, 32)],
  [(false, 16, 1, 41, 0, 0, 0, 35), eD, eD, (false, 2, 3, 0, 0, 0, 0, 36), (false, 2, 1, 0, 0, 0, 0, 37), (false, 9, 1, 0, 0, 0, 0, 38), (false, 0, 0, 0, 0, 0, 1, 39), (false, 9, 0, 0, 0, 0, 0, 40), (false, 29, 0, 0, 0, 0, 0, 41), (false, 8, 3, 0, 0, 0, 1, 44), eD, eD, (false, 17, 0, 4, 0, 0, 0, 47), eD, eD, (false, 0, 0, 0, 0, 0, 0, 48)],
  [(false, 29, 0, 0, 0, 0, 0, 49)]]
set_option maxRecDepth 100000 in
theorem ok118 : okM 118 cd118 = true := by decide +kernel
def cd119 : List (List EM) := [[(false, 0, 0, 0, 0, 0, 0, 1), (false, 5, 1, 0, 0, 0, 0, 2), (false, 0, 0, 0, 0, 0, 2, 3), (false, 5, 2, 0, 0, 0, 0, 4), (true, 2, 2, 0, 0, 0, 0, 5), (false, 4, 0, 0, 0, 0, 0, 6), (false, 19, 9, 1, 10, 0, 0, 9), eD, eD, (false, 0, 0, 0, 0, 0, 1, 10), (false, 9, 0, 0, 0, 0, 0, 11), (false, 16, 4, 31, 0, 0, 0, 14), eD, eD, (false, 4, 0, 0, 0, 0, 0, 15), (false, 2, 2, 0, 0, 0, 0, 16)],
  [(false, 27, 113, 1, 127, 9, 0, 19), eD, eD, (false, 15, 1, 25, 0, 0, 0, 22), eD, eD, (false, 8, 1, 0, 0, 0, 1, 25), eD, eD, (false, 8, 2, 0, 0, 0, 1, 28), eD, eD, (false, 17, 0, 4, 0, 0, 0, 31), eD, eD, (false, 2, 1, 0, 0, 0, 0, 32)],
  [(false, 29, 0, 0, 0, 0, 0, 33)]]
set_option maxRecDepth 100000 in
theorem ok119 : okM 119 cd119 = true := by decide +kernel
def cd120 : List (List EM) := [[(false, 0, 0, 0, 0, 0, 0, 1), (false, 5, 1, 0, 0, 0, 0, 2), (false, 0, 0, 0, 0, 0, 0, 3), (false, 5, 2, 0, 0, 0, 0, 4), (false, 0, 0, 0, 0, 0, 2, 5), (false, 5, 3, 0, 0, 0, 0, 6), (true, 2, 3, 0, 0, 0, 0, 7), (false, 4, 0, 0, 0, 0, 0, 8), (false, 19, 9, 1, 10, 0, 0, 11), eD, eD, (false, 0, 0, 0, 0, 0, 1, 12), (false, 9, 0, 0, 0, 0, 0, 13), (false, 16, 4, 44, 0, 0, 0, 16), eD, eD],
  [(false, 4, 0, 0, 0, 0, 0, 17), (false, 2, 3, 0, 0, 0, 0, 18), (false, 27, 113, 1, 127, 9, 0, 21), eD, eD, (false, 15, 0, 28, 0, 0, 0, 24), eD, eD, (false, 0, 0, 0, 0, 0, 0, 25), (false, 17, 0, 31, 0, 0, 0, 28), eD, eD, (false, 2, 2, 0, 0, 0, 0, 29), (false, 0, 0, 0, 0, 0, 1, 30), (false, 9, 0, 0, 0, 0, 0, 31), (false, 5, 2, 0, 0, 0, 0, 32)],
  [(false, 2, 1, 0, 0, 0, 0, 33), (false, 2, 2, 0, 0, 0, 0, 34), (false, 34, 0, 0, 4, 0, 0, 37), eD, eD, (false, 5, 1, 0, 0, 0, 0, 38), (false, 8, 3, 0, 0, 0, 1, 41), eD, eD, (false, 17, 0, 6, 0, 0, 0, 44), eD, eD, (false, 2, 1, 0, 0, 0, 0, 45), (false, 29, 0, 0, 0, 0, 0, 46)]]
set_option maxRecDepth 100000 in
theorem ok120 : okM 120 cd120 = true := by decide +kernel
def cd121 : List (List EM) := [[(false, 4, 0, 0, 0, 0, 0, 1), (false, 19, 9, 1, 10, 0, 0, 4), eD, eD, (false, 15, 5, 27, 0, 0, 0, 7), eD, eD, (false, 0, 1, 0, 0, 0, 100, 9), eD, (false, 4, 0, 0, 0, 0, 0, 10), (false, 19, 9, 1, 10, 0, 0, 13), eD, eD, (false, 4, 0, 0, 0, 0, 0, 14), (false, 27, 119, 0, 126, 9, 0, 17), eD],
  [eD, (false, 9, 1, 0, 0, 0, 0, 18), (false, 9, 2, 0, 0, 0, 0, 19), (false, 4, 0, 0, 0, 0, 0, 20), (false, 19, 9, 1, 10, 0, 0, 23), eD, eD, (false, 10, 0, 0, 0, 0, 0, 24), (false, 17, 0, 28, 0, 0, 0, 27), eD, eD, (false, 0, 0, 0, 0, 0, 0, 28), (false, 29, 0, 0, 0, 0, 0, 29)]]
set_option maxRecDepth 100000 in
theorem ok121 : okM 121 cd121 = true := by decide +kernel
def cd122 : List (List EM) := [[(false, 0, 2, 0, 0, 0, 768, 3), eD, eD, (false, 0, 1, 0, 0, 0, 32, 5), eD, (false, 2, 0, 0, 0, 0, 0, 6), (false, 9, 2, 0, 0, 0, 0, 7), (false, 9, 0, 0, 0, 0, 0, 8), (false, 29, 0, 0, 0, 0, 0, 9)]]
set_option maxRecDepth 100000 in
theorem ok122 : okM 122 cd122 = true := by decide +kernel
def cd123 : List (List EM) := [[(false, 2, 0, 0, 0, 0, 0, 1), (false, 0, 2, 0, 0, 0, 1024, 4), eD, eD, (false, 9, 1, 0, 0, 0, 0, 5), (false, 0, 2, 0, 0, 0, 256, 8), eD, eD, (false, 9, 0, 0, 0, 0, 0, 9), (false, 0, 1, 0, 0, 0, 32, 11), eD, (false, 10, 0, 0, 0, 0, 0, 12), (false, 29, 0, 0, 0, 0, 0, 13)]]
set_option maxRecDepth 100000 in
theorem ok123 : okM 123 cd123 = true := by decide +kernel
def cd124 : List (List EM) := [[(false, 2, 1, 0, 0, 0, 0, 1), (false, 0, 0, 0, 0, 0, 2, 2), (false, 9, 7, 0, 0, 0, 0, 3), (false, 5, 2, 0, 0, 0, 0, 4), (false, 2, 1, 0, 0, 0, 0, 5), (false, 0, 0, 0, 0, 0, 3, 6), (false, 9, 3, 0, 0, 0, 0, 7), (false, 15, 1, 18, 0, 0, 0, 10), eD, eD, (false, 2, 1, 0, 0, 0, 0, 11), (false, 28, 122, 1, 49, 0, 0, 14), eD, eD, (false, 0, 1, 0, 0, 0, 64, 16), eD],
  [(false, 9, 0, 0, 0, 0, 0, 17), (false, 29, 0, 0, 0, 0, 0, 18), (false, 2, 2, 0, 0, 0, 0, 19), (false, 15, 2, 43, 0, 0, 0, 22), eD, eD, (false, 2, 2, 0, 0, 0, 0, 23), (false, 4, 0, 0, 0, 0, 0, 24), (false, 19, 10, 4, 35, 0, 0, 27), eD, eD, (false, 21, 0, 102, 0, 0, 0, 28), (false, 16, 3, 43, 0, 0, 0, 31), eD, eD, (false, 4, 0, 0, 0, 0, 0, 32)],
  [(false, 19, 10, 4, 35, 0, 0, 35), eD, eD, (false, 2, 2, 0, 0, 0, 0, 36), (false, 22, 0, 102, 0, 0, 0, 37), (false, 28, 109, 1, 196, 0, 0, 40), eD, eD, (false, 17, 0, 44, 0, 0, 0, 43), eD, eD, (false, 0, 0, 0, 0, 0, -1, 44), (false, 29, 0, 0, 0, 0, 0, 45)]]
set_option maxRecDepth 100000 in
theorem ok124 : okM 124 cd124 = true := by decide +kernel
def cd125 : List (List EM) := [[(false, 4, 0, 0, 0, 0, 0, 1), (false, 19, 10, 3, 34, 0, 0, 4), eD, eD, (false, 0, 0, 0, 0, 0, -1, 5), (false, 28, 277, 2, 119, 0, 0, 8), eD, eD, (false, 4, 0, 0, 0, 0, 0, 9), (false, 19, 10, 4, 35, 0, 0, 12), eD, eD, (false, 0, 0, 0, 0, 0, 0, 13), (false, 28, 277, 2, 119, 0, 0, 16), eD, eD],
  [(false, 4, 0, 0, 0, 0, 0, 17), (false, 19, 10, 5, 36, 0, 0, 20), eD, eD, (false, 0, 0, 0, 0, 0, 0, 21), (false, 0, 0, 0, 0, 0, 0, 22), (false, 23, 0, 102, 0, 0, 0, 23), (false, 4, 0, 0, 0, 0, 0, 24), (false, 0, 0, 0, 0, 0, 1, 25), (false, 20, 10, 6, 37, 0, 0, 28), eD, eD, (false, 0, 0, 0, 0, 0, 0, 29), (false, 5, 1, 0, 0, 0, 0, 30), (true, 2, 1, 0, 0, 0, 0, 31), (false, 4, 0, 0, 0, 0, 0, 32)],
  [(false, 19, 10, 6, 37, 0, 0, 35), eD, eD, (false, 16, 3, 114, 0, 0, 0, 38), eD, eD, (false, 2, 1, 0, 0, 0, 0, 39), (false, 4, 0, 0, 0, 0, 0, 40), (false, 19, 10, 5, 36, 0, 0, 43), eD, eD, (false, 21, 0, 102, 0, 0, 0, 44), (false, 16, 3, 114, 0, 0, 0, 47), eD, eD, (false, 4, 0, 0, 0, 0, 0, 48)],
  [(false, 4, 0, 0, 0, 0, 0, 49), (false, 19, 10, 5, 36, 0, 0, 52), eD, eD, (false, 2, 1, 0, 0, 0, 0, 53), (false, 22, 0, 102, 0, 0, 0, 54), (false, 4, 0, 0, 0, 0, 0, 55), (false, 19, 10, 7, 38, 0, 0, 58), eD, eD, (false, 27, 127, 2, 120, 10, 0, 61), eD, eD, (false, 0, 0, 0, 0, 0, 0, 62), (false, 5, 2, 0, 0, 0, 0, 63), (true, 2, 2, 0, 0, 0, 0, 64)],
  [(false, 4, 0, 0, 0, 0, 0, 65), (false, 19, 10, 7, 38, 0, 0, 68), eD, eD, (false, 19, 3, 1, 28, 0, 0, 71), eD, eD, (false, 16, 3, 108, 0, 0, 0, 74), eD, eD, (false, 4, 0, 0, 0, 0, 0, 75), (false, 4, 0, 0, 0, 0, 0, 76), (false, 19, 10, 5, 36, 0, 0, 79), eD, eD, (false, 2, 1, 0, 0, 0, 0, 80)],
  [(false, 22, 0, 102, 0, 0, 0, 81), (false, 4, 0, 0, 0, 0, 0, 82), (false, 19, 10, 7, 38, 0, 0, 85), eD, eD, (false, 2, 2, 0, 0, 0, 0, 86), (false, 27, 26, 1, 121, 3, 0, 89), eD, eD, (false, 4, 0, 0, 0, 0, 0, 90), (false, 19, 10, 7, 38, 0, 0, 93), eD, eD, (false, 2, 2, 0, 0, 0, 0, 94), (false, 0, 0, 0, 0, 0, 1, 95), (false, 9, 0, 0, 0, 0, 0, 96)],
  [(false, 27, 26, 1, 121, 3, 0, 99), eD, eD, (false, 27, 126, 3, 122, 10, 0, 102), eD, eD, (false, 8, 2, 0, 0, 0, 1, 105), eD, eD, (false, 17, 0, 63, 0, 0, 0, 108), eD, eD, (false, 8, 1, 0, 0, 0, 1, 111), eD, eD, (false, 17, 0, 30, 0, 0, 0, 114)],
  [eD, eD, (false, 31, 0, 0, 0, 0, 0, 115)]]
set_option maxRecDepth 100000 in
theorem ok125 : okM 125 cd125 = true := by decide +kernel
def cd126 : List (List EM) := [[(false, 2, 2, 0, 0, 0, 0, 1), (false, 15, 2, 13, 0, 0, 0, 4), eD, eD, (false, 2, 2, 0, 0, 0, 0, 5), (false, 4, 0, 0, 0, 0, 0, 6), (false, 19, 10, 3, 34, 0, 0, 9), eD, eD, (false, 21, 0, 102, 0, 0, 0, 10), (false, 16, 2, 14, 0, 0, 0, 13), eD, eD, (false, 31, 0, 0, 0, 0, 0, 14), (false, 4, 0, 0, 0, 0, 0, 15), (false, 19, 10, 3, 34, 0, 0, 18)],
  [eD, eD, (false, 2, 2, 0, 0, 0, 0, 19), (false, 2, 1, 0, 0, 0, 0, 20), (false, 23, 0, 102, 0, 0, 0, 21), (false, 4, 0, 0, 0, 0, 0, 22), (false, 19, 10, 4, 35, 0, 0, 25), eD, eD, (false, 2, 2, 0, 0, 0, 0, 26), (false, 2, 3, 0, 0, 0, 0, 27), (false, 23, 0, 102, 0, 0, 0, 28), (false, 0, 0, 0, 0, 0, 4, 29), (false, 2, 2, 0, 0, 0, 0, 30), (false, 9, 2, 0, 0, 0, 0, 31), (false, 5, 4, 1, 0, 0, 0, 33)],
  [eD, (true, 2, 4, 1, 0, 0, 0, 35), eD, (false, 0, 0, 0, 0, 0, 4, 36), (false, 2, 2, 0, 0, 0, 0, 37), (false, 9, 2, 0, 0, 0, 0, 38), (false, 0, 0, 0, 0, 0, 4, 39), (false, 9, 0, 0, 0, 0, 0, 40), (false, 16, 3, 124, 0, 0, 0, 43), eD, eD, (false, 4, 0, 0, 0, 0, 0, 44), (false, 19, 10, 0, 31, 0, 0, 47), eD, eD, (false, 2, 4, 1, 0, 0, 0, 49)],
  [eD, (false, 28, 122, 1, 49, 0, 0, 52), eD, eD, (false, 27, 54, 1, 123, 5, 0, 55), eD, eD, (false, 0, 2, 0, 0, 0, 133, 58), eD, eD, (false, 16, 1, 80, 0, 0, 0, 61), eD, eD, (false, 4, 0, 0, 0, 0, 0, 62), (false, 19, 10, 2, 33, 0, 0, 65), eD],
  [eD, (false, 2, 4, 1, 0, 0, 0, 67), eD, (false, 28, 122, 1, 49, 0, 0, 70), eD, eD, (false, 27, 83, 1, 124, 8, 0, 73), eD, eD, (false, 15, 0, 80, 0, 0, 0, 76), eD, eD, (false, 0, 0, 0, 0, 0, 1, 77), (false, 17, 0, 81, 0, 0, 0, 80), eD, eD],
  [(false, 0, 0, 0, 0, 0, 0, 81), (true, 5, 5, 1, 0, 0, 0, 83), eD, (false, 2, 5, 1, 0, 0, 0, 85), eD, (false, 15, 0, 118, 0, 0, 0, 88), eD, eD, (false, 4, 0, 0, 0, 0, 0, 89), (false, 19, 10, 6, 37, 0, 0, 92), eD, eD, (false, 4, 0, 0, 0, 0, 0, 93), (false, 19, 10, 5, 36, 0, 0, 96), eD, eD],
  [(false, 21, 0, 102, 0, 0, 0, 97), (false, 16, 3, 118, 0, 0, 0, 100), eD, eD, (false, 4, 0, 0, 0, 0, 0, 101), (false, 19, 10, 5, 36, 0, 0, 104), eD, eD, (false, 4, 0, 0, 0, 0, 0, 105), (false, 24, 0, 0, 0, 0, 0, 106), (false, 19, 10, 6, 37, 0, 0, 109), eD, eD, (false, 25, 0, 0, 0, 0, 0, 110), (false, 0, 0, 0, 0, 0, 1, 111), (false, 9, 0, 0, 0, 0, 0, 112)],
  [(false, 20, 10, 6, 37, 0, 0, 115), eD, eD, (false, 2, 4, 1, 0, 0, 0, 117), eD, (false, 23, 0, 102, 0, 0, 0, 118), (false, 8, 4, 0, 0, 0, 2, 121), eD, eD, (false, 17, 0, 33, 0, 0, 0, 124), eD, eD, (false, 31, 0, 0, 0, 0, 0, 125)]]
set_option maxRecDepth 100000 in
theorem ok126 : okM 126 cd126 = true := by decide +kernel
def cd127 : List (List EM) := [[(false, 2, 1, 0, 0, 0, 0, 1), (false, 28, 122, 1, 49, 0, 0, 4), eD, eD, (false, 5, 3, 0, 0, 0, 0, 5), (false, 2, 1, 0, 0, 0, 0, 6), (false, 15, 1, 27, 0, 0, 0, 9), eD, eD, (false, 4, 2, 0, 0, 0, 0, 10), (false, 4, 0, 0, 0, 0, 0, 11), (false, 19, 10, 1, 32, 0, 0, 14), eD, eD, (false, 4, 0, 0, 0, 0, 0, 15), (false, 19, 10, 1, 32, 0, 0, 18)],
  [eD, eD, (false, 19, 9, 2, 15, 0, 0, 21), eD, eD, (false, 27, 29, 2, 50, 3, 0, 24), eD, eD, (false, 17, 0, 60, 0, 0, 0, 27), eD, eD, (false, 4, 2, 0, 0, 0, 0, 28), (false, 4, 0, 0, 0, 0, 0, 29), (false, 19, 10, 1, 32, 0, 0, 32), eD, eD],
  [(false, 4, 0, 0, 0, 0, 0, 33), (false, 19, 10, 2, 33, 0, 0, 36), eD, eD, (false, 2, 3, 0, 0, 0, 0, 37), (false, 27, 87, 1, 54, 8, 0, 40), eD, eD, (false, 4, 0, 0, 0, 0, 0, 41), (false, 19, 10, 2, 33, 0, 0, 44), eD, eD, (false, 2, 3, 0, 0, 0, 0, 45), (false, 27, 85, 1, 56, 8, 0, 48), eD, eD],
  [(false, 4, 0, 0, 0, 0, 0, 49), (false, 19, 10, 2, 33, 0, 0, 52), eD, eD, (false, 2, 3, 0, 0, 0, 0, 53), (false, 27, 89, 1, 58, 8, 0, 56), eD, eD, (false, 27, 28, 4, 60, 3, 0, 59), eD, eD, (false, 26, 0, 0, 0, 0, 0, 60), (false, 31, 0, 0, 0, 0, 0, 61)]]
set_option maxRecDepth 100000 in
theorem ok127 : okM 127 cd127 = true := by decide +kernel
def cd128 : List (List EM) := [[(false, 2, 1, 0, 0, 0, 0, 1), (false, 0, 0, 0, 0, 0, 2, 2), (false, 9, 7, 0, 0, 0, 0, 3), (false, 5, 2, 0, 0, 0, 0, 4), (false, 2, 1, 0, 0, 0, 0, 5), (false, 15, 5, 58, 0, 0, 0, 8), eD, eD, (false, 4, 0, 0, 0, 0, 0, 9), (false, 19, 10, 1, 32, 0, 0, 12), eD, eD, (false, 2, 2, 0, 0, 0, 0, 13), (false, 27, 110, 1, 143, 9, 0, 16), eD, eD],
  [(false, 15, 0, 58, 0, 0, 0, 19), eD, eD, (false, 2, 2, 0, 0, 0, 0, 20), (false, 4, 0, 0, 0, 0, 0, 21), (false, 19, 10, 3, 34, 0, 0, 24), eD, eD, (false, 21, 0, 102, 0, 0, 0, 25), (false, 16, 3, 58, 0, 0, 0, 28), eD, eD, (false, 4, 0, 0, 0, 0, 0, 29), (false, 19, 10, 3, 34, 0, 0, 32), eD, eD],
  [(false, 2, 2, 0, 0, 0, 0, 33), (false, 22, 0, 102, 0, 0, 0, 34), (false, 15, 2, 58, 0, 0, 0, 37), eD, eD, (false, 4, 0, 0, 0, 0, 0, 38), (false, 19, 10, 0, 31, 0, 0, 41), eD, eD, (false, 2, 1, 0, 0, 0, 0, 42), (false, 28, 122, 1, 49, 0, 0, 45), eD, eD, (false, 27, 54, 1, 123, 5, 0, 48), eD, eD],
  [(false, 0, 2, 0, 0, 0, 133, 51), eD, eD, (false, 16, 1, 58, 0, 0, 0, 54), eD, eD, (false, 0, 0, 0, 0, 0, 1, 55), (false, 17, 0, 59, 0, 0, 0, 58), eD, eD, (false, 0, 0, 0, 0, 0, 0, 59), (false, 29, 0, 0, 0, 1, 0, 60)]]
set_option maxRecDepth 100000 in
theorem ok128 : okM 128 cd128 = true := by decide +kernel
def cd129 : List (List EM) := [[(false, 2, 1, 0, 0, 0, 0, 1), (false, 15, 0, 12, 0, 0, 0, 4), eD, eD, (false, 4, 0, 0, 0, 0, 0, 5), (false, 2, 1, 0, 0, 0, 0, 6), (false, 27, 128, 1, 142, 10, 0, 9), eD, eD, (false, 15, 0, 16, 0, 0, 0, 12), eD, eD, (false, 0, 0, 0, 0, 0, 1, 13), (false, 17, 0, 17, 0, 0, 0, 16), eD, eD],
  [(false, 0, 0, 0, 0, 0, 0, 17), (false, 29, 0, 0, 0, 1, 0, 18)]]
set_option maxRecDepth 100000 in
theorem ok129 : okM 129 cd129 = true := by decide +kernel
def cd130 : List (List EM) := [[(false, 2, 1, 0, 0, 0, 0, 1), (false, 15, 0, 26, 0, 0, 0, 4), eD, eD, (false, 4, 0, 0, 0, 0, 0, 5), (false, 2, 1, 0, 0, 0, 0, 6), (false, 27, 128, 1, 142, 10, 0, 9), eD, eD, (false, 15, 0, 30, 0, 0, 0, 12), eD, eD, (false, 4, 0, 0, 0, 0, 0, 13), (false, 19, 10, 2, 33, 0, 0, 16), eD, eD],
  [(false, 2, 1, 0, 0, 0, 0, 17), (false, 28, 122, 1, 49, 0, 0, 20), eD, eD, (false, 27, 83, 1, 124, 8, 0, 23), eD, eD, (false, 15, 0, 30, 0, 0, 0, 26), eD, eD, (false, 0, 0, 0, 0, 0, 1, 27), (false, 17, 0, 31, 0, 0, 0, 30), eD, eD, (false, 0, 0, 0, 0, 0, 0, 31), (false, 29, 0, 0, 0, 1, 0, 32)]]
set_option maxRecDepth 100000 in
theorem ok130 : okM 130 cd130 = true := by decide +kernel
def cd131 : List (List EM) := [[(false, 4, 0, 0, 0, 0, 0, 1), (false, 2, 1, 0, 0, 0, 0, 2), (false, 27, 128, 1, 142, 10, 0, 5), eD, eD, (false, 15, 0, 26, 0, 0, 0, 8), eD, eD, (false, 4, 0, 0, 0, 0, 0, 9), (false, 19, 10, 2, 33, 0, 0, 12), eD, eD, (false, 2, 1, 0, 0, 0, 0, 13), (false, 28, 122, 1, 49, 0, 0, 16), eD, eD],
  [(false, 27, 83, 1, 124, 8, 0, 19), eD, eD, (false, 15, 1, 26, 0, 0, 0, 22), eD, eD, (false, 0, 0, 0, 0, 0, 1, 23), (false, 17, 0, 27, 0, 0, 0, 26), eD, eD, (false, 0, 0, 0, 0, 0, 0, 27), (false, 29, 0, 0, 0, 1, 0, 28)]]
set_option maxRecDepth 100000 in
theorem ok131 : okM 131 cd131 = true := by decide +kernel
def cd132 : List (List EM) := [[(false, 2, 1, 0, 0, 0, 0, 1), (false, 5, 3, 0, 0, 0, 0, 2), (false, 0, 0, 0, 0, 0, 0, 3), (false, 5, 4, 1, 0, 0, 0, 5), eD, (true, 2, 4, 1, 0, 0, 0, 7), eD, (false, 0, 1, 0, 0, 0, 102, 9), eD, (false, 16, 3, 56, 0, 0, 0, 12), eD, eD, (false, 2, 3, 0, 0, 0, 0, 13), (false, 15, 5, 56, 0, 0, 0, 16), eD, eD],
  [(false, 2, 3, 0, 0, 0, 0, 17), (false, 2, 2, 0, 0, 0, 0, 18), (false, 16, 1, 23, 0, 0, 0, 21), eD, eD, (false, 0, 0, 0, 0, 0, 1, 22), (false, 29, 0, 0, 0, 1, 0, 23), (false, 2, 3, 0, 0, 0, 0, 24), (false, 0, 0, 0, 0, 0, 2, 25), (false, 9, 7, 0, 0, 0, 0, 26), (false, 5, 5, 1, 0, 0, 0, 28), eD, (false, 2, 5, 1, 0, 0, 0, 30), eD, (false, 4, 0, 0, 0, 0, 0, 31), (false, 19, 10, 3, 34, 0, 0, 34)],
  [eD, eD, (false, 21, 0, 102, 0, 0, 0, 35), (false, 16, 3, 48, 0, 0, 0, 38), eD, eD, (false, 4, 0, 0, 0, 0, 0, 39), (false, 19, 10, 3, 34, 0, 0, 42), eD, eD, (false, 2, 5, 1, 0, 0, 0, 44), eD, (false, 22, 0, 102, 0, 0, 0, 45), (false, 17, 0, 49, 0, 0, 0, 48), eD, eD],
  [(false, 0, 0, 0, 0, 0, 0, 49), (false, 5, 3, 0, 0, 0, 0, 50), (false, 8, 4, 0, 0, 0, 1, 53), eD, eD, (false, 17, 0, 5, 0, 0, 0, 56), eD, eD, (false, 0, 0, 0, 0, 0, 0, 57), (false, 29, 0, 0, 0, 1, 0, 58)]]
set_option maxRecDepth 100000 in
theorem ok132 : okM 132 cd132 = true := by decide +kernel
def cd133 : List (List EM) := [[(false, 4, 0, 0, 0, 0, 0, 1), (false, 2, 1, 0, 0, 0, 0, 2), (false, 4, 2, 0, 0, 0, 0, 3), (false, 0, 1, 0, 0, 0, -9, 5), eD, (false, 27, 134, 3, 146, 10, 0, 8), eD, eD, (false, 29, 0, 0, 0, 0, 0, 9)]]
set_option maxRecDepth 100000 in
theorem ok133 : okM 133 cd133 = true := by decide +kernel
def cd134 : List (List EM) := [[(false, 4, 0, 0, 0, 0, 0, 1), (false, 2, 1, 0, 0, 0, 0, 2), (false, 4, 0, 0, 0, 0, 0, 3), (false, 19, 10, 7, 38, 0, 0, 6), eD, eD, (false, 27, 127, 2, 120, 10, 0, 9), eD, eD, (false, 0, 0, 0, 0, 0, 0, 10), (false, 5, 4, 1, 0, 0, 0, 12), eD, (true, 2, 4, 1, 0, 0, 0, 14), eD, (false, 4, 0, 0, 0, 0, 0, 15), (false, 19, 10, 7, 38, 0, 0, 18)],
  [eD, eD, (false, 27, 31, 0, 147, 3, 0, 21), eD, eD, (false, 16, 3, 95, 0, 0, 0, 24), eD, eD, (false, 4, 0, 0, 0, 0, 0, 25), (false, 19, 10, 7, 38, 0, 0, 28), eD, eD, (false, 2, 4, 1, 0, 0, 0, 30), eD, (false, 27, 32, 1, 148, 3, 0, 33), eD],
  [eD, (false, 5, 5, 1, 0, 0, 0, 35), eD, (false, 4, 0, 0, 0, 0, 0, 36), (false, 19, 10, 0, 31, 0, 0, 39), eD, eD, (false, 2, 5, 1, 0, 0, 0, 41), eD, (false, 27, 54, 1, 123, 5, 0, 44), eD, eD, (false, 0, 2, 0, 0, 0, 133, 47), eD, eD, (false, 16, 1, 89, 0, 0, 0, 50)],
  [eD, eD, (false, 2, 5, 1, 0, 0, 0, 52), eD, (false, 28, 123, 1, 149, 0, 0, 55), eD, eD, (false, 2, 3, 0, 0, 0, 0, 56), (false, 16, 0, 89, 0, 0, 0, 59), eD, eD, (false, 4, 0, 0, 0, 0, 0, 60), (false, 19, 10, 2, 33, 0, 0, 63), eD, eD, (false, 4, 2, 0, 0, 0, 0, 64)],
  [(false, 2, 5, 1, 0, 0, 0, 66), eD, (false, 4, 0, 0, 0, 0, 0, 67), (false, 19, 10, 7, 38, 0, 0, 70), eD, eD, (false, 2, 4, 1, 0, 0, 0, 72), eD, (false, 0, 0, 0, 0, 0, 2, 73), (false, 9, 0, 0, 0, 0, 0, 74), (false, 27, 32, 1, 148, 3, 0, 77), eD, eD, (false, 27, 95, 3, 150, 8, 0, 80), eD, eD],
  [(false, 15, 0, 89, 0, 0, 0, 83), eD, eD, (false, 2, 5, 1, 0, 0, 0, 85), eD, (false, 28, 123, 1, 149, 0, 0, 88), eD, eD, (false, 29, 0, 0, 0, 0, 0, 89), (false, 8, 4, 0, 0, 0, 2, 92), eD, eD, (false, 17, 0, 12, 0, 0, 0, 95), eD, eD, (false, 0, 1, 0, 0, 0, -9, 97)],
  [eD, (false, 29, 0, 0, 0, 0, 0, 98)]]
set_option maxRecDepth 100000 in
theorem ok134 : okM 134 cd134 = true := by decide +kernel
def cd135 : List (List EM) := [[(false, 4, 0, 0, 0, 0, 0, 1), (false, 2, 1, 0, 0, 0, 0, 2), (false, 4, 0, 0, 0, 0, 0, 3), (false, 19, 10, 7, 38, 0, 0, 6), eD, eD, (false, 27, 127, 2, 120, 10, 0, 9), eD, eD, (false, 2, 2, 0, 0, 0, 0, 10), (false, 5, 3, 0, 0, 0, 0, 11), (false, 0, 0, 0, 0, 0, 0, 12), (false, 5, 4, 1, 0, 0, 0, 14), eD, (true, 2, 4, 1, 0, 0, 0, 16), eD],
  [(false, 4, 0, 0, 0, 0, 0, 17), (false, 19, 10, 7, 38, 0, 0, 20), eD, eD, (false, 27, 31, 0, 147, 3, 0, 23), eD, eD, (false, 16, 3, 78, 0, 0, 0, 26), eD, eD, (false, 2, 3, 0, 0, 0, 0, 27), (false, 15, 2, 78, 0, 0, 0, 30), eD, eD, (false, 4, 0, 0, 0, 0, 0, 31), (false, 19, 10, 7, 38, 0, 0, 34)],
  [eD, eD, (false, 2, 4, 1, 0, 0, 0, 36), eD, (false, 27, 32, 1, 148, 3, 0, 39), eD, eD, (false, 5, 5, 1, 0, 0, 0, 41), eD, (false, 4, 0, 0, 0, 0, 0, 42), (false, 19, 10, 0, 31, 0, 0, 45), eD, eD, (false, 2, 5, 1, 0, 0, 0, 47), eD, (false, 27, 54, 1, 123, 5, 0, 50)],
  [eD, eD, (false, 0, 2, 0, 0, 0, 133, 53), eD, eD, (false, 16, 0, 59, 0, 0, 0, 56), eD, eD, (false, 17, 0, 72, 0, 0, 0, 59), eD, eD, (false, 2, 3, 0, 0, 0, 0, 60), (false, 15, 1, 69, 0, 0, 0, 63), eD, eD, (false, 2, 5, 1, 0, 0, 0, 65)],
  [eD, (false, 28, 123, 1, 149, 0, 0, 68), eD, eD, (false, 29, 0, 0, 0, 0, 0, 69), (false, 8, 3, 0, 0, 0, -1, 72), eD, eD, (false, 8, 4, 0, 0, 0, 2, 75), eD, eD, (false, 17, 0, 14, 0, 0, 0, 78), eD, eD, (false, 0, 1, 0, 0, 0, -9, 80), eD],
  [(false, 29, 0, 0, 0, 0, 0, 81)]]
set_option maxRecDepth 100000 in
theorem ok135 : okM 135 cd135 = true := by decide +kernel
def cd136 : List (List EM) := [[(false, 4, 0, 0, 0, 0, 0, 1), (false, 2, 1, 0, 0, 0, 0, 2), (false, 4, 0, 0, 0, 0, 0, 3), (false, 19, 10, 7, 38, 0, 0, 6), eD, eD, (false, 27, 127, 2, 120, 10, 0, 9), eD, eD, (false, 2, 2, 0, 0, 0, 0, 10), (false, 15, 2, 35, 0, 0, 0, 13), eD, eD, (false, 2, 2, 0, 0, 0, 0, 14), (false, 4, 0, 0, 0, 0, 0, 15), (false, 19, 10, 7, 38, 0, 0, 18)],
  [eD, eD, (false, 19, 3, 1, 28, 0, 0, 21), eD, eD, (false, 16, 3, 35, 0, 0, 0, 24), eD, eD, (false, 4, 0, 0, 0, 0, 0, 25), (false, 19, 10, 7, 38, 0, 0, 28), eD, eD, (false, 2, 2, 0, 0, 0, 0, 29), (false, 27, 26, 1, 121, 3, 0, 32), eD, eD],
  [(false, 17, 0, 37, 0, 0, 0, 35), eD, eD, (false, 0, 1, 0, 0, 0, -9, 37), eD, (false, 29, 0, 0, 0, 0, 0, 38)]]
set_option maxRecDepth 100000 in
theorem ok136 : okM 136 cd136 = true := by decide +kernel
def cd137 : List (List EM) := [[(false, 4, 0, 0, 0, 0, 0, 1), (false, 0, 0, 0, 0, 0, 0, 2), (false, 4, 0, 0, 0, 0, 0, 3), (false, 19, 10, 7, 38, 0, 0, 6), eD, eD, (false, 27, 127, 2, 120, 10, 0, 9), eD, eD, (false, 2, 1, 0, 0, 0, 0, 10), (false, 32, 0, 0, 2, 0, 0, 36), eD, eD, eD, eD, eD],
  [eD, eD, eD, eD, eD, eD, eD, eD, eD, eD, eD, eD, eD, eD, eD, eD],
  [eD, eD, eD, eD, (false, 0, 1, 0, 0, 0, 16, 38), eD, (false, 29, 0, 0, 0, 0, 0, 39), (false, 0, 2, 0, 0, 0, 128, 42), eD, eD, (false, 4, 0, 0, 0, 0, 0, 43), (false, 19, 10, 7, 38, 0, 0, 46), eD, eD, (false, 19, 3, 1, 28, 0, 0, 49), eD],
  [eD, (false, 9, 2, 0, 0, 0, 0, 50), (false, 29, 0, 0, 0, 0, 0, 51), (false, 4, 0, 0, 0, 0, 0, 52), (false, 19, 10, 1, 32, 0, 0, 55), eD, eD, (false, 19, 9, 2, 15, 0, 0, 58), eD, eD, (false, 29, 0, 0, 0, 0, 0, 59), (false, 0, 0, 0, 0, 0, 0, 60), (false, 29, 0, 0, 0, 0, 0, 61)]]
set_option maxRecDepth 100000 in
theorem ok137 : okM 137 cd137 = true := by decide +kernel
def cd138 : List (List EM) := [[(false, 4, 0, 0, 0, 0, 0, 1), (false, 19, 10, 2, 33, 0, 0, 4), eD, eD, (false, 2, 1, 0, 0, 0, 0, 5), (false, 28, 122, 1, 49, 0, 0, 8), eD, eD, (false, 27, 88, 1, 231, 8, 0, 11), eD, eD, (false, 5, 3, 0, 0, 0, 0, 12), (false, 2, 2, 0, 0, 0, 0, 13), (false, 15, 2, 21, 0, 0, 0, 16), eD, eD],
  [(false, 2, 2, 0, 0, 0, 0, 17), (false, 2, 3, 0, 0, 0, 0, 18), (false, 16, 2, 23, 0, 0, 0, 21), eD, eD, (false, 1, 0, 0, 0, 0, 0, 22), (false, 30, 0, 0, 0, 0, 0, 23), (false, 4, 0, 0, 0, 0, 0, 24), (false, 2, 1, 0, 0, 0, 0, 25), (false, 4, 0, 0, 0, 0, 0, 26), (false, 19, 10, 7, 38, 0, 0, 29), eD, eD, (false, 27, 127, 2, 120, 10, 0, 32), eD, eD],
  [(false, 1, 0, 0, 0, 0, 0, 33), (false, 6, 4, 1, 0, 0, 0, 35), eD, (false, 0, 0, 0, 0, 0, 0, 36), (false, 5, 6, 1, 0, 0, 0, 38), eD, (true, 2, 6, 1, 0, 0, 0, 40), eD, (false, 0, 1, 0, 0, 0, 8, 42), eD, (false, 16, 3, 109, 0, 0, 0, 45), eD, eD, (false, 2, 2, 0, 0, 0, 0, 46), (false, 2, 6, 1, 0, 0, 0, 48), eD],
  [(false, 9, 0, 0, 0, 0, 0, 49), (false, 2, 3, 0, 0, 0, 0, 50), (false, 16, 3, 109, 0, 0, 0, 53), eD, eD, (false, 4, 0, 0, 0, 0, 0, 54), (false, 19, 10, 7, 38, 0, 0, 57), eD, eD, (false, 2, 2, 0, 0, 0, 0, 58), (false, 2, 6, 1, 0, 0, 0, 60), eD, (false, 9, 0, 0, 0, 0, 0, 61), (false, 0, 2, 0, 0, 0, 128, 64), eD, eD],
  [(false, 10, 0, 0, 0, 0, 0, 65), (false, 27, 26, 1, 121, 3, 0, 68), eD, eD, (false, 28, 109, 1, 196, 0, 0, 71), eD, eD, (false, 2, 2, 0, 0, 0, 0, 72), (false, 2, 6, 1, 0, 0, 0, 74), eD, (false, 9, 0, 0, 0, 0, 0, 75), (false, 0, 2, 0, 0, 0, 128, 78), eD, eD, (false, 10, 1, 0, 0, 0, 0, 79), (false, 9, 0, 0, 0, 0, 0, 80)],
  [(false, 5, 7, 1, 0, 0, 0, 82), eD, (false, 3, 4, 1, 0, 0, 0, 84), eD, (false, 4, 0, 0, 0, 0, 0, 85), (false, 19, 10, 0, 31, 0, 0, 88), eD, eD, (false, 2, 7, 1, 0, 0, 0, 90), eD, (false, 27, 54, 1, 123, 5, 0, 93), eD, eD, (false, 14, 0, 0, 0, 0, 0, 94), (false, 0, 1, 0, 0, 0, 8, 96), eD],
  [(false, 2, 6, 1, 0, 0, 0, 98), eD, (false, 9, 2, 0, 0, 0, 0, 99), (false, 13, 0, 0, 0, 0, 0, 100), (false, 11, 4, 0, 0, 0, 0, 101), (false, 6, 4, 1, 0, 0, 0, 103), eD, (false, 8, 6, 0, 0, 0, 1, 106), eD, eD, (false, 17, 0, 38, 0, 0, 0, 109), eD, eD, (false, 3, 4, 1, 0, 0, 0, 111), eD, (false, 30, 0, 0, 0, 0, 0, 112)]]
set_option maxRecDepth 100000 in
theorem ok138 : okM 138 cd138 = true := by decide +kernel
def cd139 : List (List EM) := [[(false, 4, 0, 0, 0, 0, 0, 1), (false, 19, 11, 8, 96, 0, 0, 4), eD, eD, (false, 15, 0, 10, 0, 0, 0, 7), eD, eD, (false, 0, 1, 0, 0, 0, -2, 9), eD, (false, 29, 0, 0, 0, 0, 0, 10), (false, 2, 1, 0, 0, 0, 0, 11), (false, 0, 1, 0, 0, 0, 16, 13), eD, (false, 16, 2, 22, 0, 0, 0, 16), eD, eD],
  [(false, 2, 1, 0, 0, 0, 0, 17), (false, 0, 1, 0, 0, 0, 100, 19), eD, (false, 16, 5, 24, 0, 0, 0, 22), eD, eD, (false, 0, 0, 0, 0, 0, -1, 23), (false, 29, 0, 0, 0, 0, 0, 24), (false, 4, 0, 0, 0, 0, 0, 25), (false, 19, 11, 0, 88, 0, 0, 28), eD, eD, (false, 27, 62, 0, 0, 5, 0, 31), eD, eD, (false, 4, 0, 0, 0, 0, 0, 32)],
  [(false, 19, 11, 1, 89, 0, 0, 35), eD, eD, (false, 2, 1, 0, 0, 0, 0, 36), (false, 0, 0, 0, 0, 0, 4, 37), (false, 2, 2, 0, 0, 0, 0, 38), (false, 0, 0, 0, 0, 0, 0, 39), (false, 0, 2, 0, 0, 0, 255, 42), eD, eD, (false, 27, 13, 5, 2, 1, 0, 45), eD, eD, (false, 4, 0, 0, 0, 0, 0, 46), (false, 19, 11, 1, 89, 0, 0, 49), eD],
  [eD, (false, 0, 0, 0, 0, 0, 0, 50), (false, 27, 16, 1, 6, 1, 0, 53), eD, eD, (false, 4, 0, 0, 0, 0, 0, 54), (false, 19, 11, 1, 89, 0, 0, 57), eD, eD, (false, 0, 2, 0, 0, 0, 256, 60), eD, eD, (false, 27, 16, 1, 6, 1, 0, 63), eD, eD, (false, 4, 0, 0, 0, 0, 0, 64)],
  [(false, 19, 11, 0, 88, 0, 0, 67), eD, eD, (false, 0, 2, 0, 0, 0, 512, 70), eD, eD, (false, 0, 1, 0, 0, 0, -8, 72), eD, (false, 27, 59, 2, 8, 5, 0, 75), eD, eD, (false, 0, 0, 0, 0, 0, 1, 76), (false, 5, 3, 0, 0, 0, 0, 77), (true, 2, 3, 0, 0, 0, 0, 78), (false, 0, 0, 0, 0, 0, 4, 79), (false, 16, 4, 103, 0, 0, 0, 82)],
  [eD, eD, (false, 4, 0, 0, 0, 0, 0, 83), (false, 19, 11, 0, 88, 0, 0, 86), eD, eD, (false, 0, 2, 0, 0, 0, 512, 89), eD, eD, (false, 0, 0, 0, 0, 0, 4, 90), (false, 2, 3, 0, 0, 0, 0, 91), (false, 9, 2, 0, 0, 0, 0, 92), (false, 9, 0, 0, 0, 0, 0, 93), (false, 0, 0, 0, 0, 0, -1, 94), (false, 27, 59, 2, 8, 5, 0, 97), eD],
  [eD, (false, 8, 3, 0, 0, 0, 1, 100), eD, eD, (false, 17, 0, 77, 0, 0, 0, 103), eD, eD, (false, 4, 0, 0, 0, 0, 0, 104), (false, 19, 11, 0, 88, 0, 0, 107), eD, eD, (false, 0, 0, 0, 0, 0, 2, 108), (false, 28, 109, 1, 10, 0, 0, 111), eD, eD, (false, 0, 1, 0, 0, 0, 7, 113)],
  [eD, (false, 27, 57, 2, 11, 5, 0, 116), eD, eD, (false, 4, 0, 0, 0, 0, 0, 117), (false, 19, 11, 0, 88, 0, 0, 120), eD, eD, (false, 0, 0, 0, 0, 0, 3, 121), (false, 28, 109, 1, 10, 0, 0, 124), eD, eD, (false, 28, 22, 2, 12, 0, 0, 127), eD, eD, (false, 5, 3, 0, 0, 0, 0, 128)],
  [(false, 0, 0, 0, 0, 0, 4, 129), (false, 28, 109, 1, 10, 0, 0, 132), eD, eD, (false, 5, 4, 1, 0, 0, 0, 134), eD, (false, 4, 0, 0, 0, 0, 0, 135), (false, 19, 11, 0, 88, 0, 0, 138), eD, eD, (false, 2, 4, 1, 0, 0, 0, 140), eD, (false, 0, 2, 0, 0, 0, 129, 143), eD, eD, (false, 27, 57, 2, 11, 5, 0, 146)],
  [eD, eD, (false, 4, 0, 0, 0, 0, 0, 147), (false, 19, 11, 0, 88, 0, 0, 150), eD, eD, (false, 2, 4, 1, 0, 0, 0, 152), eD, (false, 0, 1, 0, 0, 0, 20, 154), eD, (false, 9, 0, 0, 0, 0, 0, 155), (false, 0, 0, 0, 0, 0, 2, 156), (false, 27, 59, 2, 8, 5, 0, 159), eD, eD, (false, 4, 0, 0, 0, 0, 0, 160)],
  [(false, 19, 11, 0, 88, 0, 0, 163), eD, eD, (false, 2, 4, 1, 0, 0, 0, 165), eD, (false, 0, 1, 0, 0, 0, 24, 167), eD, (false, 9, 0, 0, 0, 0, 0, 168), (false, 2, 1, 0, 0, 0, 0, 169), (false, 0, 1, 0, 0, 0, 7, 171), eD, (false, 9, 0, 0, 0, 0, 0, 172), (false, 0, 1, 0, 0, 0, 8, 174), eD, (false, 10, 0, 0, 0, 0, 0, 175), (false, 27, 59, 2, 8, 5, 0, 178)],
  [eD, eD, (false, 4, 0, 0, 0, 0, 0, 179), (false, 19, 11, 0, 88, 0, 0, 182), eD, eD, (false, 2, 4, 1, 0, 0, 0, 184), eD, (false, 0, 1, 0, 0, 0, 32, 186), eD, (false, 9, 0, 0, 0, 0, 0, 187), (false, 0, 2, 0, 0, 0, 130, 190), eD, eD, (false, 27, 57, 2, 11, 5, 0, 193), eD],
  [eD, (false, 4, 0, 0, 0, 0, 0, 194), (false, 19, 11, 0, 88, 0, 0, 197), eD, eD, (false, 2, 4, 1, 0, 0, 0, 199), eD, (false, 0, 1, 0, 0, 0, 32, 201), eD, (false, 9, 0, 0, 0, 0, 0, 202), (false, 0, 0, 0, 0, 0, 4, 203), (false, 9, 0, 0, 0, 0, 0, 204), (false, 4, 0, 0, 0, 0, 0, 205), (false, 19, 11, 0, 88, 0, 0, 208), eD, eD],
  [(false, 0, 0, 0, 0, 0, 3, 209), (false, 28, 109, 1, 10, 0, 0, 212), eD, eD, (false, 2, 3, 0, 0, 0, 0, 213), (false, 28, 21, 3, 16, 0, 0, 216), eD, eD, (false, 27, 59, 2, 8, 5, 0, 219), eD, eD, (false, 4, 0, 0, 0, 0, 0, 220), (false, 19, 11, 0, 88, 0, 0, 223), eD, eD, (false, 2, 4, 1, 0, 0, 0, 225)],
  [eD, (false, 0, 1, 0, 0, 0, 32, 227), eD, (false, 9, 0, 0, 0, 0, 0, 228), (false, 0, 1, 0, 0, 0, 20, 230), eD, (false, 9, 0, 0, 0, 0, 0, 231), (false, 0, 0, 0, 0, 0, 3, 232), (false, 27, 59, 2, 8, 5, 0, 235), eD, eD, (false, 4, 0, 0, 0, 0, 0, 236), (false, 19, 11, 0, 88, 0, 0, 239), eD, eD, (false, 2, 4, 1, 0, 0, 0, 241)],
  [eD, (false, 0, 1, 0, 0, 0, 32, 243), eD, (false, 9, 0, 0, 0, 0, 0, 244), (false, 0, 1, 0, 0, 0, 24, 246), eD, (false, 9, 0, 0, 0, 0, 0, 247), (false, 2, 3, 0, 0, 0, 0, 248), (false, 27, 59, 2, 8, 5, 0, 251), eD, eD, (false, 4, 0, 0, 0, 0, 0, 252), (false, 19, 11, 0, 88, 0, 0, 255), eD, eD, (false, 27, 63, 0, 18, 5, 0, 258)],
  [eD, eD, (false, 0, 1, 0, 0, 0, 16, 260), eD, (false, 0, 0, 0, 0, 0, 2, 261), (false, 2, 1, 0, 0, 0, 0, 262), (false, 9, 2, 0, 0, 0, 0, 263), (false, 9, 0, 0, 0, 0, 0, 264), (false, 29, 0, 0, 0, 0, 0, 265)]]
set_option maxRecDepth 100000 in
theorem ok139 : okM 139 cd139 = true := by decide +kernel
def cd140 : List (List EM) := [[(false, 2, 1, 0, 0, 0, 0, 1), (false, 2, 2, 0, 0, 0, 0, 2), (false, 28, 53, 2, 19, 0, 0, 5), eD, eD, (false, 15, 0, 24, 0, 0, 0, 8), eD, eD, (false, 4, 0, 0, 0, 0, 0, 9), (false, 19, 11, 0, 88, 0, 0, 12), eD, eD, (false, 2, 1, 0, 0, 0, 0, 13), (false, 0, 1, 0, 0, 0, 64, 15), eD, (false, 9, 2, 0, 0, 0, 0, 16)],
  [(false, 2, 2, 0, 0, 0, 0, 17), (false, 9, 0, 0, 0, 0, 0, 18), (false, 27, 54, 1, 20, 5, 0, 21), eD, eD, (false, 17, 0, 25, 0, 0, 0, 24), eD, eD, (false, 0, 0, 0, 0, 0, -1, 25), (false, 29, 0, 0, 0, 0, 0, 26)]]
set_option maxRecDepth 100000 in
theorem ok140 : okM 140 cd140 = true := by decide +kernel
def cd141 : List (List EM) := [[(false, 4, 0, 0, 0, 0, 0, 1), (false, 19, 11, 8, 96, 0, 0, 4), eD, eD, (false, 15, 0, 10, 0, 0, 0, 7), eD, eD, (false, 0, 1, 0, 0, 0, -2, 9), eD, (false, 29, 0, 0, 0, 0, 0, 10), (false, 2, 1, 0, 0, 0, 0, 11), (false, 2, 2, 0, 0, 0, 0, 12), (false, 28, 53, 2, 19, 0, 0, 15), eD, eD, (false, 15, 0, 29, 0, 0, 0, 18)],
  [eD, eD, (false, 2, 3, 0, 0, 0, 0, 19), (false, 15, 2, 29, 0, 0, 0, 22), eD, eD, (false, 2, 3, 0, 0, 0, 0, 23), (false, 0, 2, 0, 0, 0, 255, 26), eD, eD, (false, 16, 5, 31, 0, 0, 0, 29), eD, eD, (false, 0, 0, 0, 0, 0, -1, 30), (false, 29, 0, 0, 0, 0, 0, 31), (false, 4, 0, 0, 0, 0, 0, 32)],
  [(false, 19, 11, 0, 88, 0, 0, 35), eD, eD, (false, 2, 1, 0, 0, 0, 0, 36), (false, 0, 1, 0, 0, 0, 64, 38), eD, (false, 9, 2, 0, 0, 0, 0, 39), (false, 2, 2, 0, 0, 0, 0, 40), (false, 9, 0, 0, 0, 0, 0, 41), (false, 27, 54, 1, 20, 5, 0, 44), eD, eD, (false, 5, 4, 1, 0, 0, 0, 46), eD, (false, 4, 0, 0, 0, 0, 0, 47), (false, 19, 11, 0, 88, 0, 0, 50)],
  [eD, eD, (false, 2, 1, 0, 0, 0, 0, 51), (false, 0, 1, 0, 0, 0, 64, 53), eD, (false, 9, 2, 0, 0, 0, 0, 54), (false, 2, 2, 0, 0, 0, 0, 55), (false, 9, 0, 0, 0, 0, 0, 56), (false, 2, 3, 0, 0, 0, 0, 57), (false, 27, 57, 2, 11, 5, 0, 60), eD, eD, (false, 4, 0, 0, 0, 0, 0, 61), (false, 19, 11, 0, 88, 0, 0, 64), eD, eD],
  [(false, 27, 63, 0, 18, 5, 0, 67), eD, eD, (false, 2, 4, 1, 0, 0, 0, 69), eD, (false, 29, 0, 0, 0, 0, 0, 70)]]
set_option maxRecDepth 100000 in
theorem ok141 : okM 141 cd141 = true := by decide +kernel
def cd142 : List (List EM) := [[(false, 2, 1, 0, 0, 0, 0, 1), (false, 15, 2, 11, 0, 0, 0, 4), eD, eD, (false, 2, 1, 0, 0, 0, 0, 5), (false, 0, 2, 0, 0, 0, 1000, 8), eD, eD, (false, 16, 5, 13, 0, 0, 0, 11), eD, eD, (false, 0, 0, 0, 0, 0, -1, 12), (false, 29, 0, 0, 0, 0, 0, 13), (false, 4, 0, 0, 0, 0, 0, 14), (false, 19, 11, 0, 88, 0, 0, 17), eD],
  [eD, (false, 2, 1, 0, 0, 0, 0, 18), (false, 20, 5, 3, 3, 0, 0, 21), eD, eD, (false, 0, 0, 0, 0, 0, 1, 22), (false, 29, 0, 0, 0, 0, 0, 23)]]
set_option maxRecDepth 100000 in
theorem ok142 : okM 142 cd142 = true := by decide +kernel
def cd143 : List (List EM) := [[(false, 4, 0, 0, 0, 0, 0, 1), (false, 19, 11, 8, 96, 0, 0, 4), eD, eD, (false, 15, 0, 10, 0, 0, 0, 7), eD, eD, (false, 0, 1, 0, 0, 0, -2, 9), eD, (false, 29, 0, 0, 0, 0, 0, 10), (false, 4, 0, 0, 0, 0, 0, 11), (false, 19, 11, 4, 92, 0, 0, 14), eD, eD, (false, 27, 34, 0, 21, 4, 0, 17), eD],
  [eD, (false, 5, 1, 0, 0, 0, 0, 18), (false, 2, 1, 0, 0, 0, 0, 19), (false, 15, 1, 31, 0, 0, 0, 22), eD, eD, (false, 4, 0, 0, 0, 0, 0, 23), (false, 19, 11, 4, 92, 0, 0, 26), eD, eD, (false, 0, 0, 0, 0, 0, 0, 27), (false, 27, 44, 1, 46, 4, 0, 30), eD, eD, (false, 5, 1, 0, 0, 0, 0, 31), (true, 2, 1, 0, 0, 0, 0, 32)],
  [(false, 15, 1, 43, 0, 0, 0, 35), eD, eD, (false, 4, 0, 0, 0, 0, 0, 36), (false, 19, 11, 4, 92, 0, 0, 39), eD, eD, (false, 27, 41, 0, 115, 4, 0, 42), eD, eD, (false, 5, 1, 0, 0, 0, 0, 43), (false, 2, 1, 0, 0, 0, 0, 44), (false, 15, 0, 52, 0, 0, 0, 47), eD, eD, (false, 0, 1, 0, 0, 0, -10, 49)],
  [eD, (false, 2, 1, 0, 0, 0, 0, 50), (false, 9, 1, 0, 0, 0, 0, 51), (false, 29, 0, 0, 0, 0, 0, 52), (false, 4, 0, 0, 0, 0, 0, 53), (false, 0, 0, 0, 0, 0, 1, 54), (false, 20, 11, 8, 96, 0, 0, 57), eD, eD, (false, 4, 0, 0, 0, 0, 0, 58), (false, 19, 11, 5, 93, 0, 0, 61), eD, eD, (false, 27, 125, 0, 118, 10, 0, 64), eD, eD],
  [(false, 4, 0, 0, 0, 0, 0, 65), (false, 19, 11, 4, 92, 0, 0, 68), eD, eD, (false, 19, 4, 14, 62, 0, 0, 71), eD, eD, (false, 15, 0, 78, 0, 0, 0, 74), eD, eD, (false, 0, 0, 0, 0, 0, 2, 75), (false, 17, 0, 79, 0, 0, 0, 78), eD, eD, (false, 0, 0, 0, 0, 0, 1, 79), (false, 29, 0, 0, 0, 0, 0, 80)]]
set_option maxRecDepth 100000 in
theorem ok143 : okM 143 cd143 = true := by decide +kernel
def cd144 : List (List EM) := [[(false, 2, 1, 0, 0, 0, 0, 1), (false, 32, 0, 0, 3, 0, 0, 28), eD, eD, eD, eD, eD, eD, eD, eD, eD, eD, eD, eD, eD, eD],
  [eD, eD, eD, eD, eD, eD, eD, eD, eD, eD, eD, eD, (false, 4, 0, 0, 0, 0, 0, 29), (false, 19, 11, 4, 92, 0, 0, 32), eD, eD],
  [(false, 19, 4, 15, 64, 0, 0, 35), eD, eD, (false, 29, 0, 0, 0, 0, 0, 36), (false, 4, 0, 0, 0, 0, 0, 37), (false, 19, 11, 4, 92, 0, 0, 40), eD, eD, (false, 19, 4, 16, 66, 0, 0, 43), eD, eD, (false, 29, 0, 0, 0, 0, 0, 44), (false, 4, 0, 0, 0, 0, 0, 45), (false, 19, 11, 4, 92, 0, 0, 48), eD, eD],
  [(false, 19, 4, 17, 68, 0, 0, 51), eD, eD, (false, 29, 0, 0, 0, 0, 0, 52), (false, 0, 0, 0, 0, 0, -1, 53), (false, 29, 0, 0, 0, 0, 0, 54)]]
set_option maxRecDepth 100000 in
theorem ok144 : okM 144 cd144 = true := by decide +kernel
def cd145 : List (List EM) := [[(false, 4, 0, 0, 0, 0, 0, 1), (false, 19, 11, 8, 96, 0, 0, 4), eD, eD, (false, 15, 1, 10, 0, 0, 0, 7), eD, eD, (false, 0, 1, 0, 0, 0, -2, 9), eD, (false, 29, 0, 0, 0, 0, 0, 10), (false, 4, 0, 0, 0, 0, 0, 11), (false, 0, 0, 0, 0, 0, 0, 12), (false, 20, 11, 8, 96, 0, 0, 15), eD, eD, (false, 4, 0, 0, 0, 0, 0, 16)],
  [(false, 19, 11, 0, 88, 0, 0, 19), eD, eD, (false, 0, 1, 0, 0, 0, 44, 21), eD, (false, 4, 0, 0, 0, 0, 0, 22), (false, 19, 11, 0, 88, 0, 0, 25), eD, eD, (false, 0, 1, 0, 0, 0, 44, 27), eD, (false, 27, 54, 1, 20, 5, 0, 30), eD, eD, (false, 0, 1, 0, 0, 0, -3, 32), eD],
  [(false, 9, 3, 0, 0, 0, 0, 33), (false, 27, 57, 2, 11, 5, 0, 36), eD, eD, (false, 4, 0, 0, 0, 0, 0, 37), (false, 19, 11, 0, 88, 0, 0, 40), eD, eD, (false, 0, 1, 0, 0, 0, 49, 42), eD, (false, 4, 0, 0, 0, 0, 0, 43), (false, 19, 11, 2, 90, 0, 0, 46), eD, eD, (false, 27, 121, 0, 125, 9, 0, 49), eD],
  [eD, (false, 27, 57, 2, 11, 5, 0, 52), eD, eD, (false, 4, 0, 0, 0, 0, 0, 53), (false, 19, 11, 0, 88, 0, 0, 56), eD, eD, (false, 27, 64, 0, 130, 5, 0, 59), eD, eD, (false, 15, 0, 66, 0, 0, 0, 62), eD, eD, (false, 0, 0, 0, 0, 0, 1, 63), (false, 17, 0, 68, 0, 0, 0, 66)],
  [eD, eD, (false, 0, 1, 0, 0, 0, -7, 68), eD, (false, 29, 0, 0, 0, 0, 0, 69)]]
set_option maxRecDepth 100000 in
theorem ok145 : okM 145 cd145 = true := by decide +kernel
def cd146 : List (List EM) := [[(false, 4, 0, 0, 0, 0, 0, 1), (false, 19, 11, 8, 96, 0, 0, 4), eD, eD, (false, 15, 0, 10, 0, 0, 0, 7), eD, eD, (false, 0, 1, 0, 0, 0, -2, 9), eD, (false, 29, 0, 0, 0, 0, 0, 10), (false, 4, 0, 0, 0, 0, 0, 11), (false, 19, 11, 4, 92, 0, 0, 14), eD, eD, (false, 27, 34, 0, 21, 4, 0, 17), eD],
  [eD, (false, 5, 1, 0, 0, 0, 0, 18), (false, 2, 1, 0, 0, 0, 0, 19), (false, 15, 0, 27, 0, 0, 0, 22), eD, eD, (false, 0, 1, 0, 0, 0, -10, 24), eD, (false, 2, 1, 0, 0, 0, 0, 25), (false, 9, 1, 0, 0, 0, 0, 26), (false, 29, 0, 0, 0, 0, 0, 27), (false, 4, 0, 0, 0, 0, 0, 28), (false, 19, 11, 4, 92, 0, 0, 31), eD, eD, (false, 27, 42, 0, 134, 4, 0, 34)],
  [eD, eD, (false, 15, 1, 40, 0, 0, 0, 37), eD, eD, (false, 0, 1, 0, 0, 0, -7, 39), eD, (false, 29, 0, 0, 0, 0, 0, 40), (false, 4, 0, 0, 0, 0, 0, 41), (false, 19, 11, 4, 92, 0, 0, 44), eD, eD, (false, 0, 0, 0, 0, 0, 1, 45), (false, 27, 44, 1, 46, 4, 0, 48), eD, eD],
  [(false, 26, 0, 0, 0, 0, 0, 49), (false, 4, 0, 0, 0, 0, 0, 50), (false, 19, 11, 4, 92, 0, 0, 53), eD, eD, (false, 27, 43, 0, 136, 4, 0, 56), eD, eD, (false, 15, 0, 69, 0, 0, 0, 59), eD, eD, (false, 4, 0, 0, 0, 0, 0, 60), (false, 19, 11, 4, 92, 0, 0, 63), eD, eD, (false, 19, 4, 13, 59, 0, 0, 66)],
  [eD, eD, (false, 17, 0, 71, 0, 0, 0, 69), eD, eD, (false, 0, 1, 0, 0, 0, -7, 71), eD, (false, 29, 0, 0, 0, 0, 0, 72)]]
set_option maxRecDepth 100000 in
theorem ok146 : okM 146 cd146 = true := by decide +kernel
def cd147 : List (List EM) := [[(false, 4, 0, 0, 0, 0, 0, 1), (false, 19, 11, 7, 95, 0, 0, 4), eD, eD, (false, 3, 1, 0, 0, 0, 0, 5), (false, 27, 75, 1, 139, 7, 0, 8), eD, eD, (false, 15, 0, 21, 0, 0, 0, 11), eD, eD, (false, 4, 0, 0, 0, 0, 0, 12), (false, 19, 11, 7, 95, 0, 0, 15), eD, eD, (false, 19, 7, 1, 44, 0, 0, 18)],
  [eD, eD, (false, 17, 0, 22, 0, 0, 0, 21), eD, eD, (false, 0, 0, 0, 0, 0, -1, 22), (false, 29, 0, 0, 0, 0, 0, 23)]]
set_option maxRecDepth 100000 in
theorem ok147 : okM 147 cd147 = true := by decide +kernel
def cd148 : List (List EM) := [[(false, 4, 0, 0, 0, 0, 0, 1), (false, 19, 11, 7, 95, 0, 0, 4), eD, eD, (false, 19, 7, 1, 44, 0, 0, 7), eD, eD, (false, 5, 1, 0, 0, 0, 0, 8), (false, 4, 0, 0, 0, 0, 0, 9), (false, 19, 11, 7, 95, 0, 0, 12), eD, eD, (false, 0, 0, 0, 0, 0, 0, 13), (false, 20, 7, 1, 44, 0, 0, 16), eD, eD],
  [(false, 2, 1, 0, 0, 0, 0, 17), (false, 29, 0, 0, 0, 0, 0, 18)]]
set_option maxRecDepth 100000 in
theorem ok148 : okM 148 cd148 = true := by decide +kernel
def cd149 : List (List EM) := [[(false, 4, 0, 0, 0, 0, 0, 1), (false, 19, 11, 6, 94, 0, 0, 4), eD, eD, (false, 2, 1, 0, 0, 0, 0, 5), (false, 20, 0, 5, 85, 0, 0, 8), eD, eD, (false, 31, 0, 0, 0, 0, 0, 9)]]
set_option maxRecDepth 100000 in
theorem ok149 : okM 149 cd149 = true := by decide +kernel
def cd150 : List (List EM) := [[(false, 0, 1, 0, 0, 0, -2, 2), eD, (false, 5, 2, 0, 0, 0, 0, 3), (false, 4, 0, 0, 0, 0, 0, 4), (false, 19, 11, 8, 96, 0, 0, 7), eD, eD, (false, 15, 0, 55, 0, 0, 0, 10), eD, eD, (false, 4, 0, 0, 0, 0, 0, 11), (false, 19, 11, 5, 93, 0, 0, 14), eD, eD, (false, 2, 1, 0, 0, 0, 0, 15), (false, 27, 130, 1, 141, 10, 0, 18)],
  [eD, eD, (false, 15, 1, 26, 0, 0, 0, 21), eD, eD, (false, 0, 0, 0, 0, 0, -1, 22), (false, 5, 2, 0, 0, 0, 0, 23), (false, 17, 0, 55, 0, 0, 0, 26), eD, eD, (false, 4, 0, 0, 0, 0, 0, 27), (false, 19, 11, 7, 95, 0, 0, 30), eD, eD, (false, 27, 77, 0, 144, 7, 0, 33), eD],
  [eD, (false, 15, 1, 42, 0, 0, 0, 36), eD, eD, (false, 0, 1, 0, 0, 0, -3, 38), eD, (false, 5, 2, 0, 0, 0, 0, 39), (false, 17, 0, 55, 0, 0, 0, 42), eD, eD, (false, 4, 0, 0, 0, 0, 0, 43), (false, 19, 11, 5, 93, 0, 0, 46), eD, eD, (false, 2, 1, 0, 0, 0, 0, 47), (false, 4, 0, 0, 0, 0, 0, 48)],
  [(false, 19, 11, 7, 95, 0, 0, 51), eD, eD, (false, 27, 133, 2, 145, 10, 0, 54), eD, eD, (false, 5, 2, 0, 0, 0, 0, 55), (false, 4, 0, 0, 0, 0, 0, 56), (false, 19, 11, 7, 95, 0, 0, 59), eD, eD, (false, 0, 0, 0, 0, 0, 0, 60), (false, 20, 7, 1, 44, 0, 0, 63), eD, eD, (false, 2, 2, 0, 0, 0, 0, 64)],
  [(false, 29, 0, 0, 0, 0, 0, 65)]]
set_option maxRecDepth 100000 in
theorem ok150 : okM 150 cd150 = true := by decide +kernel
def cd151 : List (List EM) := [[(false, 4, 0, 0, 0, 0, 0, 1), (false, 19, 11, 8, 96, 0, 0, 4), eD, eD, (false, 15, 1, 10, 0, 0, 0, 7), eD, eD, (false, 0, 1, 0, 0, 0, -2, 9), eD, (false, 29, 0, 0, 0, 0, 0, 10), (false, 4, 0, 0, 0, 0, 0, 11), (false, 19, 11, 5, 93, 0, 0, 14), eD, eD, (false, 2, 1, 0, 0, 0, 0, 15), (false, 27, 130, 1, 141, 10, 0, 18)],
  [eD, eD, (false, 15, 0, 33, 0, 0, 0, 21), eD, eD, (false, 4, 0, 0, 0, 0, 0, 22), (false, 19, 11, 5, 93, 0, 0, 25), eD, eD, (false, 2, 1, 0, 0, 0, 0, 26), (false, 2, 2, 0, 0, 0, 0, 27), (false, 27, 135, 2, 151, 10, 0, 30), eD, eD, (false, 17, 0, 34, 0, 0, 0, 33), eD],
  [eD, (false, 0, 0, 0, 0, 0, -1, 34), (false, 29, 0, 0, 0, 0, 0, 35)]]
set_option maxRecDepth 100000 in
theorem ok151 : okM 151 cd151 = true := by decide +kernel
def cd152 : List (List EM) := [[(false, 4, 0, 0, 0, 0, 0, 1), (false, 19, 11, 8, 96, 0, 0, 4), eD, eD, (false, 15, 0, 23, 0, 0, 0, 7), eD, eD, (false, 4, 0, 0, 0, 0, 0, 8), (false, 19, 11, 6, 94, 0, 0, 11), eD, eD, (false, 2, 1, 0, 0, 0, 0, 12), (false, 4, 0, 0, 0, 0, 0, 13), (false, 19, 11, 7, 95, 0, 0, 16), eD, eD],
  [(false, 2, 2, 0, 0, 0, 0, 17), (false, 27, 0, 3, 152, 0, 0, 20), eD, eD, (false, 17, 0, 25, 0, 0, 0, 23), eD, eD, (false, 0, 1, 0, 0, 0, -2, 25), eD, (false, 5, 3, 0, 0, 0, 0, 26), (false, 4, 0, 0, 0, 0, 0, 27), (false, 19, 11, 7, 95, 0, 0, 30), eD, eD, (false, 0, 0, 0, 0, 0, 0, 31), (false, 20, 7, 1, 44, 0, 0, 34)],
  [eD, eD, (false, 4, 0, 0, 0, 0, 0, 35), (false, 2, 3, 0, 0, 0, 0, 36), (false, 27, 163, 1, 206, 11, 0, 39), eD, eD, (false, 29, 0, 0, 0, 0, 0, 40)]]
set_option maxRecDepth 100000 in
theorem ok152 : okM 152 cd152 = true := by decide +kernel
def cd153 : List (List EM) := [[(false, 4, 0, 0, 0, 0, 0, 1), (false, 19, 11, 8, 96, 0, 0, 4), eD, eD, (false, 15, 0, 26, 0, 0, 0, 7), eD, eD, (false, 4, 0, 0, 0, 0, 0, 8), (false, 4, 0, 0, 0, 0, 0, 9), (false, 19, 11, 6, 94, 0, 0, 12), eD, eD, (false, 2, 1, 0, 0, 0, 0, 13), (false, 2, 2, 0, 0, 0, 0, 14), (false, 2, 3, 0, 0, 0, 0, 15), (false, 2, 4, 1, 0, 0, 0, 17)],
  [eD, (false, 27, 6, 4, 207, 0, 0, 20), eD, eD, (false, 27, 163, 1, 206, 11, 0, 23), eD, eD, (false, 17, 0, 28, 0, 0, 0, 26), eD, eD, (false, 0, 1, 0, 0, 0, -2, 28), eD, (false, 29, 0, 0, 0, 0, 0, 29)]]
set_option maxRecDepth 100000 in
theorem ok153 : okM 153 cd153 = true := by decide +kernel
def cd154 : List (List EM) := [[(false, 4, 0, 0, 0, 0, 0, 1), (false, 19, 11, 8, 96, 0, 0, 4), eD, eD, (false, 15, 0, 23, 0, 0, 0, 7), eD, eD, (false, 4, 0, 0, 0, 0, 0, 8), (false, 4, 0, 0, 0, 0, 0, 9), (false, 19, 11, 6, 94, 0, 0, 12), eD, eD, (false, 2, 1, 0, 0, 0, 0, 13), (false, 2, 2, 0, 0, 0, 0, 14), (false, 27, 7, 2, 212, 0, 0, 17), eD],
  [eD, (false, 27, 163, 1, 206, 11, 0, 20), eD, eD, (false, 17, 0, 25, 0, 0, 0, 23), eD, eD, (false, 0, 1, 0, 0, 0, -2, 25), eD, (false, 29, 0, 0, 0, 0, 0, 26)]]
set_option maxRecDepth 100000 in
theorem ok154 : okM 154 cd154 = true := by decide +kernel
def cd155 : List (List EM) := [[(false, 4, 0, 0, 0, 0, 0, 1), (false, 19, 11, 8, 96, 0, 0, 4), eD, eD, (false, 15, 0, 22, 0, 0, 0, 7), eD, eD, (false, 4, 0, 0, 0, 0, 0, 8), (false, 4, 0, 0, 0, 0, 0, 9), (false, 19, 11, 6, 94, 0, 0, 12), eD, eD, (false, 2, 1, 0, 0, 0, 0, 13), (false, 27, 8, 1, 214, 0, 0, 16), eD, eD],
  [(false, 27, 163, 1, 206, 11, 0, 19), eD, eD, (false, 17, 0, 24, 0, 0, 0, 22), eD, eD, (false, 0, 1, 0, 0, 0, -2, 24), eD, (false, 29, 0, 0, 0, 0, 0, 25)]]
set_option maxRecDepth 100000 in
theorem ok155 : okM 155 cd155 = true := by decide +kernel
def cd156 : List (List EM) := [[(false, 4, 0, 0, 0, 0, 0, 1), (false, 19, 11, 8, 96, 0, 0, 4), eD, eD, (false, 15, 0, 23, 0, 0, 0, 7), eD, eD, (false, 4, 0, 0, 0, 0, 0, 8), (false, 19, 11, 6, 94, 0, 0, 11), eD, eD, (false, 2, 1, 0, 0, 0, 0, 12), (false, 2, 2, 0, 0, 0, 0, 13), (false, 4, 0, 0, 0, 0, 0, 14), (false, 19, 11, 7, 95, 0, 0, 17), eD],
  [eD, (false, 27, 1, 3, 219, 0, 0, 20), eD, eD, (false, 17, 0, 25, 0, 0, 0, 23), eD, eD, (false, 0, 1, 0, 0, 0, -2, 25), eD, (false, 5, 3, 0, 0, 0, 0, 26), (false, 4, 0, 0, 0, 0, 0, 27), (false, 19, 11, 7, 95, 0, 0, 30), eD, eD, (false, 0, 0, 0, 0, 0, 0, 31), (false, 20, 7, 1, 44, 0, 0, 34)],
  [eD, eD, (false, 4, 0, 0, 0, 0, 0, 35), (false, 2, 3, 0, 0, 0, 0, 36), (false, 27, 163, 1, 206, 11, 0, 39), eD, eD, (false, 29, 0, 0, 0, 0, 0, 40)]]
set_option maxRecDepth 100000 in
theorem ok156 : okM 156 cd156 = true := by decide +kernel
def cd157 : List (List EM) := [[(false, 4, 0, 0, 0, 0, 0, 1), (false, 19, 11, 8, 96, 0, 0, 4), eD, eD, (false, 15, 0, 23, 0, 0, 0, 7), eD, eD, (false, 4, 0, 0, 0, 0, 0, 8), (false, 4, 0, 0, 0, 0, 0, 9), (false, 19, 11, 6, 94, 0, 0, 12), eD, eD, (false, 2, 1, 0, 0, 0, 0, 13), (false, 2, 2, 0, 0, 0, 0, 14), (false, 27, 9, 2, 227, 0, 0, 17), eD],
  [eD, (false, 27, 163, 1, 206, 11, 0, 20), eD, eD, (false, 17, 0, 25, 0, 0, 0, 23), eD, eD, (false, 0, 1, 0, 0, 0, -2, 25), eD, (false, 29, 0, 0, 0, 0, 0, 26)]]
set_option maxRecDepth 100000 in
theorem ok157 : okM 157 cd157 = true := by decide +kernel
def cd158 : List (List EM) := [[(false, 4, 0, 0, 0, 0, 0, 1), (false, 19, 11, 8, 96, 0, 0, 4), eD, eD, (false, 15, 0, 30, 0, 0, 0, 7), eD, eD, (false, 4, 0, 0, 0, 0, 0, 8), (false, 19, 11, 5, 93, 0, 0, 11), eD, eD, (false, 2, 1, 0, 0, 0, 0, 12), (false, 27, 131, 1, 229, 10, 0, 15), eD, eD, (false, 15, 0, 30, 0, 0, 0, 18)],
  [eD, eD, (false, 4, 0, 0, 0, 0, 0, 19), (false, 19, 11, 5, 93, 0, 0, 22), eD, eD, (false, 2, 1, 0, 0, 0, 0, 23), (false, 2, 2, 0, 0, 0, 0, 24), (false, 27, 138, 2, 230, 10, 0, 27), eD, eD, (false, 17, 0, 31, 0, 0, 0, 30), eD, eD, (false, 1, 0, 0, 0, 0, 0, 31), (false, 30, 0, 0, 0, 0, 0, 32)]]
set_option maxRecDepth 100000 in
theorem ok158 : okM 158 cd158 = true := by decide +kernel
def cd159 : List (List EM) := [[(false, 4, 0, 0, 0, 0, 0, 1), (false, 19, 11, 8, 96, 0, 0, 4), eD, eD, (false, 15, 1, 10, 0, 0, 0, 7), eD, eD, (false, 0, 1, 0, 0, 0, -2, 9), eD, (false, 29, 0, 0, 0, 0, 0, 10), (false, 4, 0, 0, 0, 0, 0, 11), (false, 19, 11, 5, 93, 0, 0, 14), eD, eD, (false, 2, 1, 0, 0, 0, 0, 15), (false, 27, 129, 1, 232, 10, 0, 18)],
  [eD, eD, (false, 15, 0, 31, 0, 0, 0, 21), eD, eD, (false, 2, 2, 0, 0, 0, 0, 22), (false, 15, 2, 31, 0, 0, 0, 25), eD, eD, (false, 2, 2, 0, 0, 0, 0, 26), (false, 0, 1, 0, 0, 0, 8, 28), eD, (false, 16, 5, 33, 0, 0, 0, 31), eD, eD, (false, 0, 0, 0, 0, 0, -1, 32)],
  [(false, 29, 0, 0, 0, 0, 0, 33), (false, 2, 1, 0, 0, 0, 0, 34), (false, 15, 1, 46, 0, 0, 0, 37), eD, eD, (false, 4, 0, 0, 0, 0, 0, 38), (false, 19, 11, 5, 93, 0, 0, 41), eD, eD, (false, 2, 2, 0, 0, 0, 0, 42), (false, 27, 137, 1, 233, 10, 0, 45), eD, eD, (false, 29, 0, 0, 0, 0, 0, 46), (false, 4, 0, 0, 0, 0, 0, 47), (false, 19, 11, 3, 91, 0, 0, 50)],
  [eD, eD, (false, 2, 1, 0, 0, 0, 0, 51), (false, 28, 122, 1, 234, 0, 0, 54), eD, eD, (false, 2, 2, 0, 0, 0, 0, 55), (false, 27, 92, 2, 235, 8, 0, 58), eD, eD, (false, 29, 0, 0, 0, 0, 0, 59)]]
set_option maxRecDepth 100000 in
theorem ok159 : okM 159 cd159 = true := by decide +kernel
def cd160 : List (List EM) := [[(false, 4, 0, 0, 0, 0, 0, 1), (false, 19, 11, 8, 96, 0, 0, 4), eD, eD, (false, 15, 1, 10, 0, 0, 0, 7), eD, eD, (false, 0, 1, 0, 0, 0, -2, 9), eD, (false, 29, 0, 0, 0, 0, 0, 10), (false, 4, 0, 0, 0, 0, 0, 11), (false, 19, 11, 5, 93, 0, 0, 14), eD, eD, (false, 2, 1, 0, 0, 0, 0, 15), (false, 27, 128, 1, 236, 10, 0, 18)],
  [eD, eD, (false, 15, 1, 23, 0, 0, 0, 21), eD, eD, (false, 0, 0, 0, 0, 0, -1, 22), (false, 29, 0, 0, 0, 0, 0, 23), (false, 2, 2, 0, 0, 0, 0, 24), (false, 15, 2, 42, 0, 0, 0, 27), eD, eD, (false, 2, 2, 0, 0, 0, 0, 28), (false, 4, 0, 0, 0, 0, 0, 29), (false, 19, 11, 3, 91, 0, 0, 32), eD, eD],
  [(false, 2, 1, 0, 0, 0, 0, 33), (false, 28, 122, 1, 234, 0, 0, 36), eD, eD, (false, 27, 86, 1, 237, 8, 0, 39), eD, eD, (false, 16, 2, 44, 0, 0, 0, 42), eD, eD, (false, 0, 0, 0, 0, 0, -1, 43), (false, 29, 0, 0, 0, 0, 0, 44), (false, 4, 0, 0, 0, 0, 0, 45), (false, 19, 11, 3, 91, 0, 0, 48), eD, eD],
  [(false, 4, 0, 0, 0, 0, 0, 49), (false, 19, 11, 5, 93, 0, 0, 52), eD, eD, (false, 2, 1, 0, 0, 0, 0, 53), (false, 27, 124, 1, 238, 10, 0, 56), eD, eD, (false, 2, 2, 0, 0, 0, 0, 57), (false, 27, 90, 2, 239, 8, 0, 60), eD, eD, (false, 29, 0, 0, 0, 0, 0, 61)]]
set_option maxRecDepth 100000 in
theorem ok160 : okM 160 cd160 = true := by decide +kernel
def cd161 : List (List EM) := [[(false, 4, 0, 0, 0, 0, 0, 1), (false, 19, 11, 8, 96, 0, 0, 4), eD, eD, (false, 15, 1, 10, 0, 0, 0, 7), eD, eD, (false, 0, 1, 0, 0, 0, -2, 9), eD, (false, 29, 0, 0, 0, 0, 0, 10), (false, 4, 0, 0, 0, 0, 0, 11), (false, 19, 11, 5, 93, 0, 0, 14), eD, eD, (false, 2, 1, 0, 0, 0, 0, 15), (false, 27, 129, 1, 232, 10, 0, 18)],
  [eD, eD, (false, 15, 0, 33, 0, 0, 0, 21), eD, eD, (false, 4, 0, 0, 0, 0, 0, 22), (false, 19, 11, 5, 93, 0, 0, 25), eD, eD, (false, 2, 1, 0, 0, 0, 0, 26), (false, 2, 2, 0, 0, 0, 0, 27), (false, 27, 136, 2, 240, 10, 0, 30), eD, eD, (false, 17, 0, 34, 0, 0, 0, 33), eD],
  [eD, (false, 0, 0, 0, 0, 0, -1, 34), (false, 29, 0, 0, 0, 0, 0, 35)]]
set_option maxRecDepth 100000 in
theorem ok161 : okM 161 cd161 = true := by decide +kernel
def cd162 : List (List EM) := [[(false, 2, 1, 0, 0, 0, 0, 1), (false, 15, 2, 9, 0, 0, 0, 4), eD, eD, (false, 2, 1, 0, 0, 0, 0, 5), (false, 0, 0, 0, 0, 0, 5, 6), (false, 16, 5, 11, 0, 0, 0, 9), eD, eD, (false, 0, 0, 0, 0, 0, -1, 10), (false, 29, 0, 0, 0, 0, 0, 11), (false, 2, 1, 0, 0, 0, 0, 12), (false, 0, 0, 0, 0, 0, 4, 13), (false, 16, 1, 24, 0, 0, 0, 16), eD, eD],
  [(false, 4, 0, 0, 0, 0, 0, 17), (false, 19, 11, 0, 88, 0, 0, 20), eD, eD, (false, 19, 5, 4, 6, 0, 0, 23), eD, eD, (false, 29, 0, 0, 0, 0, 0, 24), (false, 2, 1, 0, 0, 0, 0, 25), (false, 0, 0, 0, 0, 0, 5, 26), (false, 16, 1, 42, 0, 0, 0, 29), eD, eD, (false, 4, 0, 0, 0, 0, 0, 30), (false, 19, 11, 8, 96, 0, 0, 33), eD],
  [eD, (false, 15, 0, 40, 0, 0, 0, 36), eD, eD, (false, 0, 0, 0, 0, 0, 1, 37), (false, 17, 0, 41, 0, 0, 0, 40), eD, eD, (false, 0, 0, 0, 0, 0, 0, 41), (false, 29, 0, 0, 0, 0, 0, 42), (false, 4, 0, 0, 0, 0, 0, 43), (false, 19, 11, 8, 96, 0, 0, 46), eD, eD, (false, 15, 1, 52, 0, 0, 0, 49), eD],
  [eD, (false, 0, 1, 0, 0, 0, -2, 51), eD, (false, 29, 0, 0, 0, 0, 0, 52), (false, 2, 1, 0, 0, 0, 0, 53), (false, 32, 0, 0, 4, 0, 0, 80), eD, eD, eD, eD, eD, eD, eD, eD, eD, eD],
  [eD, eD, eD, eD, eD, eD, eD, eD, eD, eD, eD, eD, eD, eD, eD, eD],
  [(false, 4, 0, 0, 0, 0, 0, 81), (false, 19, 11, 2, 90, 0, 0, 84), eD, eD, (false, 19, 9, 1, 13, 0, 0, 87), eD, eD, (false, 29, 0, 0, 0, 0, 0, 88), (false, 4, 0, 0, 0, 0, 0, 89), (false, 19, 11, 2, 90, 0, 0, 92), eD, eD, (false, 27, 119, 0, 241, 9, 0, 95), eD, eD, (false, 29, 0, 0, 0, 0, 0, 96)],
  [(false, 4, 0, 0, 0, 0, 0, 97), (false, 19, 11, 2, 90, 0, 0, 100), eD, eD, (false, 27, 120, 0, 242, 9, 0, 103), eD, eD, (false, 29, 0, 0, 0, 0, 0, 104), (false, 4, 0, 0, 0, 0, 0, 105), (false, 19, 11, 0, 88, 0, 0, 108), eD, eD, (false, 0, 1, 0, 0, 0, 44, 110), eD, (false, 27, 54, 1, 20, 5, 0, 113), eD],
  [eD, (false, 0, 0, 0, 0, 0, 2, 114), (false, 9, 3, 0, 0, 0, 0, 115), (false, 15, 0, 122, 0, 0, 0, 118), eD, eD, (false, 0, 0, 0, 0, 0, 1, 119), (false, 17, 0, 123, 0, 0, 0, 122), eD, eD, (false, 0, 0, 0, 0, 0, 0, 123), (false, 29, 0, 0, 0, 0, 0, 124)]]
set_option maxRecDepth 100000 in
theorem ok162 : okM 162 cd162 = true := by decide +kernel
def cd163 : List (List EM) := [[(false, 2, 1, 0, 0, 0, 0, 1), (false, 0, 1, 0, 0, 0, -7, 3), eD, (false, 16, 1, 11, 0, 0, 0, 6), eD, eD, (false, 4, 0, 0, 0, 0, 0, 7), (false, 0, 0, 0, 0, 0, 0, 8), (false, 20, 11, 8, 96, 0, 0, 11), eD, eD, (false, 2, 1, 0, 0, 0, 0, 12), (false, 29, 0, 0, 0, 0, 0, 13)]]
set_option maxRecDepth 100000 in
theorem ok163 : okM 163 cd163 = true := by decide +kernel
def cd164 : List (List EM) := [[(false, 2, 0, 0, 0, 0, 0, 1), (false, 2, 1, 0, 0, 0, 0, 2), (false, 16, 3, 9, 0, 0, 0, 5), eD, eD, (false, 2, 0, 0, 0, 0, 0, 6), (false, 17, 0, 10, 0, 0, 0, 9), eD, eD, (false, 2, 1, 0, 0, 0, 0, 10), (false, 29, 0, 0, 0, 0, 0, 11)]]
set_option maxRecDepth 100000 in
theorem ok164 : okM 164 cd164 = true := by decide +kernel
def cd165 : List (List EM) := [[(false, 3, 0, 0, 0, 0, 0, 1), (false, 3, 2, 0, 0, 0, 0, 2), (false, 18, 5, 10, 0, 0, 0, 6), eD, eD, eD, (false, 3, 0, 0, 0, 0, 0, 7), (false, 17, 0, 11, 0, 0, 0, 10), eD, eD, (false, 3, 2, 0, 0, 0, 0, 11), (false, 30, 0, 0, 0, 0, 0, 12)]]
set_option maxRecDepth 100000 in
theorem ok165 : okM 165 cd165 = true := by decide +kernel
def cd166 : List (List EM) := [[(false, 3, 0, 0, 0, 0, 0, 1), (false, 3, 2, 0, 0, 0, 0, 2), (false, 18, 2, 17, 0, 0, 0, 6), eD, eD, eD, (false, 3, 0, 0, 0, 0, 0, 7), (false, 3, 4, 1, 0, 0, 0, 9), eD, (false, 18, 4, 17, 0, 0, 0, 13), eD, eD, eD, (false, 0, 0, 0, 0, 0, 1, 14), (false, 17, 0, 18, 0, 0, 0, 17), eD],
  [eD, (false, 0, 0, 0, 0, 0, 0, 18), (false, 29, 0, 0, 0, 1, 0, 19)]]
set_option maxRecDepth 100000 in
theorem ok166 : okM 166 cd166 = true := by decide +kernel
def cd167 : List (List EM) := [[(false, 1, 0, 0, 0, 0, 0, 1), (false, 6, 3, 0, 0, 0, 0, 2), (false, 2, 2, 0, 0, 0, 0, 3), (false, 0, 0, 0, 0, 0, 1, 4), (false, 9, 1, 0, 0, 0, 0, 5), (false, 5, 5, 1, 0, 0, 0, 7), eD, (true, 2, 5, 1, 0, 0, 0, 9), eD, (false, 15, 2, 35, 0, 0, 0, 12), eD, eD, (false, 3, 3, 0, 0, 0, 0, 13), (false, 0, 1, 0, 0, 0, 8, 15), eD, (false, 13, 0, 0, 0, 0, 0, 16)],
  [(false, 4, 0, 0, 0, 0, 0, 17), (false, 2, 1, 0, 0, 0, 0, 18), (false, 2, 5, 1, 0, 0, 0, 20), eD, (false, 9, 0, 0, 0, 0, 0, 21), (false, 22, 1, 13824, 0, 0, 0, 22), (false, 0, 2, 0, 0, 0, 255, 25), eD, eD, (false, 9, 3, 0, 0, 0, 0, 26), (false, 14, 0, 0, 0, 0, 0, 27), (false, 11, 4, 0, 0, 0, 0, 28), (false, 6, 3, 0, 0, 0, 0, 29), (false, 8, 5, 0, 0, 0, -1, 32), eD, eD],
  [(false, 17, 0, 7, 0, 0, 0, 35), eD, eD, (false, 3, 3, 0, 0, 0, 0, 36), (false, 30, 0, 0, 0, 0, 0, 37)]]
set_option maxRecDepth 100000 in
theorem ok167 : okM 167 cd167 = true := by decide +kernel
def cd168 : List (List EM) := [[(false, 0, 0, 0, 0, 0, 0, 1), (false, 5, 5, 1, 0, 0, 0, 3), eD, (true, 2, 5, 1, 0, 0, 0, 5), eD, (false, 2, 2, 0, 0, 0, 0, 6), (false, 16, 3, 30, 0, 0, 0, 9), eD, eD, (false, 4, 0, 0, 0, 0, 0, 10), (false, 2, 1, 0, 0, 0, 0, 11), (false, 2, 5, 1, 0, 0, 0, 13), eD, (false, 9, 0, 0, 0, 0, 0, 14), (false, 3, 3, 0, 0, 0, 0, 15), (false, 0, 1, 0, 0, 0, 8, 17)],
  [eD, (false, 2, 5, 1, 0, 0, 0, 19), eD, (false, 9, 2, 0, 0, 0, 0, 20), (false, 13, 1, 0, 0, 0, 0, 21), (false, 14, 1, 0, 0, 0, 0, 22), (false, 14, 2, 0, 0, 0, 0, 23), (false, 23, 1, 13824, 0, 0, 0, 24), (false, 8, 5, 0, 0, 0, 1, 27), eD, eD, (false, 17, 0, 3, 0, 0, 0, 30), eD, eD, (false, 31, 0, 0, 0, 0, 0, 31)]]
set_option maxRecDepth 100000 in
theorem ok168 : okM 168 cd168 = true := by decide +kernel
def cd169 : List (List EM) := [[(false, 0, 2, 0, 0, 0, 1024, 3), eD, eD, (false, 0, 2, 0, 0, 0, 128, 6), eD, eD, (false, 2, 0, 0, 0, 0, 0, 7), (false, 0, 0, 0, 0, 0, 2, 8), (false, 9, 1, 0, 0, 0, 0, 9), (false, 9, 2, 0, 0, 0, 0, 10), (false, 9, 0, 0, 0, 0, 0, 11), (false, 29, 0, 0, 0, 0, 0, 12)]]
set_option maxRecDepth 100000 in
theorem ok169 : okM 169 cd169 = true := by decide +kernel
def cd170 : List (List EM) := [[(false, 3, 1, 0, 0, 0, 0, 1), (false, 1, 2, 0, 14, 0, 2, 4), eD, eD, (false, 4, 0, 0, 0, 0, 0, 5), (false, 19, 12, 0, 97, 0, 0, 8), eD, eD, (false, 0, 0, 0, 0, 0, 1, 9), (false, 9, 0, 0, 0, 0, 0, 10), (false, 14, 0, 0, 0, 0, 0, 11), (false, 28, 166, 3, 243, 0, 0, 14), eD, eD, (false, 29, 0, 0, 0, 1, 0, 15)]]
set_option maxRecDepth 100000 in
theorem ok170 : okM 170 cd170 = true := by decide +kernel
def cd171 : List (List EM) := [[(false, 4, 1, 0, 0, 0, 0, 1), (false, 0, 2, 0, 0, 0, 512, 4), eD, eD, (false, 0, 0, 0, 0, 0, 4, 5), (false, 2, 2, 0, 0, 0, 0, 6), (false, 9, 2, 0, 0, 0, 0, 7), (false, 9, 0, 0, 0, 0, 0, 8), (false, 0, 0, 0, 0, 0, 4, 9), (false, 28, 167, 3, 254, 0, 0, 12), eD, eD, (false, 30, 0, 0, 0, 0, 0, 13)]]
set_option maxRecDepth 100000 in
theorem ok171 : okM 171 cd171 = true := by decide +kernel
def cd172 : List (List EM) := [[(false, 4, 0, 0, 0, 0, 0, 1), (false, 19, 12, 8, 105, 0, 0, 4), eD, eD, (false, 0, 2, 0, 0, 0, 512, 7), eD, eD, (false, 0, 0, 0, 0, 0, 4, 8), (false, 2, 1, 0, 0, 0, 0, 9), (false, 9, 2, 0, 0, 0, 0, 10), (false, 9, 0, 0, 0, 0, 0, 11), (false, 0, 0, 0, 0, 0, 4, 12), (false, 3, 2, 0, 0, 0, 0, 13), (false, 28, 168, 4, 246, 0, 0, 16), eD, eD],
  [(false, 31, 0, 0, 0, 0, 0, 17)]]
set_option maxRecDepth 100000 in
theorem ok172 : okM 172 cd172 = true := by decide +kernel
