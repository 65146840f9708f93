/-! the words of a text: as the class and as the reference reckon them -/
def KW : List Nat := [671470, 284871859, 402963, 542723566, 136228, 446253554, 719967813, 8554052, 8902245, 394885, 5294489, 4793556, 20686279, 635184, 6642, 14982420]
def K27 : List Nat := [405230, 123190219, 243208, 232608281, 82408, 191686599, 309156998, 4351162, 4562600, 237470, 2690359, 2486801, 10557034, 382984, 4797, 7622660]
def wdC (s : St) (A : Int) : Rs := grd (isK s 18 15) (if ¬ (gI s 15 0) = (1 : Int) then (X8_isWord_b61 s) else (grd (isK s 18 15) (if ¬ (cmp3 (gI s 15 2) A) = 0 then (X8_isWord_b61 s) else (X8_isWord_b62 s 1))))
theorem wc_0 (s : St) : X8_isWord s 15 (1000000 + ((0 : Nat) : Int)) = wdC s 405230 := rfl
theorem wc_1 (s : St) : X8_isWord s 15 (1000000 + ((1 : Nat) : Int)) = wdC s 123190219 := rfl
theorem wc_2 (s : St) : X8_isWord s 15 (1000000 + ((2 : Nat) : Int)) = wdC s 243208 := rfl
theorem wc_3 (s : St) : X8_isWord s 15 (1000000 + ((3 : Nat) : Int)) = wdC s 232608281 := rfl
theorem wc_4 (s : St) : X8_isWord s 15 (1000000 + ((4 : Nat) : Int)) = wdC s 82408 := rfl
theorem wc_5 (s : St) : X8_isWord s 15 (1000000 + ((5 : Nat) : Int)) = wdC s 191686599 := rfl
theorem wc_6 (s : St) : X8_isWord s 15 (1000000 + ((6 : Nat) : Int)) = wdC s 309156998 := rfl
theorem wc_7 (s : St) : X8_isWord s 15 (1000000 + ((7 : Nat) : Int)) = wdC s 4351162 := rfl
theorem wc_8 (s : St) : X8_isWord s 15 (1000000 + ((8 : Nat) : Int)) = wdC s 4562600 := rfl
theorem wc_9 (s : St) : X8_isWord s 15 (1000000 + ((9 : Nat) : Int)) = wdC s 237470 := rfl
theorem wc_10 (s : St) : X8_isWord s 15 (1000000 + ((10 : Nat) : Int)) = wdC s 2690359 := rfl
theorem wc_11 (s : St) : X8_isWord s 15 (1000000 + ((11 : Nat) : Int)) = wdC s 2486801 := rfl
theorem wc_12 (s : St) : X8_isWord s 15 (1000000 + ((12 : Nat) : Int)) = wdC s 10557034 := rfl
theorem wc_13 (s : St) : X8_isWord s 15 (1000000 + ((13 : Nat) : Int)) = wdC s 382984 := rfl
theorem wc_14 (s : St) : X8_isWord s 15 (1000000 + ((14 : Nat) : Int)) = wdC s 4797 := rfl
theorem wc_15 (s : St) : X8_isWord s 15 (1000000 + ((15 : Nat) : Int)) = wdC s 7622660 := rfl
theorem wm_0 (s : St) : X13_packed s (1000000 + ((17 : Nat) : Int)) = some (671470, s) := rfl
theorem wm_1 (s : St) : X13_packed s (1000000 + ((18 : Nat) : Int)) = some (284871859, s) := rfl
theorem wm_2 (s : St) : X13_packed s (1000000 + ((19 : Nat) : Int)) = some (402963, s) := rfl
theorem wm_3 (s : St) : X13_packed s (1000000 + ((20 : Nat) : Int)) = some (542723566, s) := rfl
theorem wm_4 (s : St) : X13_packed s (1000000 + ((21 : Nat) : Int)) = some (136228, s) := rfl
theorem wm_5 (s : St) : X13_packed s (1000000 + ((22 : Nat) : Int)) = some (446253554, s) := rfl
theorem wm_6 (s : St) : X13_packed s (1000000 + ((23 : Nat) : Int)) = some (719967813, s) := rfl
theorem wm_7 (s : St) : X13_packed s (1000000 + ((24 : Nat) : Int)) = some (8554052, s) := rfl
theorem wm_8 (s : St) : X13_packed s (1000000 + ((25 : Nat) : Int)) = some (8902245, s) := rfl
theorem wm_9 (s : St) : X13_packed s (1000000 + ((26 : Nat) : Int)) = some (394885, s) := rfl
theorem wm_10 (s : St) : X13_packed s (1000000 + ((27 : Nat) : Int)) = some (5294489, s) := rfl
theorem wm_11 (s : St) : X13_packed s (1000000 + ((28 : Nat) : Int)) = some (4793556, s) := rfl
theorem wm_12 (s : St) : X13_packed s (1000000 + ((29 : Nat) : Int)) = some (20686279, s) := rfl
theorem wm_13 (s : St) : X13_packed s (1000000 + ((30 : Nat) : Int)) = some (635184, s) := rfl
theorem wm_14 (s : St) : X13_packed s (1000000 + ((31 : Nat) : Int)) = some (6642, s) := rfl
theorem wm_15 (s : St) : X13_packed s (1000000 + ((32 : Nat) : Int)) = some (14982420, s) := rfl
