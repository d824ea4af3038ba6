/-! WHAT THE MAKERS LEAVE, written down cell by cell (the tables by gen_td.py) and held against the machine's run -/
abbrev TD : Type := (Nat × List (AV R1)) ⊕ ((Nat × Nat × Int × List (Nat × Int)) ⊕ (Nat × List (Option Nat)))
abbrev cA (a : Nat) : AV R1 := vR (.inl a)
def tdW0 : List TD := [.inl (8, [cA 1, cA 18, cA 25, vI 0, vI 0, cA 26, cA 27, cA 28, vI 0, vI (-1), vI 0]), .inl (3, [vI 0, vI 0, vI 0, vI 0, vI 0, vI 0, vI 0, cA 2, cA 3, cA 4, cA 5, cA 6, cA 7, cA 8, cA 9, cA 10, cA 11]), .inr (.inl (0, 6, 0, [])), .inr (.inl (0, 6, 0, [])), .inr (.inl (0, 6, 0, [])), .inr (.inl (0, 6, 0, [])), .inr (.inl (0, 10, 0, [])), .inr (.inl (0, 10, 0, [])), .inr (.inl (0, 10, 0, [])), .inr (.inl (0, 3, 0, [])), .inr (.inl (0, 3, 0, [])), .inl (4, [vI 0, cA 12, cA 13, cA 14, cA 15, cA 16, cA 17]), .inr (.inl (0, 6, (-1), [])), .inr (.inl (0, 6, 0, [])), .inr (.inl (0, 10, (-1), [])), .inr (.inl (0, 10, 0, [])), .inr (.inl (0, 4, 0, [])), .inr (.inl (0, 4, 0, [])), .inl (4, [vI 0, cA 19, cA 20, cA 21, cA 22, cA 23, cA 24]), .inr (.inl (0, 6, (-1), [])), .inr (.inl (0, 6, 0, [])), .inr (.inl (0, 10, (-1), [])), .inr (.inl (0, 10, 0, [])), .inr (.inl (0, 4, 0, [])), .inr (.inl (0, 4, 0, [])), .inr (.inr (104, [some 29, some 36, some 43, some 50, some 57, some 64, some 71, some 78, some 85, some 92, some 99, some 106, some 113, some 120, some 127, some 134, some 141, some 148, some 155, some 162])), .inr (.inl (0, 10, 0, [])), .inr (.inl (0, 10, 0, [])), .inr (.inl (0, 10, 0, [])), .inl (4, [vI 0, cA 30, cA 31, cA 32, cA 33, cA 34, cA 35]), .inr (.inl (0, 6, (-1), [])), .inr (.inl (0, 6, 0, [])), .inr (.inl (0, 10, (-1), [])), .inr (.inl (0, 10, 0, [])), .inr (.inl (0, 4, 0, [])), .inr (.inl (0, 4, 0, [])), .inl (4, [vI 0, cA 37, cA 38, cA 39, cA 40, cA 41, cA 42]), .inr (.inl (0, 6, (-1), [])), .inr (.inl (0, 6, 0, [])), .inr (.inl (0, 10, (-1), []))]
def tdW1 : List TD := [.inr (.inl (0, 10, 0, [])), .inr (.inl (0, 4, 0, [])), .inr (.inl (0, 4, 0, [])), .inl (4, [vI 0, cA 44, cA 45, cA 46, cA 47, cA 48, cA 49]), .inr (.inl (0, 6, (-1), [])), .inr (.inl (0, 6, 0, [])), .inr (.inl (0, 10, (-1), [])), .inr (.inl (0, 10, 0, [])), .inr (.inl (0, 4, 0, [])), .inr (.inl (0, 4, 0, [])), .inl (4, [vI 0, cA 51, cA 52, cA 53, cA 54, cA 55, cA 56]), .inr (.inl (0, 6, (-1), [])), .inr (.inl (0, 6, 0, [])), .inr (.inl (0, 10, (-1), [])), .inr (.inl (0, 10, 0, [])), .inr (.inl (0, 4, 0, [])), .inr (.inl (0, 4, 0, [])), .inl (4, [vI 0, cA 58, cA 59, cA 60, cA 61, cA 62, cA 63]), .inr (.inl (0, 6, (-1), [])), .inr (.inl (0, 6, 0, [])), .inr (.inl (0, 10, (-1), [])), .inr (.inl (0, 10, 0, [])), .inr (.inl (0, 4, 0, [])), .inr (.inl (0, 4, 0, [])), .inl (4, [vI 0, cA 65, cA 66, cA 67, cA 68, cA 69, cA 70]), .inr (.inl (0, 6, (-1), [])), .inr (.inl (0, 6, 0, [])), .inr (.inl (0, 10, (-1), [])), .inr (.inl (0, 10, 0, [])), .inr (.inl (0, 4, 0, [])), .inr (.inl (0, 4, 0, [])), .inl (4, [vI 0, cA 72, cA 73, cA 74, cA 75, cA 76, cA 77]), .inr (.inl (0, 6, (-1), [])), .inr (.inl (0, 6, 0, [])), .inr (.inl (0, 10, (-1), [])), .inr (.inl (0, 10, 0, [])), .inr (.inl (0, 4, 0, [])), .inr (.inl (0, 4, 0, [])), .inl (4, [vI 0, cA 79, cA 80, cA 81, cA 82, cA 83, cA 84]), .inr (.inl (0, 6, (-1), []))]
def tdW2 : List TD := [.inr (.inl (0, 6, 0, [])), .inr (.inl (0, 10, (-1), [])), .inr (.inl (0, 10, 0, [])), .inr (.inl (0, 4, 0, [])), .inr (.inl (0, 4, 0, [])), .inl (4, [vI 0, cA 86, cA 87, cA 88, cA 89, cA 90, cA 91]), .inr (.inl (0, 6, (-1), [])), .inr (.inl (0, 6, 0, [])), .inr (.inl (0, 10, (-1), [])), .inr (.inl (0, 10, 0, [])), .inr (.inl (0, 4, 0, [])), .inr (.inl (0, 4, 0, [])), .inl (4, [vI 0, cA 93, cA 94, cA 95, cA 96, cA 97, cA 98]), .inr (.inl (0, 6, (-1), [])), .inr (.inl (0, 6, 0, [])), .inr (.inl (0, 10, (-1), [])), .inr (.inl (0, 10, 0, [])), .inr (.inl (0, 4, 0, [])), .inr (.inl (0, 4, 0, [])), .inl (4, [vI 0, cA 100, cA 101, cA 102, cA 103, cA 104, cA 105]), .inr (.inl (0, 6, (-1), [])), .inr (.inl (0, 6, 0, [])), .inr (.inl (0, 10, (-1), [])), .inr (.inl (0, 10, 0, [])), .inr (.inl (0, 4, 0, [])), .inr (.inl (0, 4, 0, [])), .inl (4, [vI 0, cA 107, cA 108, cA 109, cA 110, cA 111, cA 112]), .inr (.inl (0, 6, (-1), [])), .inr (.inl (0, 6, 0, [])), .inr (.inl (0, 10, (-1), [])), .inr (.inl (0, 10, 0, [])), .inr (.inl (0, 4, 0, [])), .inr (.inl (0, 4, 0, [])), .inl (4, [vI 0, cA 114, cA 115, cA 116, cA 117, cA 118, cA 119]), .inr (.inl (0, 6, (-1), [])), .inr (.inl (0, 6, 0, [])), .inr (.inl (0, 10, (-1), [])), .inr (.inl (0, 10, 0, [])), .inr (.inl (0, 4, 0, [])), .inr (.inl (0, 4, 0, []))]
def tdW3 : List TD := [.inl (4, [vI 0, cA 121, cA 122, cA 123, cA 124, cA 125, cA 126]), .inr (.inl (0, 6, (-1), [])), .inr (.inl (0, 6, 0, [])), .inr (.inl (0, 10, (-1), [])), .inr (.inl (0, 10, 0, [])), .inr (.inl (0, 4, 0, [])), .inr (.inl (0, 4, 0, [])), .inl (4, [vI 0, cA 128, cA 129, cA 130, cA 131, cA 132, cA 133]), .inr (.inl (0, 6, (-1), [])), .inr (.inl (0, 6, 0, [])), .inr (.inl (0, 10, (-1), [])), .inr (.inl (0, 10, 0, [])), .inr (.inl (0, 4, 0, [])), .inr (.inl (0, 4, 0, [])), .inl (4, [vI 0, cA 135, cA 136, cA 137, cA 138, cA 139, cA 140]), .inr (.inl (0, 6, (-1), [])), .inr (.inl (0, 6, 0, [])), .inr (.inl (0, 10, (-1), [])), .inr (.inl (0, 10, 0, [])), .inr (.inl (0, 4, 0, [])), .inr (.inl (0, 4, 0, [])), .inl (4, [vI 0, cA 142, cA 143, cA 144, cA 145, cA 146, cA 147]), .inr (.inl (0, 6, (-1), [])), .inr (.inl (0, 6, 0, [])), .inr (.inl (0, 10, (-1), [])), .inr (.inl (0, 10, 0, [])), .inr (.inl (0, 4, 0, [])), .inr (.inl (0, 4, 0, [])), .inl (4, [vI 0, cA 149, cA 150, cA 151, cA 152, cA 153, cA 154]), .inr (.inl (0, 6, (-1), [])), .inr (.inl (0, 6, 0, [])), .inr (.inl (0, 10, (-1), [])), .inr (.inl (0, 10, 0, [])), .inr (.inl (0, 4, 0, [])), .inr (.inl (0, 4, 0, [])), .inl (4, [vI 0, cA 156, cA 157, cA 158, cA 159, cA 160, cA 161]), .inr (.inl (0, 6, (-1), [])), .inr (.inl (0, 6, 0, [])), .inr (.inl (0, 10, (-1), [])), .inr (.inl (0, 10, 0, []))]
def tdW4 : List TD := [.inr (.inl (0, 4, 0, [])), .inr (.inl (0, 4, 0, [])), .inl (4, [vI 0, cA 163, cA 164, cA 165, cA 166, cA 167, cA 168]), .inr (.inl (0, 6, (-1), [])), .inr (.inl (0, 6, 0, [])), .inr (.inl (0, 10, (-1), [])), .inr (.inl (0, 10, 0, [])), .inr (.inl (0, 4, 0, [])), .inr (.inl (0, 4, 0, []))]
def tdW : List TD := tdW0 ++ tdW1 ++ tdW2 ++ tdW3 ++ tdW4
def tdL0 : List TD := [.inl (0, [cA 1, cA 6, cA 24, cA 28, cA 51, cA 220, cA 221, cA 255, cA 282]), .inl (1, [cA 2, vI 0, cA 3, cA 4, cA 5, vI 0, vI 0, vI 0]), .inr (.inl (0, 400, 0, [])), .inr (.inl (0, 401, 0, [])), .inr (.inl (0, 401, 0, [])), .inr (.inl (0, 401, 0, [])), .inl (2, [cA 7]), .inl (3, [vI 0, vI 0, vI 0, vI 0, vI 0, vI 0, vI 0, cA 8, cA 9, cA 10, cA 11, cA 12, cA 13, cA 14, cA 15, cA 16, cA 17]), .inr (.inl (0, 6, 0, [])), .inr (.inl (0, 6, 0, [])), .inr (.inl (0, 6, 0, [])), .inr (.inl (0, 6, 0, [])), .inr (.inl (0, 10, 0, [])), .inr (.inl (0, 10, 0, [])), .inr (.inl (0, 10, 0, [])), .inr (.inl (0, 3, 0, [])), .inr (.inl (0, 3, 0, [])), .inl (4, [vI 0, cA 18, cA 19, cA 20, cA 21, cA 22, cA 23]), .inr (.inl (0, 6, (-1), [])), .inr (.inl (0, 6, 0, [])), .inr (.inl (0, 10, (-1), [])), .inr (.inl (0, 10, 0, [])), .inr (.inl (0, 4, 0, [])), .inr (.inl (0, 4, 0, [])), .inl (5, [cA 25, vI 0]), .inl (6, [cA 26, vI 0, cA 27, vI 0]), .inr (.inl (0, 400, 0, [])), .inr (.inl (3, 64, 0, [])), .inl (7, [cA 29, cA 30, vI 0]), .inr (.inr (106, [some 33, some 36, some 39, some 42, some 45, some 48])), .inl (6, [cA 31, vI 2, cA 32, vI 0]), .inr (.inl (0, 400, 0, [(0, (-260)), (1, (-59))])), .inr (.inl (3, 64, 0, [])), .inl (6, [cA 34, vI 0, cA 35, vI 0]), .inr (.inl (0, 400, 0, [])), .inr (.inl (3, 64, 0, [])), .inl (6, [cA 37, vI 0, cA 38, vI 0]), .inr (.inl (0, 400, 0, [])), .inr (.inl (3, 64, 0, [])), .inl (6, [cA 40, vI 0, cA 41, vI 0])]
def tdL1 : List TD := [.inr (.inl (0, 400, 0, [])), .inr (.inl (3, 64, 0, [])), .inl (6, [cA 43, vI 0, cA 44, vI 0]), .inr (.inl (0, 400, 0, [])), .inr (.inl (3, 64, 0, [])), .inl (6, [cA 46, vI 0, cA 47, vI 0]), .inr (.inl (0, 400, 0, [])), .inr (.inl (3, 64, 0, [])), .inl (6, [cA 49, vI 0, cA 50, vI 0]), .inr (.inl (0, 400, 0, [])), .inr (.inl (3, 64, 0, [])), .inl (8, [cA 52, cA 69, cA 76, vI 0, vI 0, cA 77, cA 78, cA 79, vI 0, vI (-1), vI 0]), .inl (3, [vI 0, vI 0, vI 0, vI 0, vI 0, vI 0, vI 0, cA 53, cA 54, cA 55, cA 56, cA 57, cA 58, cA 59, cA 60, cA 61, cA 62]), .inr (.inl (0, 6, 0, [])), .inr (.inl (0, 6, 0, [])), .inr (.inl (0, 6, 0, [])), .inr (.inl (0, 6, 0, [])), .inr (.inl (0, 10, 0, [])), .inr (.inl (0, 10, 0, [])), .inr (.inl (0, 10, 0, [])), .inr (.inl (0, 3, 0, [])), .inr (.inl (0, 3, 0, [])), .inl (4, [vI 0, cA 63, cA 64, cA 65, cA 66, cA 67, cA 68]), .inr (.inl (0, 6, (-1), [])), .inr (.inl (0, 6, 0, [])), .inr (.inl (0, 10, (-1), [])), .inr (.inl (0, 10, 0, [])), .inr (.inl (0, 4, 0, [])), .inr (.inl (0, 4, 0, [])), .inl (4, [vI 0, cA 70, cA 71, cA 72, cA 73, cA 74, cA 75]), .inr (.inl (0, 6, (-1), [])), .inr (.inl (0, 6, 0, [])), .inr (.inl (0, 10, (-1), [])), .inr (.inl (0, 10, 0, [])), .inr (.inl (0, 4, 0, [])), .inr (.inl (0, 4, 0, [])), .inr (.inr (104, [some 80, some 87, some 94, some 101, some 108, some 115, some 122, some 129, some 136, some 143, some 150, some 157, some 164, some 171, some 178, some 185, some 192, some 199, some 206, some 213])), .inr (.inl (0, 10, 0, [])), .inr (.inl (0, 10, 0, [])), .inr (.inl (0, 10, 0, []))]
def tdL2 : List TD := [.inl (4, [vI 0, cA 81, cA 82, cA 83, cA 84, cA 85, cA 86]), .inr (.inl (0, 6, (-1), [])), .inr (.inl (0, 6, 0, [])), .inr (.inl (0, 10, (-1), [])), .inr (.inl (0, 10, 0, [])), .inr (.inl (0, 4, 0, [])), .inr (.inl (0, 4, 0, [])), .inl (4, [vI 0, cA 88, cA 89, cA 90, cA 91, cA 92, cA 93]), .inr (.inl (0, 6, (-1), [])), .inr (.inl (0, 6, 0, [])), .inr (.inl (0, 10, (-1), [])), .inr (.inl (0, 10, 0, [])), .inr (.inl (0, 4, 0, [])), .inr (.inl (0, 4, 0, [])), .inl (4, [vI 0, cA 95, cA 96, cA 97, cA 98, cA 99, cA 100]), .inr (.inl (0, 6, (-1), [])), .inr (.inl (0, 6, 0, [])), .inr (.inl (0, 10, (-1), [])), .inr (.inl (0, 10, 0, [])), .inr (.inl (0, 4, 0, [])), .inr (.inl (0, 4, 0, [])), .inl (4, [vI 0, cA 102, cA 103, cA 104, cA 105, cA 106, cA 107]), .inr (.inl (0, 6, (-1), [])), .inr (.inl (0, 6, 0, [])), .inr (.inl (0, 10, (-1), [])), .inr (.inl (0, 10, 0, [])), .inr (.inl (0, 4, 0, [])), .inr (.inl (0, 4, 0, [])), .inl (4, [vI 0, cA 109, cA 110, cA 111, cA 112, cA 113, cA 114]), .inr (.inl (0, 6, (-1), [])), .inr (.inl (0, 6, 0, [])), .inr (.inl (0, 10, (-1), [])), .inr (.inl (0, 10, 0, [])), .inr (.inl (0, 4, 0, [])), .inr (.inl (0, 4, 0, [])), .inl (4, [vI 0, cA 116, cA 117, cA 118, cA 119, cA 120, cA 121]), .inr (.inl (0, 6, (-1), [])), .inr (.inl (0, 6, 0, [])), .inr (.inl (0, 10, (-1), [])), .inr (.inl (0, 10, 0, []))]
def tdL3 : List TD := [.inr (.inl (0, 4, 0, [])), .inr (.inl (0, 4, 0, [])), .inl (4, [vI 0, cA 123, cA 124, cA 125, cA 126, cA 127, cA 128]), .inr (.inl (0, 6, (-1), [])), .inr (.inl (0, 6, 0, [])), .inr (.inl (0, 10, (-1), [])), .inr (.inl (0, 10, 0, [])), .inr (.inl (0, 4, 0, [])), .inr (.inl (0, 4, 0, [])), .inl (4, [vI 0, cA 130, cA 131, cA 132, cA 133, cA 134, cA 135]), .inr (.inl (0, 6, (-1), [])), .inr (.inl (0, 6, 0, [])), .inr (.inl (0, 10, (-1), [])), .inr (.inl (0, 10, 0, [])), .inr (.inl (0, 4, 0, [])), .inr (.inl (0, 4, 0, [])), .inl (4, [vI 0, cA 137, cA 138, cA 139, cA 140, cA 141, cA 142]), .inr (.inl (0, 6, (-1), [])), .inr (.inl (0, 6, 0, [])), .inr (.inl (0, 10, (-1), [])), .inr (.inl (0, 10, 0, [])), .inr (.inl (0, 4, 0, [])), .inr (.inl (0, 4, 0, [])), .inl (4, [vI 0, cA 144, cA 145, cA 146, cA 147, cA 148, cA 149]), .inr (.inl (0, 6, (-1), [])), .inr (.inl (0, 6, 0, [])), .inr (.inl (0, 10, (-1), [])), .inr (.inl (0, 10, 0, [])), .inr (.inl (0, 4, 0, [])), .inr (.inl (0, 4, 0, [])), .inl (4, [vI 0, cA 151, cA 152, cA 153, cA 154, cA 155, cA 156]), .inr (.inl (0, 6, (-1), [])), .inr (.inl (0, 6, 0, [])), .inr (.inl (0, 10, (-1), [])), .inr (.inl (0, 10, 0, [])), .inr (.inl (0, 4, 0, [])), .inr (.inl (0, 4, 0, [])), .inl (4, [vI 0, cA 158, cA 159, cA 160, cA 161, cA 162, cA 163]), .inr (.inl (0, 6, (-1), [])), .inr (.inl (0, 6, 0, []))]
def tdL4 : List TD := [.inr (.inl (0, 10, (-1), [])), .inr (.inl (0, 10, 0, [])), .inr (.inl (0, 4, 0, [])), .inr (.inl (0, 4, 0, [])), .inl (4, [vI 0, cA 165, cA 166, cA 167, cA 168, cA 169, cA 170]), .inr (.inl (0, 6, (-1), [])), .inr (.inl (0, 6, 0, [])), .inr (.inl (0, 10, (-1), [])), .inr (.inl (0, 10, 0, [])), .inr (.inl (0, 4, 0, [])), .inr (.inl (0, 4, 0, [])), .inl (4, [vI 0, cA 172, cA 173, cA 174, cA 175, cA 176, cA 177]), .inr (.inl (0, 6, (-1), [])), .inr (.inl (0, 6, 0, [])), .inr (.inl (0, 10, (-1), [])), .inr (.inl (0, 10, 0, [])), .inr (.inl (0, 4, 0, [])), .inr (.inl (0, 4, 0, [])), .inl (4, [vI 0, cA 179, cA 180, cA 181, cA 182, cA 183, cA 184]), .inr (.inl (0, 6, (-1), [])), .inr (.inl (0, 6, 0, [])), .inr (.inl (0, 10, (-1), [])), .inr (.inl (0, 10, 0, [])), .inr (.inl (0, 4, 0, [])), .inr (.inl (0, 4, 0, [])), .inl (4, [vI 0, cA 186, cA 187, cA 188, cA 189, cA 190, cA 191]), .inr (.inl (0, 6, (-1), [])), .inr (.inl (0, 6, 0, [])), .inr (.inl (0, 10, (-1), [])), .inr (.inl (0, 10, 0, [])), .inr (.inl (0, 4, 0, [])), .inr (.inl (0, 4, 0, [])), .inl (4, [vI 0, cA 193, cA 194, cA 195, cA 196, cA 197, cA 198]), .inr (.inl (0, 6, (-1), [])), .inr (.inl (0, 6, 0, [])), .inr (.inl (0, 10, (-1), [])), .inr (.inl (0, 10, 0, [])), .inr (.inl (0, 4, 0, [])), .inr (.inl (0, 4, 0, [])), .inl (4, [vI 0, cA 200, cA 201, cA 202, cA 203, cA 204, cA 205])]
def tdL5 : List TD := [.inr (.inl (0, 6, (-1), [])), .inr (.inl (0, 6, 0, [])), .inr (.inl (0, 10, (-1), [])), .inr (.inl (0, 10, 0, [])), .inr (.inl (0, 4, 0, [])), .inr (.inl (0, 4, 0, [])), .inl (4, [vI 0, cA 207, cA 208, cA 209, cA 210, cA 211, cA 212]), .inr (.inl (0, 6, (-1), [])), .inr (.inl (0, 6, 0, [])), .inr (.inl (0, 10, (-1), [])), .inr (.inl (0, 10, 0, [])), .inr (.inl (0, 4, 0, [])), .inr (.inl (0, 4, 0, [])), .inl (4, [vI 0, cA 214, cA 215, cA 216, cA 217, cA 218, cA 219]), .inr (.inl (0, 6, (-1), [])), .inr (.inl (0, 6, 0, [])), .inr (.inl (0, 10, (-1), [])), .inr (.inl (0, 10, 0, [])), .inr (.inl (0, 4, 0, [])), .inr (.inl (0, 4, 0, [])), .inr (.inr (108, [none, none, none, none])), .inl (9, [cA 222, cA 229, cA 246, vI 0, cA 249, cA 250, cA 251, cA 252, cA 253, cA 254]), .inl (4, [vI 0, cA 223, cA 224, cA 225, cA 226, cA 227, cA 228]), .inr (.inl (0, 6, (-1), [])), .inr (.inl (0, 6, 0, [])), .inr (.inl (0, 10, (-1), [])), .inr (.inl (0, 10, 0, [])), .inr (.inl (0, 4, 0, [])), .inr (.inl (0, 4, 0, [])), .inl (3, [vI 0, vI 0, vI 0, vI 0, vI 0, vI 0, vI 0, cA 230, cA 231, cA 232, cA 233, cA 234, cA 235, cA 236, cA 237, cA 238, cA 239]), .inr (.inl (0, 6, 0, [])), .inr (.inl (0, 6, 0, [])), .inr (.inl (0, 6, 0, [])), .inr (.inl (0, 6, 0, [])), .inr (.inl (0, 10, 0, [])), .inr (.inl (0, 10, 0, [])), .inr (.inl (0, 10, 0, [])), .inr (.inl (0, 3, 0, [])), .inr (.inl (0, 3, 0, [])), .inl (4, [vI 0, cA 240, cA 241, cA 242, cA 243, cA 244, cA 245])]
def tdL6 : List TD := [.inr (.inl (0, 6, (-1), [])), .inr (.inl (0, 6, 0, [])), .inr (.inl (0, 10, (-1), [])), .inr (.inl (0, 10, 0, [])), .inr (.inl (0, 4, 0, [])), .inr (.inl (0, 4, 0, [])), .inl (6, [cA 247, vI 0, cA 248, vI 0]), .inr (.inl (0, 400, 0, [])), .inr (.inl (3, 64, 0, [])), .inr (.inl (0, 24, 0, [])), .inr (.inl (0, 24, 0, [])), .inr (.inl (0, 24, 0, [])), .inr (.inl (0, 24, 0, [])), .inr (.inl (0, 6, 0, [])), .inr (.inl (0, 6, 0, [])), .inl (10, [vI 0, vI 0, vI 0, cA 256, cA 257, cA 258, vI 0, cA 259, vI 0, vI 0, vI 0, cA 260]), .inr (.inl (0, 4, 0, [])), .inr (.inl (0, 4, 0, [])), .inr (.inl (0, 4, 0, [])), .inr (.inr (104, [some 261, some 268, some 275])), .inr (.inl (0, 8, 0, [])), .inl (4, [vI 0, cA 262, cA 263, cA 264, cA 265, cA 266, cA 267]), .inr (.inl (0, 6, (-1), [])), .inr (.inl (0, 6, 0, [])), .inr (.inl (0, 10, (-1), [])), .inr (.inl (0, 10, 0, [])), .inr (.inl (0, 4, 0, [])), .inr (.inl (0, 4, 0, [])), .inl (4, [vI 0, cA 269, cA 270, cA 271, cA 272, cA 273, cA 274]), .inr (.inl (0, 6, (-1), [])), .inr (.inl (0, 6, 0, [])), .inr (.inl (0, 10, (-1), [])), .inr (.inl (0, 10, 0, [])), .inr (.inl (0, 4, 0, [])), .inr (.inl (0, 4, 0, [])), .inl (4, [vI 0, cA 276, cA 277, cA 278, cA 279, cA 280, cA 281]), .inr (.inl (0, 6, (-1), [])), .inr (.inl (0, 6, 0, [])), .inr (.inl (0, 10, (-1), [])), .inr (.inl (0, 10, 0, []))]
def tdL7 : List TD := [.inr (.inl (0, 4, 0, [])), .inr (.inl (0, 4, 0, [])), .inl (11, [vI 0, vI 0, cA 283]), .inr (.inr (99, [some 284, some 285, some 286, some 287, some 288, some 289, some 290])), .inr (.inl (0, 6, 0, [])), .inr (.inl (0, 6, 0, [])), .inr (.inl (0, 6, 0, [])), .inr (.inl (0, 6, 0, [])), .inr (.inl (0, 6, 0, [])), .inr (.inl (0, 6, 0, [])), .inr (.inl (0, 6, 0, []))]
def tdL : List TD := tdL0 ++ tdL1 ++ tdL2 ++ tdL3 ++ tdL4 ++ tdL5 ++ tdL6 ++ tdL7
def tdM0 : List TD := [.inl (12, [vI 0, cA 1, cA 2, cA 3, cA 4, cA 5, cA 6, cA 7, cA 8, cA 9, cA 10, cA 11, cA 12, cA 13, cA 14, cA 15, cA 16, cA 17, cA 18, cA 19, cA 20, cA 21, cA 22, cA 23, cA 24, cA 25, cA 26, cA 27, cA 28, cA 29, cA 30, cA 31, cA 32, vI 0, vI 0, vI 0, vI 0, vI 0, vI 0, vI 0, vI 0, vI 0, vI 13, cA 33, cA 34, cA 35, cA 36, cA 37, cA 38, cA 39, cA 40, cA 41, cA 42, vI 0, cA 43, cA 44, cA 45, vI 0, vI 0, vI 0, cA 46, cA 47, cA 48, vI 0, cA 49, cA 50, vI 0, cA 51, cA 52, cA 53, cA 54, cA 55, vI 0, vI 0]), .inr (.inl (0, 11, 0, [(10, (-1))])), .inr (.inl (0, 4, 0, [])), .inr (.inl (0, 4, 0, [])), .inr (.inl (0, 6, 0, [])), .inr (.inl (0, 6, 0, [])), .inr (.inl (0, 6, 0, [])), .inr (.inl (0, 6, 0, [])), .inr (.inl (0, 6, 0, [])), .inr (.inl (0, 10, 0, [])), .inr (.inl (0, 10, 0, [])), .inr (.inl (0, 10, 0, [])), .inr (.inl (0, 10, 0, [])), .inr (.inl (0, 3, 0, [])), .inr (.inl (0, 3, 0, [])), .inr (.inl (0, 10, 0, [])), .inr (.inl (0, 10, 0, [])), .inr (.inl (0, 10, 0, [])), .inr (.inl (0, 4, 0, [])), .inr (.inl (0, 10, 0, [])), .inr (.inl (0, 10, 0, [])), .inr (.inl (0, 7, 0, [])), .inr (.inl (0, 4, 0, [])), .inr (.inl (0, 6, 0, [])), .inr (.inl (0, 6, 0, [])), .inr (.inl (0, 6, 0, [])), .inr (.inl (0, 6, 0, [])), .inr (.inl (0, 10, 0, [])), .inr (.inl (0, 10, 0, [])), .inr (.inl (0, 10, 0, [])), .inr (.inl (0, 10, 0, [])), .inr (.inl (0, 3, 0, [])), .inr (.inl (0, 3, 0, [])), .inr (.inl (1, 400, 0, [])), .inr (.inl (0, 1800, 0, [])), .inr (.inl (0, 1800, 0, [])), .inr (.inl (0, 6, 0, [])), .inr (.inl (0, 72, 0, [])), .inr (.inl (0, 72, 0, [])), .inr (.inl (0, 72, 0, []))]
def tdM1 : List TD := [.inr (.inl (0, 402, 0, [])), .inr (.inl (3, 13, 0, [])), .inr (.inl (3, 300, 0, [])), .inr (.inl (0, 6, 0, [])), .inr (.inl (0, 720, 0, [])), .inr (.inl (0, 1, 0, [])), .inr (.inl (0, 4, 0, [])), .inr (.inl (0, 4, 0, [])), .inr (.inl (0, 4, 0, [])), .inr (.inl (0, 4, 0, [])), .inr (.inl (0, 4, 0, [])), .inr (.inl (0, 8, 0, [])), .inr (.inl (0, 6, 0, [])), .inr (.inl (0, 30, 0, [])), .inr (.inl (0, 5500, 0, [])), .inr (.inl (2, 4, 0, []))]
def tdM : List TD := tdM0 ++ tdM1
def ieq (a b : Int) : Bool := decide (a = b)
theorem ieq_i {a b : Int} (h : ieq a b = true) : a = b := of_decide_eq_true h
def vb : AV R1 → AV R1 → Bool
  | .inl x, .inl y => ieq x y
  | .inr (.inl x), .inr (.inl y) => ieq x y
  | .inr (.inr none), .inr (.inr none) => true
  | .inr (.inr (some (.inl a))), .inr (.inr (some (.inl b))) => Nat.beq a b
  | _, _ => false
theorem vb_i {v w : AV R1} (h : vb v w = true) : w = v := by
  unfold vb at h
  split at h
  · rw [ieq_i h]
  · rw [ieq_i h]
  · rfl
  · rw [Nat.eq_of_beq_eq_true h]
  · cases h
def fsb : List (AV R1) → List (AV R1) → Bool
  | [], [] => true
  | v :: x, w :: y => vb v w && fsb x y
  | _, _ => false
theorem fsb_i : ∀ {x y : List (AV R1)}, fsb x y = true → y = x
  | [], [], _ => rfl
  | v :: x, w :: y, h => by
    unfold fsb at h
    rw [Bool.and_eq_true] at h
    rw [vb_i h.1, fsb_i h.2]
  | [], _ :: _, h => by cases h
  | _ :: _, [], h => by cases h
def exv : List (Nat × Int) → Int → Nat → Int
  | [], d, _ => d
  | (q, v) :: r, d, k => bif Nat.beq q k then v else exv r d k
def ckI (g : Nat → Int) (ex : List (Nat × Int)) (d : Int) : Nat → Bool
  | 0 => true
  | n + 1 => ieq (g n) (exv ex d n) && ckI g ex d n
theorem ckI_i {g : Nat → Int} {ex : List (Nat × Int)} {d : Int} : ∀ {n : Nat}, ckI g ex d n = true → ∀ k, k < n → g k = exv ex d k
  | 0, _, k, hk => by omega
  | n + 1, h, k, hk => by
    unfold ckI at h
    rw [Bool.and_eq_true] at h
    by_cases e : k = n
    · rw [e]; exact ieq_i h.1
    · exact ckI_i h.2 k (by omega)
def qb : Option Nat → Option Nat → Bool
  | none, none => true
  | some a, some b => Nat.beq a b
  | _, _ => false
theorem qb_i {a b : Option Nat} (h : qb a b = true) : a = b := by
  unfold qb at h
  split at h
  · rfl
  · rw [Nat.eq_of_beq_eq_true h]
  · cases h
def ckG (g : Nat → Option Nat) : Nat → List (Option Nat) → Bool
  | _, [] => true
  | k, p :: r => qb (g k) p && ckG g (k + 1) r
theorem ckG_i {g : Nat → Option Nat} : ∀ {ps : List (Option Nat)} {k : Nat}, ckG g k ps = true → ∀ j p, ps[j]? = some p → g (k + j) = p
  | [], _, _, j, p, h => by cases h
  | q :: r, k, h, j, p, hp => by
    unfold ckG at h
    rw [Bool.and_eq_true] at h
    match j, hp with
    | 0, hp =>
      cases hp
      exact qb_i h.1
    | j + 1, hp =>
      rw [show k + (j + 1) = k + 1 + j by omega]
      exact ckG_i h.2 j p hp
def ckC : TD → C1 → Bool
  | .inl (c, fs), .inl (c', fs') => Nat.beq c c' && fsb fs fs'
  | .inr (.inl (t, n, d, ex)), .inr (.inl (t', n', g)) => Nat.beq t t' && (Nat.beq n n' && ckI g ex d n)
  | .inr (.inr (t, ps)), .inr (.inr (t', n', g)) => Nat.beq t t' && (Nat.beq ps.length n' && ckG g 0 ps)
  | _, _ => false
def TDr : TD → C1 → Prop
  | .inl (c, fs), ce => ce = .inl (c, fs)
  | .inr (.inl (t, n, d, ex)), ce => ∃ g : Nat → Int, ce = .inr (.inl (t, n, g)) ∧ ∀ k, k < n → g k = exv ex d k
  | .inr (.inr (t, ps)), ce => ∃ g : Nat → Option Nat, ce = .inr (.inr (t, ps.length, g)) ∧ ∀ (j : Nat) (p : Option Nat), ps[j]? = some p → g j = p
theorem ckC_i : ∀ {d : TD} {c : C1}, ckC d c = true → TDr d c
  | .inl (c, fs), .inl (c', fs'), h => by
    have h : (Nat.beq c c' && fsb fs fs') = true := h
    rw [Bool.and_eq_true] at h
    rw [Nat.eq_of_beq_eq_true h.1, fsb_i h.2]
    rfl
  | .inr (.inl (t, n, d, ex)), .inr (.inl (t', n', g)), h => by
    have h : (Nat.beq t t' && (Nat.beq n n' && ckI g ex d n)) = true := h
    rw [Bool.and_eq_true, Bool.and_eq_true] at h
    rw [← Nat.eq_of_beq_eq_true h.1, ← Nat.eq_of_beq_eq_true h.2.1]
    exact ⟨g, rfl, ckI_i h.2.2⟩
  | .inr (.inr (t, ps)), .inr (.inr (t', n', g)), h => by
    have h : (Nat.beq t t' && (Nat.beq ps.length n' && ckG g 0 ps)) = true := h
    rw [Bool.and_eq_true, Bool.and_eq_true] at h
    rw [← Nat.eq_of_beq_eq_true h.1, ← Nat.eq_of_beq_eq_true h.2.1]
    refine ⟨g, rfl, fun j p hp => ?_⟩
    have := ckG_i h.2.2 j p hp
    rw [Nat.zero_add] at this
    exact this
  | .inl _, .inr _, h => by cases h
  | .inr (.inl _), .inl _, h => by cases h
  | .inr (.inr _), .inl _, h => by cases h
  | .inr (.inl _), .inr (.inr _), h => by cases h
  | .inr (.inr _), .inr (.inl _), h => by cases h
def ckW : List TD → List C1 → Bool
  | [], [] => true
  | d :: x, c :: y => ckC d c && ckW x y
  | _, _ => false
theorem ckW_i : ∀ {x : List TD} {y : List C1}, ckW x y = true → lR TDr x y
  | [], [], _ => trivial
  | d :: x, c :: y, h => by
    unfold ckW at h
    rw [Bool.and_eq_true] at h
    exact ⟨ckC_i h.1, ckW_i h.2⟩
  | [], _ :: _, h => by cases h
  | _ :: _, [], h => by cases h
/-- method k, run on one new object of class c, ends and leaves T -/
def ckRun (k c : Nat) (T : List TD) : Bool := match fr 100000 9 k 0 (am_loc (am_nl k) [vR (.inl 0)]) [] (1, [.inl (c, (am_ft c).map am_def)]) with
  | some (none, s) => ckW T s.2.reverse
  | _ => false
theorem ckRun_i {k c : Nat} {T : List TD} (h : ckRun k c T = true) : ∃ s : WV, fr 100000 9 k 0 (am_loc (am_nl k) [vR (.inl 0)]) [] (1, [.inl (c, (am_ft c).map am_def)]) = some (none, s) ∧ lR TDr T s.2.reverse := by
  unfold ckRun at h
  split at h
  · rename_i s e
    exact ⟨s, e, ckW_i h⟩
  · cases h
theorem run_W : ckRun 10 8 tdW = true := by decide +kernel
theorem run_L : ckRun 0 0 tdL = true := by decide +kernel
theorem run_M : ckRun 155 12 tdM = true := by decide +kernel
