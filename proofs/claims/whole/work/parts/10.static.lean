def stab : List (Nat × Nat) := [(10, 0), (6, 0), (100, 400), (4, 0), (3, 0), (8, 0), (6, 0), (100, 401), (6, 0), (100, 401), (6, 0), (100, 401), (101, 401), (6, 0), (100, 400), (6, 0), (100, 400), (6, 0), (100, 6), (6, 0), (100, 6), (6, 0), (100, 3), (6, 0), (100, 3), (5, 0), (100, 7), (100, 7), (6, 0), (100, 400), (6, 0), (100, 400), (1, 0), (9, 0), (100, 16), (9, 0), (100, 16), (103, 16), (100, 128), (100, 128), (104, 40), (2, 0), (100, 16), (6, 0), (100, 128), (6, 0), (100, 128), (11, 0), (102, 17), (101, 17), (100, 17), (100, 17), (101, 136), (100, 136), (100, 17), (100, 51), (100, 17), (100, 17), (100, 17), (100, 17), (100, 17), (100, 6800), (100, 6800), (100, 6800), (100, 6800), (100, 136), (100, 136), (100, 17), (100, 400), (100, 4), (101, 3), (100, 3), (100, 4), (100, 4), (100, 4), (100, 4), (100, 4), (100, 136), (100, 17), (100, 17), (102, 136), (100, 140), (100, 40), (100, 40), (100, 40), (100, 40), (100, 136)]
def rtab : List (Int × Int × Int) := [(0, 0, 1), (0, 1, 3), (0, 2, 32), (0, 3, 35), (0, 4, 37), (0, 5, 38), (0, 6, 39), (0, 7, 40), (0, 8, 41), (0, 9, 43), (0, 10, 45), (1, 0, 2), (3, 0, 4), (4, 0, 5), (4, 1, 17), (4, 2, 19), (4, 3, 21), (4, 4, 23), (4, 5, 25), (5, 0, 6), (5, 1, 8), (5, 2, 10), (5, 3, 12), (5, 4, 13), (5, 5, 15), (6, 0, 7), (8, 0, 9), (10, 0, 11), (13, 0, 14), (15, 0, 16), (17, 0, 18), (19, 0, 20), (21, 0, 22), (23, 0, 24), (25, 0, 28), (25, 1, 30), (25, 2, 26), (25, 3, 27), (28, 0, 29), (30, 0, 31), (32, 0, 33), (33, 0, 34), (35, 0, 36), (41, 0, 42), (43, 0, 44), (45, 0, 46), (47, 1, 48), (47, 2, 49), (47, 3, 50), (47, 4, 51), (47, 5, 52), (47, 6, 53), (47, 7, 54), (47, 8, 55), (47, 9, 56), (47, 10, 57), (47, 11, 58), (47, 12, 59), (47, 13, 60), (47, 14, 61), (47, 15, 62), (47, 16, 63), (47, 17, 64), (47, 18, 65), (47, 19, 66), (47, 20, 67), (47, 21, 68), (47, 40, 69), (47, 43, 70), (47, 44, 71), (47, 45, 72), (47, 46, 73), (47, 47, 74), (47, 48, 75), (47, 49, 76), (47, 53, 77), (47, 54, 78), (47, 55, 79), (47, 56, 80), (47, 58, 81), (47, 60, 82), (47, 61, 83), (47, 62, 84), (47, 63, 85), (47, 66, 86)]
/-- the cells that the law's two objects are made of -/
def SW (X : XX) : Prop := 87 ≤ X.1.1 ∧ (∀ (k : Nat) (c : Nat × Nat), stab[k]? = some c → X.1.2 (k : Int) = c) ∧ ∀ (k : Nat) (q : Int × Int × Int), rtab[k]? = some q → X.2 q.1 q.2.1 = q.2.2
theorem sW0 {X : XX} (h : SW X) : X.1.2 0 = (10, 0) := h.2.1 0 _ rfl
theorem gW0 {X : XX} (h : SW X) : 0 ≤ (0 : Int) ∧ (0 : Int) < X.1.1 := ⟨by decide, by have := h.1; omega⟩
theorem sW1 {X : XX} (h : SW X) : X.1.2 1 = (6, 0) := h.2.1 1 _ rfl
theorem gW1 {X : XX} (h : SW X) : 0 ≤ (1 : Int) ∧ (1 : Int) < X.1.1 := ⟨by decide, by have := h.1; omega⟩
theorem sW2 {X : XX} (h : SW X) : X.1.2 2 = (100, 400) := h.2.1 2 _ rfl
theorem gW2 {X : XX} (h : SW X) : 0 ≤ (2 : Int) ∧ (2 : Int) < X.1.1 := ⟨by decide, by have := h.1; omega⟩
theorem sW3 {X : XX} (h : SW X) : X.1.2 3 = (4, 0) := h.2.1 3 _ rfl
theorem gW3 {X : XX} (h : SW X) : 0 ≤ (3 : Int) ∧ (3 : Int) < X.1.1 := ⟨by decide, by have := h.1; omega⟩
theorem sW4 {X : XX} (h : SW X) : X.1.2 4 = (3, 0) := h.2.1 4 _ rfl
theorem gW4 {X : XX} (h : SW X) : 0 ≤ (4 : Int) ∧ (4 : Int) < X.1.1 := ⟨by decide, by have := h.1; omega⟩
theorem sW5 {X : XX} (h : SW X) : X.1.2 5 = (8, 0) := h.2.1 5 _ rfl
theorem gW5 {X : XX} (h : SW X) : 0 ≤ (5 : Int) ∧ (5 : Int) < X.1.1 := ⟨by decide, by have := h.1; omega⟩
theorem sW6 {X : XX} (h : SW X) : X.1.2 6 = (6, 0) := h.2.1 6 _ rfl
theorem gW6 {X : XX} (h : SW X) : 0 ≤ (6 : Int) ∧ (6 : Int) < X.1.1 := ⟨by decide, by have := h.1; omega⟩
theorem sW7 {X : XX} (h : SW X) : X.1.2 7 = (100, 401) := h.2.1 7 _ rfl
theorem gW7 {X : XX} (h : SW X) : 0 ≤ (7 : Int) ∧ (7 : Int) < X.1.1 := ⟨by decide, by have := h.1; omega⟩
theorem sW8 {X : XX} (h : SW X) : X.1.2 8 = (6, 0) := h.2.1 8 _ rfl
theorem gW8 {X : XX} (h : SW X) : 0 ≤ (8 : Int) ∧ (8 : Int) < X.1.1 := ⟨by decide, by have := h.1; omega⟩
theorem sW9 {X : XX} (h : SW X) : X.1.2 9 = (100, 401) := h.2.1 9 _ rfl
theorem gW9 {X : XX} (h : SW X) : 0 ≤ (9 : Int) ∧ (9 : Int) < X.1.1 := ⟨by decide, by have := h.1; omega⟩
theorem sW10 {X : XX} (h : SW X) : X.1.2 10 = (6, 0) := h.2.1 10 _ rfl
theorem gW10 {X : XX} (h : SW X) : 0 ≤ (10 : Int) ∧ (10 : Int) < X.1.1 := ⟨by decide, by have := h.1; omega⟩
theorem sW11 {X : XX} (h : SW X) : X.1.2 11 = (100, 401) := h.2.1 11 _ rfl
theorem gW11 {X : XX} (h : SW X) : 0 ≤ (11 : Int) ∧ (11 : Int) < X.1.1 := ⟨by decide, by have := h.1; omega⟩
theorem sW12 {X : XX} (h : SW X) : X.1.2 12 = (101, 401) := h.2.1 12 _ rfl
theorem gW12 {X : XX} (h : SW X) : 0 ≤ (12 : Int) ∧ (12 : Int) < X.1.1 := ⟨by decide, by have := h.1; omega⟩
theorem sW13 {X : XX} (h : SW X) : X.1.2 13 = (6, 0) := h.2.1 13 _ rfl
theorem gW13 {X : XX} (h : SW X) : 0 ≤ (13 : Int) ∧ (13 : Int) < X.1.1 := ⟨by decide, by have := h.1; omega⟩
theorem sW14 {X : XX} (h : SW X) : X.1.2 14 = (100, 400) := h.2.1 14 _ rfl
theorem gW14 {X : XX} (h : SW X) : 0 ≤ (14 : Int) ∧ (14 : Int) < X.1.1 := ⟨by decide, by have := h.1; omega⟩
theorem sW15 {X : XX} (h : SW X) : X.1.2 15 = (6, 0) := h.2.1 15 _ rfl
theorem gW15 {X : XX} (h : SW X) : 0 ≤ (15 : Int) ∧ (15 : Int) < X.1.1 := ⟨by decide, by have := h.1; omega⟩
theorem sW16 {X : XX} (h : SW X) : X.1.2 16 = (100, 400) := h.2.1 16 _ rfl
theorem gW16 {X : XX} (h : SW X) : 0 ≤ (16 : Int) ∧ (16 : Int) < X.1.1 := ⟨by decide, by have := h.1; omega⟩
theorem sW17 {X : XX} (h : SW X) : X.1.2 17 = (6, 0) := h.2.1 17 _ rfl
theorem gW17 {X : XX} (h : SW X) : 0 ≤ (17 : Int) ∧ (17 : Int) < X.1.1 := ⟨by decide, by have := h.1; omega⟩
theorem sW18 {X : XX} (h : SW X) : X.1.2 18 = (100, 6) := h.2.1 18 _ rfl
theorem gW18 {X : XX} (h : SW X) : 0 ≤ (18 : Int) ∧ (18 : Int) < X.1.1 := ⟨by decide, by have := h.1; omega⟩
theorem sW19 {X : XX} (h : SW X) : X.1.2 19 = (6, 0) := h.2.1 19 _ rfl
theorem gW19 {X : XX} (h : SW X) : 0 ≤ (19 : Int) ∧ (19 : Int) < X.1.1 := ⟨by decide, by have := h.1; omega⟩
theorem sW20 {X : XX} (h : SW X) : X.1.2 20 = (100, 6) := h.2.1 20 _ rfl
theorem gW20 {X : XX} (h : SW X) : 0 ≤ (20 : Int) ∧ (20 : Int) < X.1.1 := ⟨by decide, by have := h.1; omega⟩
theorem sW21 {X : XX} (h : SW X) : X.1.2 21 = (6, 0) := h.2.1 21 _ rfl
theorem gW21 {X : XX} (h : SW X) : 0 ≤ (21 : Int) ∧ (21 : Int) < X.1.1 := ⟨by decide, by have := h.1; omega⟩
theorem sW22 {X : XX} (h : SW X) : X.1.2 22 = (100, 3) := h.2.1 22 _ rfl
theorem gW22 {X : XX} (h : SW X) : 0 ≤ (22 : Int) ∧ (22 : Int) < X.1.1 := ⟨by decide, by have := h.1; omega⟩
theorem sW23 {X : XX} (h : SW X) : X.1.2 23 = (6, 0) := h.2.1 23 _ rfl
theorem gW23 {X : XX} (h : SW X) : 0 ≤ (23 : Int) ∧ (23 : Int) < X.1.1 := ⟨by decide, by have := h.1; omega⟩
theorem sW24 {X : XX} (h : SW X) : X.1.2 24 = (100, 3) := h.2.1 24 _ rfl
theorem gW24 {X : XX} (h : SW X) : 0 ≤ (24 : Int) ∧ (24 : Int) < X.1.1 := ⟨by decide, by have := h.1; omega⟩
theorem sW25 {X : XX} (h : SW X) : X.1.2 25 = (5, 0) := h.2.1 25 _ rfl
theorem gW25 {X : XX} (h : SW X) : 0 ≤ (25 : Int) ∧ (25 : Int) < X.1.1 := ⟨by decide, by have := h.1; omega⟩
theorem sW26 {X : XX} (h : SW X) : X.1.2 26 = (100, 7) := h.2.1 26 _ rfl
theorem gW26 {X : XX} (h : SW X) : 0 ≤ (26 : Int) ∧ (26 : Int) < X.1.1 := ⟨by decide, by have := h.1; omega⟩
theorem sW27 {X : XX} (h : SW X) : X.1.2 27 = (100, 7) := h.2.1 27 _ rfl
theorem gW27 {X : XX} (h : SW X) : 0 ≤ (27 : Int) ∧ (27 : Int) < X.1.1 := ⟨by decide, by have := h.1; omega⟩
theorem sW28 {X : XX} (h : SW X) : X.1.2 28 = (6, 0) := h.2.1 28 _ rfl
theorem gW28 {X : XX} (h : SW X) : 0 ≤ (28 : Int) ∧ (28 : Int) < X.1.1 := ⟨by decide, by have := h.1; omega⟩
theorem sW29 {X : XX} (h : SW X) : X.1.2 29 = (100, 400) := h.2.1 29 _ rfl
theorem gW29 {X : XX} (h : SW X) : 0 ≤ (29 : Int) ∧ (29 : Int) < X.1.1 := ⟨by decide, by have := h.1; omega⟩
theorem sW30 {X : XX} (h : SW X) : X.1.2 30 = (6, 0) := h.2.1 30 _ rfl
theorem gW30 {X : XX} (h : SW X) : 0 ≤ (30 : Int) ∧ (30 : Int) < X.1.1 := ⟨by decide, by have := h.1; omega⟩
theorem sW31 {X : XX} (h : SW X) : X.1.2 31 = (100, 400) := h.2.1 31 _ rfl
theorem gW31 {X : XX} (h : SW X) : 0 ≤ (31 : Int) ∧ (31 : Int) < X.1.1 := ⟨by decide, by have := h.1; omega⟩
theorem sW32 {X : XX} (h : SW X) : X.1.2 32 = (1, 0) := h.2.1 32 _ rfl
theorem gW32 {X : XX} (h : SW X) : 0 ≤ (32 : Int) ∧ (32 : Int) < X.1.1 := ⟨by decide, by have := h.1; omega⟩
theorem sW33 {X : XX} (h : SW X) : X.1.2 33 = (9, 0) := h.2.1 33 _ rfl
theorem gW33 {X : XX} (h : SW X) : 0 ≤ (33 : Int) ∧ (33 : Int) < X.1.1 := ⟨by decide, by have := h.1; omega⟩
theorem sW34 {X : XX} (h : SW X) : X.1.2 34 = (100, 16) := h.2.1 34 _ rfl
theorem gW34 {X : XX} (h : SW X) : 0 ≤ (34 : Int) ∧ (34 : Int) < X.1.1 := ⟨by decide, by have := h.1; omega⟩
theorem sW35 {X : XX} (h : SW X) : X.1.2 35 = (9, 0) := h.2.1 35 _ rfl
theorem gW35 {X : XX} (h : SW X) : 0 ≤ (35 : Int) ∧ (35 : Int) < X.1.1 := ⟨by decide, by have := h.1; omega⟩
theorem sW36 {X : XX} (h : SW X) : X.1.2 36 = (100, 16) := h.2.1 36 _ rfl
theorem gW36 {X : XX} (h : SW X) : 0 ≤ (36 : Int) ∧ (36 : Int) < X.1.1 := ⟨by decide, by have := h.1; omega⟩
theorem sW37 {X : XX} (h : SW X) : X.1.2 37 = (103, 16) := h.2.1 37 _ rfl
theorem gW37 {X : XX} (h : SW X) : 0 ≤ (37 : Int) ∧ (37 : Int) < X.1.1 := ⟨by decide, by have := h.1; omega⟩
theorem sW38 {X : XX} (h : SW X) : X.1.2 38 = (100, 128) := h.2.1 38 _ rfl
theorem gW38 {X : XX} (h : SW X) : 0 ≤ (38 : Int) ∧ (38 : Int) < X.1.1 := ⟨by decide, by have := h.1; omega⟩
theorem sW39 {X : XX} (h : SW X) : X.1.2 39 = (100, 128) := h.2.1 39 _ rfl
theorem gW39 {X : XX} (h : SW X) : 0 ≤ (39 : Int) ∧ (39 : Int) < X.1.1 := ⟨by decide, by have := h.1; omega⟩
theorem sW40 {X : XX} (h : SW X) : X.1.2 40 = (104, 40) := h.2.1 40 _ rfl
theorem gW40 {X : XX} (h : SW X) : 0 ≤ (40 : Int) ∧ (40 : Int) < X.1.1 := ⟨by decide, by have := h.1; omega⟩
theorem sW41 {X : XX} (h : SW X) : X.1.2 41 = (2, 0) := h.2.1 41 _ rfl
theorem gW41 {X : XX} (h : SW X) : 0 ≤ (41 : Int) ∧ (41 : Int) < X.1.1 := ⟨by decide, by have := h.1; omega⟩
theorem sW42 {X : XX} (h : SW X) : X.1.2 42 = (100, 16) := h.2.1 42 _ rfl
theorem gW42 {X : XX} (h : SW X) : 0 ≤ (42 : Int) ∧ (42 : Int) < X.1.1 := ⟨by decide, by have := h.1; omega⟩
theorem sW43 {X : XX} (h : SW X) : X.1.2 43 = (6, 0) := h.2.1 43 _ rfl
theorem gW43 {X : XX} (h : SW X) : 0 ≤ (43 : Int) ∧ (43 : Int) < X.1.1 := ⟨by decide, by have := h.1; omega⟩
theorem sW44 {X : XX} (h : SW X) : X.1.2 44 = (100, 128) := h.2.1 44 _ rfl
theorem gW44 {X : XX} (h : SW X) : 0 ≤ (44 : Int) ∧ (44 : Int) < X.1.1 := ⟨by decide, by have := h.1; omega⟩
theorem sW45 {X : XX} (h : SW X) : X.1.2 45 = (6, 0) := h.2.1 45 _ rfl
theorem gW45 {X : XX} (h : SW X) : 0 ≤ (45 : Int) ∧ (45 : Int) < X.1.1 := ⟨by decide, by have := h.1; omega⟩
theorem sW46 {X : XX} (h : SW X) : X.1.2 46 = (100, 128) := h.2.1 46 _ rfl
theorem gW46 {X : XX} (h : SW X) : 0 ≤ (46 : Int) ∧ (46 : Int) < X.1.1 := ⟨by decide, by have := h.1; omega⟩
theorem sW47 {X : XX} (h : SW X) : X.1.2 47 = (11, 0) := h.2.1 47 _ rfl
theorem gW47 {X : XX} (h : SW X) : 0 ≤ (47 : Int) ∧ (47 : Int) < X.1.1 := ⟨by decide, by have := h.1; omega⟩
theorem sW48 {X : XX} (h : SW X) : X.1.2 48 = (102, 17) := h.2.1 48 _ rfl
theorem gW48 {X : XX} (h : SW X) : 0 ≤ (48 : Int) ∧ (48 : Int) < X.1.1 := ⟨by decide, by have := h.1; omega⟩
theorem sW49 {X : XX} (h : SW X) : X.1.2 49 = (101, 17) := h.2.1 49 _ rfl
theorem gW49 {X : XX} (h : SW X) : 0 ≤ (49 : Int) ∧ (49 : Int) < X.1.1 := ⟨by decide, by have := h.1; omega⟩
theorem sW50 {X : XX} (h : SW X) : X.1.2 50 = (100, 17) := h.2.1 50 _ rfl
theorem gW50 {X : XX} (h : SW X) : 0 ≤ (50 : Int) ∧ (50 : Int) < X.1.1 := ⟨by decide, by have := h.1; omega⟩
theorem sW51 {X : XX} (h : SW X) : X.1.2 51 = (100, 17) := h.2.1 51 _ rfl
theorem gW51 {X : XX} (h : SW X) : 0 ≤ (51 : Int) ∧ (51 : Int) < X.1.1 := ⟨by decide, by have := h.1; omega⟩
theorem sW52 {X : XX} (h : SW X) : X.1.2 52 = (101, 136) := h.2.1 52 _ rfl
theorem gW52 {X : XX} (h : SW X) : 0 ≤ (52 : Int) ∧ (52 : Int) < X.1.1 := ⟨by decide, by have := h.1; omega⟩
theorem sW53 {X : XX} (h : SW X) : X.1.2 53 = (100, 136) := h.2.1 53 _ rfl
theorem gW53 {X : XX} (h : SW X) : 0 ≤ (53 : Int) ∧ (53 : Int) < X.1.1 := ⟨by decide, by have := h.1; omega⟩
theorem sW54 {X : XX} (h : SW X) : X.1.2 54 = (100, 17) := h.2.1 54 _ rfl
theorem gW54 {X : XX} (h : SW X) : 0 ≤ (54 : Int) ∧ (54 : Int) < X.1.1 := ⟨by decide, by have := h.1; omega⟩
theorem sW55 {X : XX} (h : SW X) : X.1.2 55 = (100, 51) := h.2.1 55 _ rfl
theorem gW55 {X : XX} (h : SW X) : 0 ≤ (55 : Int) ∧ (55 : Int) < X.1.1 := ⟨by decide, by have := h.1; omega⟩
theorem sW56 {X : XX} (h : SW X) : X.1.2 56 = (100, 17) := h.2.1 56 _ rfl
theorem gW56 {X : XX} (h : SW X) : 0 ≤ (56 : Int) ∧ (56 : Int) < X.1.1 := ⟨by decide, by have := h.1; omega⟩
theorem sW57 {X : XX} (h : SW X) : X.1.2 57 = (100, 17) := h.2.1 57 _ rfl
theorem gW57 {X : XX} (h : SW X) : 0 ≤ (57 : Int) ∧ (57 : Int) < X.1.1 := ⟨by decide, by have := h.1; omega⟩
theorem sW58 {X : XX} (h : SW X) : X.1.2 58 = (100, 17) := h.2.1 58 _ rfl
theorem gW58 {X : XX} (h : SW X) : 0 ≤ (58 : Int) ∧ (58 : Int) < X.1.1 := ⟨by decide, by have := h.1; omega⟩
theorem sW59 {X : XX} (h : SW X) : X.1.2 59 = (100, 17) := h.2.1 59 _ rfl
theorem gW59 {X : XX} (h : SW X) : 0 ≤ (59 : Int) ∧ (59 : Int) < X.1.1 := ⟨by decide, by have := h.1; omega⟩
theorem sW60 {X : XX} (h : SW X) : X.1.2 60 = (100, 17) := h.2.1 60 _ rfl
theorem gW60 {X : XX} (h : SW X) : 0 ≤ (60 : Int) ∧ (60 : Int) < X.1.1 := ⟨by decide, by have := h.1; omega⟩
theorem sW61 {X : XX} (h : SW X) : X.1.2 61 = (100, 6800) := h.2.1 61 _ rfl
theorem gW61 {X : XX} (h : SW X) : 0 ≤ (61 : Int) ∧ (61 : Int) < X.1.1 := ⟨by decide, by have := h.1; omega⟩
theorem sW62 {X : XX} (h : SW X) : X.1.2 62 = (100, 6800) := h.2.1 62 _ rfl
theorem gW62 {X : XX} (h : SW X) : 0 ≤ (62 : Int) ∧ (62 : Int) < X.1.1 := ⟨by decide, by have := h.1; omega⟩
theorem sW63 {X : XX} (h : SW X) : X.1.2 63 = (100, 6800) := h.2.1 63 _ rfl
theorem gW63 {X : XX} (h : SW X) : 0 ≤ (63 : Int) ∧ (63 : Int) < X.1.1 := ⟨by decide, by have := h.1; omega⟩
theorem sW64 {X : XX} (h : SW X) : X.1.2 64 = (100, 6800) := h.2.1 64 _ rfl
theorem gW64 {X : XX} (h : SW X) : 0 ≤ (64 : Int) ∧ (64 : Int) < X.1.1 := ⟨by decide, by have := h.1; omega⟩
theorem sW65 {X : XX} (h : SW X) : X.1.2 65 = (100, 136) := h.2.1 65 _ rfl
theorem gW65 {X : XX} (h : SW X) : 0 ≤ (65 : Int) ∧ (65 : Int) < X.1.1 := ⟨by decide, by have := h.1; omega⟩
theorem sW66 {X : XX} (h : SW X) : X.1.2 66 = (100, 136) := h.2.1 66 _ rfl
theorem gW66 {X : XX} (h : SW X) : 0 ≤ (66 : Int) ∧ (66 : Int) < X.1.1 := ⟨by decide, by have := h.1; omega⟩
theorem sW67 {X : XX} (h : SW X) : X.1.2 67 = (100, 17) := h.2.1 67 _ rfl
theorem gW67 {X : XX} (h : SW X) : 0 ≤ (67 : Int) ∧ (67 : Int) < X.1.1 := ⟨by decide, by have := h.1; omega⟩
theorem sW68 {X : XX} (h : SW X) : X.1.2 68 = (100, 400) := h.2.1 68 _ rfl
theorem gW68 {X : XX} (h : SW X) : 0 ≤ (68 : Int) ∧ (68 : Int) < X.1.1 := ⟨by decide, by have := h.1; omega⟩
theorem sW69 {X : XX} (h : SW X) : X.1.2 69 = (100, 4) := h.2.1 69 _ rfl
theorem gW69 {X : XX} (h : SW X) : 0 ≤ (69 : Int) ∧ (69 : Int) < X.1.1 := ⟨by decide, by have := h.1; omega⟩
theorem sW70 {X : XX} (h : SW X) : X.1.2 70 = (101, 3) := h.2.1 70 _ rfl
theorem gW70 {X : XX} (h : SW X) : 0 ≤ (70 : Int) ∧ (70 : Int) < X.1.1 := ⟨by decide, by have := h.1; omega⟩
theorem sW71 {X : XX} (h : SW X) : X.1.2 71 = (100, 3) := h.2.1 71 _ rfl
theorem gW71 {X : XX} (h : SW X) : 0 ≤ (71 : Int) ∧ (71 : Int) < X.1.1 := ⟨by decide, by have := h.1; omega⟩
theorem sW72 {X : XX} (h : SW X) : X.1.2 72 = (100, 4) := h.2.1 72 _ rfl
theorem gW72 {X : XX} (h : SW X) : 0 ≤ (72 : Int) ∧ (72 : Int) < X.1.1 := ⟨by decide, by have := h.1; omega⟩
theorem sW73 {X : XX} (h : SW X) : X.1.2 73 = (100, 4) := h.2.1 73 _ rfl
theorem gW73 {X : XX} (h : SW X) : 0 ≤ (73 : Int) ∧ (73 : Int) < X.1.1 := ⟨by decide, by have := h.1; omega⟩
theorem sW74 {X : XX} (h : SW X) : X.1.2 74 = (100, 4) := h.2.1 74 _ rfl
theorem gW74 {X : XX} (h : SW X) : 0 ≤ (74 : Int) ∧ (74 : Int) < X.1.1 := ⟨by decide, by have := h.1; omega⟩
theorem sW75 {X : XX} (h : SW X) : X.1.2 75 = (100, 4) := h.2.1 75 _ rfl
theorem gW75 {X : XX} (h : SW X) : 0 ≤ (75 : Int) ∧ (75 : Int) < X.1.1 := ⟨by decide, by have := h.1; omega⟩
theorem sW76 {X : XX} (h : SW X) : X.1.2 76 = (100, 4) := h.2.1 76 _ rfl
theorem gW76 {X : XX} (h : SW X) : 0 ≤ (76 : Int) ∧ (76 : Int) < X.1.1 := ⟨by decide, by have := h.1; omega⟩
theorem sW77 {X : XX} (h : SW X) : X.1.2 77 = (100, 136) := h.2.1 77 _ rfl
theorem gW77 {X : XX} (h : SW X) : 0 ≤ (77 : Int) ∧ (77 : Int) < X.1.1 := ⟨by decide, by have := h.1; omega⟩
theorem sW78 {X : XX} (h : SW X) : X.1.2 78 = (100, 17) := h.2.1 78 _ rfl
theorem gW78 {X : XX} (h : SW X) : 0 ≤ (78 : Int) ∧ (78 : Int) < X.1.1 := ⟨by decide, by have := h.1; omega⟩
theorem sW79 {X : XX} (h : SW X) : X.1.2 79 = (100, 17) := h.2.1 79 _ rfl
theorem gW79 {X : XX} (h : SW X) : 0 ≤ (79 : Int) ∧ (79 : Int) < X.1.1 := ⟨by decide, by have := h.1; omega⟩
theorem sW80 {X : XX} (h : SW X) : X.1.2 80 = (102, 136) := h.2.1 80 _ rfl
theorem gW80 {X : XX} (h : SW X) : 0 ≤ (80 : Int) ∧ (80 : Int) < X.1.1 := ⟨by decide, by have := h.1; omega⟩
theorem sW81 {X : XX} (h : SW X) : X.1.2 81 = (100, 140) := h.2.1 81 _ rfl
theorem gW81 {X : XX} (h : SW X) : 0 ≤ (81 : Int) ∧ (81 : Int) < X.1.1 := ⟨by decide, by have := h.1; omega⟩
theorem sW82 {X : XX} (h : SW X) : X.1.2 82 = (100, 40) := h.2.1 82 _ rfl
theorem gW82 {X : XX} (h : SW X) : 0 ≤ (82 : Int) ∧ (82 : Int) < X.1.1 := ⟨by decide, by have := h.1; omega⟩
theorem sW83 {X : XX} (h : SW X) : X.1.2 83 = (100, 40) := h.2.1 83 _ rfl
theorem gW83 {X : XX} (h : SW X) : 0 ≤ (83 : Int) ∧ (83 : Int) < X.1.1 := ⟨by decide, by have := h.1; omega⟩
theorem sW84 {X : XX} (h : SW X) : X.1.2 84 = (100, 40) := h.2.1 84 _ rfl
theorem gW84 {X : XX} (h : SW X) : 0 ≤ (84 : Int) ∧ (84 : Int) < X.1.1 := ⟨by decide, by have := h.1; omega⟩
theorem sW85 {X : XX} (h : SW X) : X.1.2 85 = (100, 40) := h.2.1 85 _ rfl
theorem gW85 {X : XX} (h : SW X) : 0 ≤ (85 : Int) ∧ (85 : Int) < X.1.1 := ⟨by decide, by have := h.1; omega⟩
theorem sW86 {X : XX} (h : SW X) : X.1.2 86 = (100, 136) := h.2.1 86 _ rfl
theorem gW86 {X : XX} (h : SW X) : 0 ≤ (86 : Int) ∧ (86 : Int) < X.1.1 := ⟨by decide, by have := h.1; omega⟩
theorem rW0_0 {X : XX} (h : SW X) : X.2 0 0 = 1 := h.2.2 0 _ rfl
theorem rW0_1 {X : XX} (h : SW X) : X.2 0 1 = 3 := h.2.2 1 _ rfl
theorem rW0_2 {X : XX} (h : SW X) : X.2 0 2 = 32 := h.2.2 2 _ rfl
theorem rW0_3 {X : XX} (h : SW X) : X.2 0 3 = 35 := h.2.2 3 _ rfl
theorem rW0_4 {X : XX} (h : SW X) : X.2 0 4 = 37 := h.2.2 4 _ rfl
theorem rW0_5 {X : XX} (h : SW X) : X.2 0 5 = 38 := h.2.2 5 _ rfl
theorem rW0_6 {X : XX} (h : SW X) : X.2 0 6 = 39 := h.2.2 6 _ rfl
theorem rW0_7 {X : XX} (h : SW X) : X.2 0 7 = 40 := h.2.2 7 _ rfl
theorem rW0_8 {X : XX} (h : SW X) : X.2 0 8 = 41 := h.2.2 8 _ rfl
theorem rW0_9 {X : XX} (h : SW X) : X.2 0 9 = 43 := h.2.2 9 _ rfl
theorem rW0_10 {X : XX} (h : SW X) : X.2 0 10 = 45 := h.2.2 10 _ rfl
theorem rW1_0 {X : XX} (h : SW X) : X.2 1 0 = 2 := h.2.2 11 _ rfl
theorem rW3_0 {X : XX} (h : SW X) : X.2 3 0 = 4 := h.2.2 12 _ rfl
theorem rW4_0 {X : XX} (h : SW X) : X.2 4 0 = 5 := h.2.2 13 _ rfl
theorem rW4_1 {X : XX} (h : SW X) : X.2 4 1 = 17 := h.2.2 14 _ rfl
theorem rW4_2 {X : XX} (h : SW X) : X.2 4 2 = 19 := h.2.2 15 _ rfl
theorem rW4_3 {X : XX} (h : SW X) : X.2 4 3 = 21 := h.2.2 16 _ rfl
theorem rW4_4 {X : XX} (h : SW X) : X.2 4 4 = 23 := h.2.2 17 _ rfl
theorem rW4_5 {X : XX} (h : SW X) : X.2 4 5 = 25 := h.2.2 18 _ rfl
theorem rW5_0 {X : XX} (h : SW X) : X.2 5 0 = 6 := h.2.2 19 _ rfl
theorem rW5_1 {X : XX} (h : SW X) : X.2 5 1 = 8 := h.2.2 20 _ rfl
theorem rW5_2 {X : XX} (h : SW X) : X.2 5 2 = 10 := h.2.2 21 _ rfl
theorem rW5_3 {X : XX} (h : SW X) : X.2 5 3 = 12 := h.2.2 22 _ rfl
theorem rW5_4 {X : XX} (h : SW X) : X.2 5 4 = 13 := h.2.2 23 _ rfl
theorem rW5_5 {X : XX} (h : SW X) : X.2 5 5 = 15 := h.2.2 24 _ rfl
theorem rW6_0 {X : XX} (h : SW X) : X.2 6 0 = 7 := h.2.2 25 _ rfl
theorem rW8_0 {X : XX} (h : SW X) : X.2 8 0 = 9 := h.2.2 26 _ rfl
theorem rW10_0 {X : XX} (h : SW X) : X.2 10 0 = 11 := h.2.2 27 _ rfl
theorem rW13_0 {X : XX} (h : SW X) : X.2 13 0 = 14 := h.2.2 28 _ rfl
theorem rW15_0 {X : XX} (h : SW X) : X.2 15 0 = 16 := h.2.2 29 _ rfl
theorem rW17_0 {X : XX} (h : SW X) : X.2 17 0 = 18 := h.2.2 30 _ rfl
theorem rW19_0 {X : XX} (h : SW X) : X.2 19 0 = 20 := h.2.2 31 _ rfl
theorem rW21_0 {X : XX} (h : SW X) : X.2 21 0 = 22 := h.2.2 32 _ rfl
theorem rW23_0 {X : XX} (h : SW X) : X.2 23 0 = 24 := h.2.2 33 _ rfl
theorem rW25_0 {X : XX} (h : SW X) : X.2 25 0 = 28 := h.2.2 34 _ rfl
theorem rW25_1 {X : XX} (h : SW X) : X.2 25 1 = 30 := h.2.2 35 _ rfl
theorem rW25_2 {X : XX} (h : SW X) : X.2 25 2 = 26 := h.2.2 36 _ rfl
theorem rW25_3 {X : XX} (h : SW X) : X.2 25 3 = 27 := h.2.2 37 _ rfl
theorem rW28_0 {X : XX} (h : SW X) : X.2 28 0 = 29 := h.2.2 38 _ rfl
theorem rW30_0 {X : XX} (h : SW X) : X.2 30 0 = 31 := h.2.2 39 _ rfl
theorem rW32_0 {X : XX} (h : SW X) : X.2 32 0 = 33 := h.2.2 40 _ rfl
theorem rW33_0 {X : XX} (h : SW X) : X.2 33 0 = 34 := h.2.2 41 _ rfl
theorem rW35_0 {X : XX} (h : SW X) : X.2 35 0 = 36 := h.2.2 42 _ rfl
theorem rW41_0 {X : XX} (h : SW X) : X.2 41 0 = 42 := h.2.2 43 _ rfl
theorem rW43_0 {X : XX} (h : SW X) : X.2 43 0 = 44 := h.2.2 44 _ rfl
theorem rW45_0 {X : XX} (h : SW X) : X.2 45 0 = 46 := h.2.2 45 _ rfl
theorem rW47_1 {X : XX} (h : SW X) : X.2 47 1 = 48 := h.2.2 46 _ rfl
theorem rW47_2 {X : XX} (h : SW X) : X.2 47 2 = 49 := h.2.2 47 _ rfl
theorem rW47_3 {X : XX} (h : SW X) : X.2 47 3 = 50 := h.2.2 48 _ rfl
theorem rW47_4 {X : XX} (h : SW X) : X.2 47 4 = 51 := h.2.2 49 _ rfl
theorem rW47_5 {X : XX} (h : SW X) : X.2 47 5 = 52 := h.2.2 50 _ rfl
theorem rW47_6 {X : XX} (h : SW X) : X.2 47 6 = 53 := h.2.2 51 _ rfl
theorem rW47_7 {X : XX} (h : SW X) : X.2 47 7 = 54 := h.2.2 52 _ rfl
theorem rW47_8 {X : XX} (h : SW X) : X.2 47 8 = 55 := h.2.2 53 _ rfl
theorem rW47_9 {X : XX} (h : SW X) : X.2 47 9 = 56 := h.2.2 54 _ rfl
theorem rW47_10 {X : XX} (h : SW X) : X.2 47 10 = 57 := h.2.2 55 _ rfl
theorem rW47_11 {X : XX} (h : SW X) : X.2 47 11 = 58 := h.2.2 56 _ rfl
theorem rW47_12 {X : XX} (h : SW X) : X.2 47 12 = 59 := h.2.2 57 _ rfl
theorem rW47_13 {X : XX} (h : SW X) : X.2 47 13 = 60 := h.2.2 58 _ rfl
theorem rW47_14 {X : XX} (h : SW X) : X.2 47 14 = 61 := h.2.2 59 _ rfl
theorem rW47_15 {X : XX} (h : SW X) : X.2 47 15 = 62 := h.2.2 60 _ rfl
theorem rW47_16 {X : XX} (h : SW X) : X.2 47 16 = 63 := h.2.2 61 _ rfl
theorem rW47_17 {X : XX} (h : SW X) : X.2 47 17 = 64 := h.2.2 62 _ rfl
theorem rW47_18 {X : XX} (h : SW X) : X.2 47 18 = 65 := h.2.2 63 _ rfl
theorem rW47_19 {X : XX} (h : SW X) : X.2 47 19 = 66 := h.2.2 64 _ rfl
theorem rW47_20 {X : XX} (h : SW X) : X.2 47 20 = 67 := h.2.2 65 _ rfl
theorem rW47_21 {X : XX} (h : SW X) : X.2 47 21 = 68 := h.2.2 66 _ rfl
theorem rW47_40 {X : XX} (h : SW X) : X.2 47 40 = 69 := h.2.2 67 _ rfl
theorem rW47_43 {X : XX} (h : SW X) : X.2 47 43 = 70 := h.2.2 68 _ rfl
theorem rW47_44 {X : XX} (h : SW X) : X.2 47 44 = 71 := h.2.2 69 _ rfl
theorem rW47_45 {X : XX} (h : SW X) : X.2 47 45 = 72 := h.2.2 70 _ rfl
theorem rW47_46 {X : XX} (h : SW X) : X.2 47 46 = 73 := h.2.2 71 _ rfl
theorem rW47_47 {X : XX} (h : SW X) : X.2 47 47 = 74 := h.2.2 72 _ rfl
theorem rW47_48 {X : XX} (h : SW X) : X.2 47 48 = 75 := h.2.2 73 _ rfl
theorem rW47_49 {X : XX} (h : SW X) : X.2 47 49 = 76 := h.2.2 74 _ rfl
theorem rW47_53 {X : XX} (h : SW X) : X.2 47 53 = 77 := h.2.2 75 _ rfl
theorem rW47_54 {X : XX} (h : SW X) : X.2 47 54 = 78 := h.2.2 76 _ rfl
theorem rW47_55 {X : XX} (h : SW X) : X.2 47 55 = 79 := h.2.2 77 _ rfl
theorem rW47_56 {X : XX} (h : SW X) : X.2 47 56 = 80 := h.2.2 78 _ rfl
theorem rW47_58 {X : XX} (h : SW X) : X.2 47 58 = 81 := h.2.2 79 _ rfl
theorem rW47_60 {X : XX} (h : SW X) : X.2 47 60 = 82 := h.2.2 80 _ rfl
theorem rW47_61 {X : XX} (h : SW X) : X.2 47 61 = 83 := h.2.2 81 _ rfl
theorem rW47_62 {X : XX} (h : SW X) : X.2 47 62 = 84 := h.2.2 82 _ rfl
theorem rW47_63 {X : XX} (h : SW X) : X.2 47 63 = 85 := h.2.2 83 _ rfl
theorem rW47_66 {X : XX} (h : SW X) : X.2 47 66 = 86 := h.2.2 84 _ rfl
theorem SW.new {X : XX} {ki len : Nat} (h : SW X) : SW (nX X ki len) := by
  have h1 := h.1
  refine ⟨by show _ ≤ X.1.1 + 1; omega, fun k c hk => ?_, fun k q hk => ?_⟩
  · have hl : k < 87 := (List.getElem?_eq_some_iff.mp hk).1
    have : ¬ (k : Int) = (X.1.1 : Int) := by omega
    simp only [nX, this, if_false]
    exact h.2.1 k c hk
  · have hl : ∀ q ∈ rtab, q.1 < 87 := by decide +kernel
    have hq := hl q (List.mem_of_getElem? hk)
    have : ¬ q.1 = (X.1.1 : Int) := by omega
    simp only [nX, this, if_false]
    exact h.2.2 k q hk
theorem SW.ref {X : XX} {r i x : Int} (h : SW X) (hr : (rtab.all (fun q => decide (¬ q.1 = r))) = true) : SW (X.1, upd2 X.2 r i x) := by
  refine ⟨h.1, h.2.1, fun k q hk => ?_⟩
  have := List.all_eq_true.mp hr q (List.mem_of_getElem? hk)
  have hne : ¬ q.1 = r := by simpa using this
  simp only [upd2, hne, false_and, if_false]
  exact h.2.2 k q hk
theorem SW.refd {X : XX} {r i x : Int} (h : SW X) (hr : 87 ≤ r) : SW (X.1, upd2 X.2 r i x) := by
  refine ⟨h.1, h.2.1, fun k q hk => ?_⟩
  have hl : ∀ q ∈ rtab, q.1 < 87 := by decide +kernel
  have hq := hl q (List.mem_of_getElem? hk)
  have hne : ¬ q.1 = r := by omega
  simp only [upd2, hne, false_and, if_false]
  exact h.2.2 k q hk
theorem SW.ref37 {X : XX} (h : SW X) (i x : Int) : SW (X.1, upd2 X.2 37 i x) := h.ref (by decide +kernel)
theorem SW.ref40 {X : XX} (h : SW X) (i x : Int) : SW (X.1, upd2 X.2 40 i x) := h.ref (by decide +kernel)
theorem nX_sh {X : XX} {r : Int} {c : Nat × Nat} {ki len : Nat} (h : X.1.2 r = c) (hr : 0 ≤ r ∧ r < X.1.1) : (nX X ki len).1.2 r = c := by
  have : ¬ r = (X.1.1 : Int) := by omega
  simp only [nX, this, if_false]
  exact h
theorem nX_lt {X : XX} {r : Int} {ki len : Nat} (hr : 0 ≤ r ∧ r < X.1.1) : 0 ≤ r ∧ r < (nX X ki len).1.1 := ⟨hr.1, by show r < ((X.1.1 + 1 : Nat) : Int); omega⟩
theorem nX_me (X : XX) (ki len : Nat) : (nX X ki len).1.2 (X.1.1 : Int) = (ki, len) := by simp [nX]
theorem nX_in (X : XX) (ki len : Nat) : 0 ≤ (X.1.1 : Int) ∧ (X.1.1 : Int) < (nX X ki len).1.1 := ⟨by omega, by show (X.1.1 : Int) < ((X.1.1 + 1 : Nat) : Int); omega⟩
theorem i32_of {x : Int} (h : (decide (-2147483648 ≤ x) && decide (x < 2147483648)) = true) : i32 x := by
  simp only [Bool.and_eq_true, decide_eq_true_eq] at h; exact h
theorem i64_of {x : Int} (h : (decide (-9223372036854775808 ≤ x) && decide (x < 9223372036854775808)) = true) : i64 x := by
  simp only [Bool.and_eq_true, decide_eq_true_eq] at h; exact h
theorem tag1 {a : AV} (h : (a.1 == 1) = false) : ¬ a.1 = 1 := by simpa using h
theorem tagn2 {t : Nat} (h : (t == 2) = false) : ¬ t = 2 := by simpa using h
theorem i32_ex (w : Int32) : ∃ z : Int, w = Int32.ofInt z ∧ i32 z := ⟨w.toInt, (Int32.ofInt_toInt w).symm, Int32.le_toInt w, Int32.toInt_lt w⟩
theorem idiv_ne {y : Int} (h : i32 y) (hp : 0 < y) : ¬ Int32.ofInt y = 0 := fun q => by
  have := (i32_eq h i32_0).mp q
  omega
theorem idiv_ok {x y : Int} (hx : i32 x) (hy : i32 y) (h0 : 0 ≤ x) (hp : 0 < y) : i32 (x / y) := by
  have h1 : 0 ≤ x / y := Int.ediv_nonneg h0 (by omega)
  have h2 : x / y ≤ x := Int.ediv_le_self y h0
  have := hx.2
  exact ⟨by omega, by omega⟩
theorem idiv_nn {x y : Int} (hx : i32 x) (hy : i32 y) (h0 : 0 ≤ x) (hp : 0 < y) : Int32.ofInt x / Int32.ofInt y = Int32.ofInt (x / y) := by
  rw [← Int32.toInt_inj, Int32.toInt_div, i32_toInt hx, i32_toInt hy, i32_toInt (idiv_ok hx hy h0 hp), Int.tdiv_eq_ediv_of_nonneg h0]
  have h1 : 0 ≤ x / y := Int.ediv_nonneg h0 (by omega)
  have h2 : x / y ≤ x := Int.ediv_le_self y h0
  have := hx.2
  exact Int.bmod_eq_of_le (by omega) (by omega)
theorem irem_ne {y : Int} (h : i32 y) (hp : 0 < y) : ¬ Int32.ofInt y = 0 := idiv_ne h hp
theorem irem_ok {x y : Int} (hx : i32 x) (hy : i32 y) (h0 : 0 ≤ x) (hp : 0 < y) : i32 (x % y) := by
  have h1 : 0 ≤ x % y := Int.emod_nonneg x (by omega)
  have h2 : x % y < y := Int.emod_lt_of_pos x hp
  have := hy.2
  exact ⟨by omega, by omega⟩
theorem irem_nn {x y : Int} (hx : i32 x) (hy : i32 y) (h0 : 0 ≤ x) (hp : 0 < y) : Int32.ofInt x - Int32.ofInt x / Int32.ofInt y * Int32.ofInt y = Int32.ofInt (x % y) := by
  rw [idiv_nn hx hy h0 hp, ← Int32.ofInt_mul, ← Int32.ofInt_sub]
  congr 1
  rw [Int.emod_def, Int.mul_comm]
/-- fewer known locals -/
def lessB : List AV → List AV → Bool
  | [], [] => true
  | _ :: t, b :: u => (b.1 == 3) && lessB t u
  | _, _ => false
def lessL : List AV → List AV → Prop
  | [], [] => True
  | a :: t, b :: u => (b.1 = 3 ∨ b = a) ∧ lessL t u
  | _, _ => False
theorem lessL_len : ∀ (l m : List AV), lessL l m → l.length = m.length
  | [], [], _ => rfl
  | _ :: t, _ :: u, h => by simp [lessL_len t u h.2]
  | [], _ :: _, h => h.elim
  | _ :: _, [], h => h.elim
theorem lessL_get : ∀ (l m : List AV), lessL l m → ∀ (i : Nat) (a : AV), m[i]? = some a → a.1 = 3 ∨ l[i]? = some a
  | [], [], _, i, a, h => by simp at h
  | b :: t, c :: u, h, 0, a, ha => by
    simp at ha
    subst ha
    rcases h.1 with h1 | h1
    · exact Or.inl h1
    · right; simp [h1]
  | b :: t, c :: u, h, i + 1, a, ha => by
    simp only [List.getElem?_cons_succ] at ha ⊢
    exact lessL_get t u h.2 i a ha
  | [], _ :: _, h, _, _, _ => h.elim
  | _ :: _, [], h, _, _, _ => h.elim
theorem okv_3 {a : AV} (h : a.1 = 3) : okv a := ⟨fun q => by omega, fun q => by omega⟩
theorem x_less {M : MM} {d pc : Nat} {ls : List AV} {X : XX} {v : VV} {mc ms : Nat} {Q : QQ} {rest : List AV} (ls2 : List AV) (h : lessL ls ls2) (k : Ex M d pc ls2 rest X v mc ms Q) : Ex M d pc ls rest X v mc ms Q := by
  intro G p l e R s m args below meth c Z hX hR H locs cells slots cls hH hS hL hO hc hs
  refine k G p l e R s m args below meth c Z hX hR H locs cells slots cls hH hS ⟨hL.1, hL.2.1, by rw [← lessL_len ls ls2 h]; exact hL.2.2.1, fun i a ha h3 => ?_, fun a ha => ?_⟩ hO hc hs
  · rcases lessL_get ls ls2 h i a ha with h1 | h1
    · omega
    · exact hL.2.2.2.1 i a h1 h3
  · obtain ⟨i, hi⟩ := List.getElem?_of_mem ha
    rcases lessL_get ls ls2 h i a hi with h1 | h1
    · exact okv_3 h1
    · exact hL.2.2.2.2 a (List.mem_of_getElem? h1)

theorem kb_m2 : (Int8.ofInt (-2)).toInt32 = Int32.ofInt (-2) := by decide +kernel
theorem kb_6 : (Int8.ofInt (6)).toInt32 = Int32.ofInt (6) := by decide +kernel
theorem kb_7 : (Int8.ofInt (7)).toInt32 = Int32.ofInt (7) := by decide +kernel
theorem kb_8 : (Int8.ofInt (8)).toInt32 = Int32.ofInt (8) := by decide +kernel
theorem kb_9 : (Int8.ofInt (9)).toInt32 = Int32.ofInt (9) := by decide +kernel
theorem kb_10 : (Int8.ofInt (10)).toInt32 = Int32.ofInt (10) := by decide +kernel
theorem kb_12 : (Int8.ofInt (12)).toInt32 = Int32.ofInt (12) := by decide +kernel
theorem kb_15 : (Int8.ofInt (15)).toInt32 = Int32.ofInt (15) := by decide +kernel
theorem kb_16 : (Int8.ofInt (16)).toInt32 = Int32.ofInt (16) := by decide +kernel
theorem kb_20 : (Int8.ofInt (20)).toInt32 = Int32.ofInt (20) := by decide +kernel
theorem kb_24 : (Int8.ofInt (24)).toInt32 = Int32.ofInt (24) := by decide +kernel
theorem kb_32 : (Int8.ofInt (32)).toInt32 = Int32.ofInt (32) := by decide +kernel
theorem kb_38 : (Int8.ofInt (38)).toInt32 = Int32.ofInt (38) := by decide +kernel
theorem kb_39 : (Int8.ofInt (39)).toInt32 = Int32.ofInt (39) := by decide +kernel
theorem kb_40 : (Int8.ofInt (40)).toInt32 = Int32.ofInt (40) := by decide +kernel
theorem kb_41 : (Int8.ofInt (41)).toInt32 = Int32.ofInt (41) := by decide +kernel
theorem kb_43 : (Int8.ofInt (43)).toInt32 = Int32.ofInt (43) := by decide +kernel
theorem kb_44 : (Int8.ofInt (44)).toInt32 = Int32.ofInt (44) := by decide +kernel
theorem kb_45 : (Int8.ofInt (45)).toInt32 = Int32.ofInt (45) := by decide +kernel
theorem kb_46 : (Int8.ofInt (46)).toInt32 = Int32.ofInt (46) := by decide +kernel
theorem kb_48 : (Int8.ofInt (48)).toInt32 = Int32.ofInt (48) := by decide +kernel
theorem kb_57 : (Int8.ofInt (57)).toInt32 = Int32.ofInt (57) := by decide +kernel
theorem kb_58 : (Int8.ofInt (58)).toInt32 = Int32.ofInt (58) := by decide +kernel
theorem kb_59 : (Int8.ofInt (59)).toInt32 = Int32.ofInt (59) := by decide +kernel
theorem kb_60 : (Int8.ofInt (60)).toInt32 = Int32.ofInt (60) := by decide +kernel
theorem kb_61 : (Int8.ofInt (61)).toInt32 = Int32.ofInt (61) := by decide +kernel
theorem kb_97 : (Int8.ofInt (97)).toInt32 = Int32.ofInt (97) := by decide +kernel
theorem kb_100 : (Int8.ofInt (100)).toInt32 = Int32.ofInt (100) := by decide +kernel
theorem kb_110 : (Int8.ofInt (110)).toInt32 = Int32.ofInt (110) := by decide +kernel
theorem kb_116 : (Int8.ofInt (116)).toInt32 = Int32.ofInt (116) := by decide +kernel
theorem kb_122 : (Int8.ofInt (122)).toInt32 = Int32.ofInt (122) := by decide +kernel
theorem ks_128 : (Int16.ofInt (128)).toInt32 = Int32.ofInt (128) := by decide +kernel
theorem ks_136 : (Int16.ofInt (136)).toInt32 = Int32.ofInt (136) := by decide +kernel
theorem ks_255 : (Int16.ofInt (255)).toInt32 = Int32.ofInt (255) := by decide +kernel
theorem ks_256 : (Int16.ofInt (256)).toInt32 = Int32.ofInt (256) := by decide +kernel
theorem ks_257 : (Int16.ofInt (257)).toInt32 = Int32.ofInt (257) := by decide +kernel
theorem ks_258 : (Int16.ofInt (258)).toInt32 = Int32.ofInt (258) := by decide +kernel
theorem ks_259 : (Int16.ofInt (259)).toInt32 = Int32.ofInt (259) := by decide +kernel
theorem ks_260 : (Int16.ofInt (260)).toInt32 = Int32.ofInt (260) := by decide +kernel
theorem ks_261 : (Int16.ofInt (261)).toInt32 = Int32.ofInt (261) := by decide +kernel
theorem ks_262 : (Int16.ofInt (262)).toInt32 = Int32.ofInt (262) := by decide +kernel
theorem ks_263 : (Int16.ofInt (263)).toInt32 = Int32.ofInt (263) := by decide +kernel
theorem ks_264 : (Int16.ofInt (264)).toInt32 = Int32.ofInt (264) := by decide +kernel
theorem ks_265 : (Int16.ofInt (265)).toInt32 = Int32.ofInt (265) := by decide +kernel
theorem ks_266 : (Int16.ofInt (266)).toInt32 = Int32.ofInt (266) := by decide +kernel
theorem ks_267 : (Int16.ofInt (267)).toInt32 = Int32.ofInt (267) := by decide +kernel
theorem ks_400 : (Int16.ofInt (400)).toInt32 = Int32.ofInt (400) := by decide +kernel
theorem ks_1000 : (Int16.ofInt (1000)).toInt32 = Int32.ofInt (1000) := by decide +kernel
theorem ks_2000 : (Int16.ofInt (2000)).toInt32 = Int32.ofInt (2000) := by decide +kernel
theorem ks_30000 : (Int16.ofInt (30000)).toInt32 = Int32.ofInt (30000) := by decide +kernel
