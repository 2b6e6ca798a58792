def kMl : List Nat := [12, 21, 20, 20, 20, 20, 20, 22, 23, 23, 23, 23, 23, 23, 20, 20, 20, 20, 20, 22, 20, 20, 20, 20, 20, 20, 20, 20, 22, 22, 22, 22, 20, 20, 20, 20, 20, 22, 20, 20, 20, 20, 20, 20, 20, 20, 20, 20, 20, 20, 20, 20, 20, 20, 20, 20, 20, 20, 20, 20, 20]
def lMl : List Nat := [0, 900, 52, 8, 8, 8, 8, 8, 4, 8, 8, 4, 8, 8, 52, 8, 8, 8, 8, 8, 4, 4, 4, 4, 4, 4, 4, 4, 4, 4, 4, 4, 32, 32, 32, 32, 16, 32, 3, 3, 3, 3, 3, 4320, 6, 4, 4, 4, 8, 8, 32, 46080, 5760, 5760, 16384, 8, 8, 8, 8, 8, 8]
def rMl : List Nat := [1, 0, 0, 0, 0, 0, 0, 0, 0, 0, 0, 0, 0, 0, 0, 0, 0, 0, 0, 0, 2, 3, 4, 5, 6, 7, 0, 0, 0, 0, 0, 0, 0, 0, 0, 0, 0, 8, 9, 10, 11, 12, 13, 14, 15, 16, 17, 18, 19, 0, 0, 20, 21, 22, 23, 24, 25, 26, 27, 28, 29, 30, 31, 32, 33, 34, 35, 36, 37, 0, 38, 39, 40, 41, 42, 0, 43, 44, 0, 0, 0, 0, 0, 0, 0, 45, 46, 47, 0, 0, 48, 49, 50, 51, 52, 53, 54, 0, 0, 0, 55, 56, 57, 58, 59, 60]
def SM : Shp := (61, fun i => kMl.getD i 0, fun _ i => lMl.getD i 0, fun _ k => rMl.getD k 0)
def kCl : List Nat := [11, 10, 21, 2, 24, 25, 20, 20, 7, 20, 20, 20, 26, 20, 20, 20, 5, 20, 20, 20, 20, 20, 9, 20, 20, 20, 20, 20, 3, 20, 20, 0, 4, 23, 4, 23, 4, 23, 20, 20, 20, 20, 20, 20, 0, 4, 23, 4, 23, 4, 23, 20, 20, 20, 20, 20, 20, 6, 20, 20, 20, 20, 20, 6, 20, 20, 20, 20, 20, 6, 20, 20, 20, 20, 20, 6, 20, 20, 20, 20, 20, 1, 1, 1, 8, 20, 20, 8, 20, 20, 8, 20, 20, 8, 20, 20]
def lCl : List Nat := [0, 0, 900, 0, 4, 3, 720, 6, 0, 8, 8, 8, 4, 8, 32, 32, 0, 5760, 0, 0, 0, 256, 0, 8, 8, 8, 8, 8, 0, 8, 8, 0, 0, 4, 0, 8, 0, 8, 52, 8, 8, 8, 8, 8, 0, 0, 4, 0, 8, 0, 8, 52, 8, 8, 8, 8, 8, 0, 8, 8, 8, 8, 8, 0, 8, 8, 8, 8, 8, 0, 8, 8, 8, 8, 8, 0, 8, 8, 8, 8, 8, 0, 0, 0, 0, 4, 3, 0, 4, 3, 0, 4, 3, 0, 4, 3]
def rCl : List (List Nat) := [[1, 3, 8, 16, 22, 28, 30], [2], [], [31, 4, 5, 0, 0, 0, 0, 44, 6, 7], [], [], [], [], [9, 10, 11, 3, 12, 13, 14, 15], [], [], [], [], [], [], [], [17, 0, 3, 8, 0, 18, 19, 20, 21], [], [], [], [], [], [0, 0, 0, 0, 3, 16, 23, 24, 25, 26, 27], [], [], [], [], [], [3, 8, 29], [], [], [32, 34, 36, 38, 39, 40, 41, 42, 43], [33], [], [35], [], [37], [], [], [], [], [], [], [], [45, 47, 49, 51, 52, 53, 54, 55, 56], [46], [], [48], [], [50], [], [], [], [], [], [], [], [0, 0, 0, 0, 0, 0, 0, 0, 0, 58, 59, 60, 61, 62], [], [], [], [], [], [0, 0, 0, 0, 0, 0, 0, 0, 0, 64, 65, 66, 67, 68], [], [], [], [], [], [0, 0, 0, 0, 0, 0, 0, 0, 0, 70, 71, 72, 73, 74], [], [], [], [], [], [0, 0, 0, 0, 0, 0, 0, 0, 0, 76, 77, 78, 79, 80], [], [], [], [], [], [], [], [], [85, 0, 3, 86], [], [], [88, 0, 3, 89], [], [], [91, 0, 3, 92], [], [], [94, 0, 3, 95], [], []]
def SC : Shp := (96, fun i => kCl.getD i 0, fun c i => if i = 18 then 8 * c else if i = 19 then c else if i = 20 then c else lCl.getD i 0, fun i k => if i = 4 then 57 + 6 * k else if i = 5 then 81 + k else if i = 12 then 84 + 3 * k else (rCl.getD i []).getD k 0)
theorem obM_0 : OB SM 0 12 := ⟨by decide, rfl⟩
theorem arM_1 (c : Nat) : AR SM c 1 21 900 := ⟨by decide, rfl, rfl⟩
theorem arM_2 (c : Nat) : AR SM c 2 20 52 := ⟨by decide, rfl, rfl⟩
theorem arM_3 (c : Nat) : AR SM c 3 20 8 := ⟨by decide, rfl, rfl⟩
theorem arM_4 (c : Nat) : AR SM c 4 20 8 := ⟨by decide, rfl, rfl⟩
theorem arM_5 (c : Nat) : AR SM c 5 20 8 := ⟨by decide, rfl, rfl⟩
theorem arM_6 (c : Nat) : AR SM c 6 20 8 := ⟨by decide, rfl, rfl⟩
theorem arM_7 (c : Nat) : AR SM c 7 22 8 := ⟨by decide, rfl, rfl⟩
theorem arM_8 (c : Nat) : AR SM c 8 23 4 := ⟨by decide, rfl, rfl⟩
theorem arM_9 (c : Nat) : AR SM c 9 23 8 := ⟨by decide, rfl, rfl⟩
theorem arM_10 (c : Nat) : AR SM c 10 23 8 := ⟨by decide, rfl, rfl⟩
theorem arM_11 (c : Nat) : AR SM c 11 23 4 := ⟨by decide, rfl, rfl⟩
theorem arM_12 (c : Nat) : AR SM c 12 23 8 := ⟨by decide, rfl, rfl⟩
theorem arM_13 (c : Nat) : AR SM c 13 23 8 := ⟨by decide, rfl, rfl⟩
theorem arM_14 (c : Nat) : AR SM c 14 20 52 := ⟨by decide, rfl, rfl⟩
theorem arM_15 (c : Nat) : AR SM c 15 20 8 := ⟨by decide, rfl, rfl⟩
theorem arM_16 (c : Nat) : AR SM c 16 20 8 := ⟨by decide, rfl, rfl⟩
theorem arM_17 (c : Nat) : AR SM c 17 20 8 := ⟨by decide, rfl, rfl⟩
theorem arM_18 (c : Nat) : AR SM c 18 20 8 := ⟨by decide, rfl, rfl⟩
theorem arM_19 (c : Nat) : AR SM c 19 22 8 := ⟨by decide, rfl, rfl⟩
theorem arM_20 (c : Nat) : AR SM c 20 20 4 := ⟨by decide, rfl, rfl⟩
theorem arM_21 (c : Nat) : AR SM c 21 20 4 := ⟨by decide, rfl, rfl⟩
theorem arM_22 (c : Nat) : AR SM c 22 20 4 := ⟨by decide, rfl, rfl⟩
theorem arM_23 (c : Nat) : AR SM c 23 20 4 := ⟨by decide, rfl, rfl⟩
theorem arM_24 (c : Nat) : AR SM c 24 20 4 := ⟨by decide, rfl, rfl⟩
theorem arM_25 (c : Nat) : AR SM c 25 20 4 := ⟨by decide, rfl, rfl⟩
theorem arM_26 (c : Nat) : AR SM c 26 20 4 := ⟨by decide, rfl, rfl⟩
theorem arM_27 (c : Nat) : AR SM c 27 20 4 := ⟨by decide, rfl, rfl⟩
theorem arM_28 (c : Nat) : AR SM c 28 22 4 := ⟨by decide, rfl, rfl⟩
theorem arM_29 (c : Nat) : AR SM c 29 22 4 := ⟨by decide, rfl, rfl⟩
theorem arM_30 (c : Nat) : AR SM c 30 22 4 := ⟨by decide, rfl, rfl⟩
theorem arM_31 (c : Nat) : AR SM c 31 22 4 := ⟨by decide, rfl, rfl⟩
theorem arM_32 (c : Nat) : AR SM c 32 20 32 := ⟨by decide, rfl, rfl⟩
theorem arM_33 (c : Nat) : AR SM c 33 20 32 := ⟨by decide, rfl, rfl⟩
theorem arM_34 (c : Nat) : AR SM c 34 20 32 := ⟨by decide, rfl, rfl⟩
theorem arM_35 (c : Nat) : AR SM c 35 20 32 := ⟨by decide, rfl, rfl⟩
theorem arM_36 (c : Nat) : AR SM c 36 20 16 := ⟨by decide, rfl, rfl⟩
theorem arM_37 (c : Nat) : AR SM c 37 22 32 := ⟨by decide, rfl, rfl⟩
theorem arM_38 (c : Nat) : AR SM c 38 20 3 := ⟨by decide, rfl, rfl⟩
theorem arM_39 (c : Nat) : AR SM c 39 20 3 := ⟨by decide, rfl, rfl⟩
theorem arM_40 (c : Nat) : AR SM c 40 20 3 := ⟨by decide, rfl, rfl⟩
theorem arM_41 (c : Nat) : AR SM c 41 20 3 := ⟨by decide, rfl, rfl⟩
theorem arM_42 (c : Nat) : AR SM c 42 20 3 := ⟨by decide, rfl, rfl⟩
theorem arM_43 (c : Nat) : AR SM c 43 20 4320 := ⟨by decide, rfl, rfl⟩
theorem arM_44 (c : Nat) : AR SM c 44 20 6 := ⟨by decide, rfl, rfl⟩
theorem arM_45 (c : Nat) : AR SM c 45 20 4 := ⟨by decide, rfl, rfl⟩
theorem arM_46 (c : Nat) : AR SM c 46 20 4 := ⟨by decide, rfl, rfl⟩
theorem arM_47 (c : Nat) : AR SM c 47 20 4 := ⟨by decide, rfl, rfl⟩
theorem arM_48 (c : Nat) : AR SM c 48 20 8 := ⟨by decide, rfl, rfl⟩
theorem arM_49 (c : Nat) : AR SM c 49 20 8 := ⟨by decide, rfl, rfl⟩
theorem arM_50 (c : Nat) : AR SM c 50 20 32 := ⟨by decide, rfl, rfl⟩
theorem arM_51 (c : Nat) : AR SM c 51 20 46080 := ⟨by decide, rfl, rfl⟩
theorem arM_52 (c : Nat) : AR SM c 52 20 5760 := ⟨by decide, rfl, rfl⟩
theorem arM_53 (c : Nat) : AR SM c 53 20 5760 := ⟨by decide, rfl, rfl⟩
theorem arM_54 (c : Nat) : AR SM c 54 20 16384 := ⟨by decide, rfl, rfl⟩
theorem arM_55 (c : Nat) : AR SM c 55 20 8 := ⟨by decide, rfl, rfl⟩
theorem arM_56 (c : Nat) : AR SM c 56 20 8 := ⟨by decide, rfl, rfl⟩
theorem arM_57 (c : Nat) : AR SM c 57 20 8 := ⟨by decide, rfl, rfl⟩
theorem arM_58 (c : Nat) : AR SM c 58 20 8 := ⟨by decide, rfl, rfl⟩
theorem arM_59 (c : Nat) : AR SM c 59 20 8 := ⟨by decide, rfl, rfl⟩
theorem arM_60 (c : Nat) : AR SM c 60 20 8 := ⟨by decide, rfl, rfl⟩
theorem obC_0 : OB SC 0 11 := ⟨by decide, rfl⟩
theorem obC_1 : OB SC 1 10 := ⟨by decide, rfl⟩
theorem arC_2 (c : Nat) : AR SC c 2 21 900 := ⟨by decide, rfl, rfl⟩
theorem obC_3 : OB SC 3 2 := ⟨by decide, rfl⟩
theorem arC_4 (c : Nat) : AR SC c 4 24 4 := ⟨by decide, rfl, rfl⟩
theorem arC_5 (c : Nat) : AR SC c 5 25 3 := ⟨by decide, rfl, rfl⟩
theorem arC_6 (c : Nat) : AR SC c 6 20 720 := ⟨by decide, rfl, rfl⟩
theorem arC_7 (c : Nat) : AR SC c 7 20 6 := ⟨by decide, rfl, rfl⟩
theorem obC_8 : OB SC 8 7 := ⟨by decide, rfl⟩
theorem arC_9 (c : Nat) : AR SC c 9 20 8 := ⟨by decide, rfl, rfl⟩
theorem arC_10 (c : Nat) : AR SC c 10 20 8 := ⟨by decide, rfl, rfl⟩
theorem arC_11 (c : Nat) : AR SC c 11 20 8 := ⟨by decide, rfl, rfl⟩
theorem arC_12 (c : Nat) : AR SC c 12 26 4 := ⟨by decide, rfl, rfl⟩
theorem arC_13 (c : Nat) : AR SC c 13 20 8 := ⟨by decide, rfl, rfl⟩
theorem arC_14 (c : Nat) : AR SC c 14 20 32 := ⟨by decide, rfl, rfl⟩
theorem arC_15 (c : Nat) : AR SC c 15 20 32 := ⟨by decide, rfl, rfl⟩
theorem obC_16 : OB SC 16 5 := ⟨by decide, rfl⟩
theorem arC_17 (c : Nat) : AR SC c 17 20 5760 := ⟨by decide, rfl, rfl⟩
theorem arC_18 (c : Nat) : AR SC c 18 20 (8 * c) := ⟨by decide, rfl, rfl⟩
theorem arC_19 (c : Nat) : AR SC c 19 20 c := ⟨by decide, rfl, rfl⟩
theorem arC_20 (c : Nat) : AR SC c 20 20 c := ⟨by decide, rfl, rfl⟩
theorem arC_21 (c : Nat) : AR SC c 21 20 256 := ⟨by decide, rfl, rfl⟩
theorem obC_22 : OB SC 22 9 := ⟨by decide, rfl⟩
theorem arC_23 (c : Nat) : AR SC c 23 20 8 := ⟨by decide, rfl, rfl⟩
theorem arC_24 (c : Nat) : AR SC c 24 20 8 := ⟨by decide, rfl, rfl⟩
theorem arC_25 (c : Nat) : AR SC c 25 20 8 := ⟨by decide, rfl, rfl⟩
theorem arC_26 (c : Nat) : AR SC c 26 20 8 := ⟨by decide, rfl, rfl⟩
theorem arC_27 (c : Nat) : AR SC c 27 20 8 := ⟨by decide, rfl, rfl⟩
theorem obC_28 : OB SC 28 3 := ⟨by decide, rfl⟩
theorem arC_29 (c : Nat) : AR SC c 29 20 8 := ⟨by decide, rfl, rfl⟩
theorem arC_30 (c : Nat) : AR SC c 30 20 8 := ⟨by decide, rfl, rfl⟩
theorem obC_31 : OB SC 31 0 := ⟨by decide, rfl⟩
theorem obC_32 : OB SC 32 4 := ⟨by decide, rfl⟩
theorem arC_33 (c : Nat) : AR SC c 33 23 4 := ⟨by decide, rfl, rfl⟩
theorem obC_34 : OB SC 34 4 := ⟨by decide, rfl⟩
theorem arC_35 (c : Nat) : AR SC c 35 23 8 := ⟨by decide, rfl, rfl⟩
theorem obC_36 : OB SC 36 4 := ⟨by decide, rfl⟩
theorem arC_37 (c : Nat) : AR SC c 37 23 8 := ⟨by decide, rfl, rfl⟩
theorem arC_38 (c : Nat) : AR SC c 38 20 52 := ⟨by decide, rfl, rfl⟩
theorem arC_39 (c : Nat) : AR SC c 39 20 8 := ⟨by decide, rfl, rfl⟩
theorem arC_40 (c : Nat) : AR SC c 40 20 8 := ⟨by decide, rfl, rfl⟩
theorem arC_41 (c : Nat) : AR SC c 41 20 8 := ⟨by decide, rfl, rfl⟩
theorem arC_42 (c : Nat) : AR SC c 42 20 8 := ⟨by decide, rfl, rfl⟩
theorem arC_43 (c : Nat) : AR SC c 43 20 8 := ⟨by decide, rfl, rfl⟩
theorem obC_44 : OB SC 44 0 := ⟨by decide, rfl⟩
theorem obC_45 : OB SC 45 4 := ⟨by decide, rfl⟩
theorem arC_46 (c : Nat) : AR SC c 46 23 4 := ⟨by decide, rfl, rfl⟩
theorem obC_47 : OB SC 47 4 := ⟨by decide, rfl⟩
theorem arC_48 (c : Nat) : AR SC c 48 23 8 := ⟨by decide, rfl, rfl⟩
theorem obC_49 : OB SC 49 4 := ⟨by decide, rfl⟩
theorem arC_50 (c : Nat) : AR SC c 50 23 8 := ⟨by decide, rfl, rfl⟩
theorem arC_51 (c : Nat) : AR SC c 51 20 52 := ⟨by decide, rfl, rfl⟩
theorem arC_52 (c : Nat) : AR SC c 52 20 8 := ⟨by decide, rfl, rfl⟩
theorem arC_53 (c : Nat) : AR SC c 53 20 8 := ⟨by decide, rfl, rfl⟩
theorem arC_54 (c : Nat) : AR SC c 54 20 8 := ⟨by decide, rfl, rfl⟩
theorem arC_55 (c : Nat) : AR SC c 55 20 8 := ⟨by decide, rfl, rfl⟩
theorem arC_56 (c : Nat) : AR SC c 56 20 8 := ⟨by decide, rfl, rfl⟩
theorem obC_57 : OB SC 57 6 := ⟨by decide, rfl⟩
theorem arC_58 (c : Nat) : AR SC c 58 20 8 := ⟨by decide, rfl, rfl⟩
theorem arC_59 (c : Nat) : AR SC c 59 20 8 := ⟨by decide, rfl, rfl⟩
theorem arC_60 (c : Nat) : AR SC c 60 20 8 := ⟨by decide, rfl, rfl⟩
theorem arC_61 (c : Nat) : AR SC c 61 20 8 := ⟨by decide, rfl, rfl⟩
theorem arC_62 (c : Nat) : AR SC c 62 20 8 := ⟨by decide, rfl, rfl⟩
theorem obC_63 : OB SC 63 6 := ⟨by decide, rfl⟩
theorem arC_64 (c : Nat) : AR SC c 64 20 8 := ⟨by decide, rfl, rfl⟩
theorem arC_65 (c : Nat) : AR SC c 65 20 8 := ⟨by decide, rfl, rfl⟩
theorem arC_66 (c : Nat) : AR SC c 66 20 8 := ⟨by decide, rfl, rfl⟩
theorem arC_67 (c : Nat) : AR SC c 67 20 8 := ⟨by decide, rfl, rfl⟩
theorem arC_68 (c : Nat) : AR SC c 68 20 8 := ⟨by decide, rfl, rfl⟩
theorem obC_69 : OB SC 69 6 := ⟨by decide, rfl⟩
theorem arC_70 (c : Nat) : AR SC c 70 20 8 := ⟨by decide, rfl, rfl⟩
theorem arC_71 (c : Nat) : AR SC c 71 20 8 := ⟨by decide, rfl, rfl⟩
theorem arC_72 (c : Nat) : AR SC c 72 20 8 := ⟨by decide, rfl, rfl⟩
theorem arC_73 (c : Nat) : AR SC c 73 20 8 := ⟨by decide, rfl, rfl⟩
theorem arC_74 (c : Nat) : AR SC c 74 20 8 := ⟨by decide, rfl, rfl⟩
theorem obC_75 : OB SC 75 6 := ⟨by decide, rfl⟩
theorem arC_76 (c : Nat) : AR SC c 76 20 8 := ⟨by decide, rfl, rfl⟩
theorem arC_77 (c : Nat) : AR SC c 77 20 8 := ⟨by decide, rfl, rfl⟩
theorem arC_78 (c : Nat) : AR SC c 78 20 8 := ⟨by decide, rfl, rfl⟩
theorem arC_79 (c : Nat) : AR SC c 79 20 8 := ⟨by decide, rfl, rfl⟩
theorem arC_80 (c : Nat) : AR SC c 80 20 8 := ⟨by decide, rfl, rfl⟩
theorem obC_81 : OB SC 81 1 := ⟨by decide, rfl⟩
theorem obC_82 : OB SC 82 1 := ⟨by decide, rfl⟩
theorem obC_83 : OB SC 83 1 := ⟨by decide, rfl⟩
theorem obC_84 : OB SC 84 8 := ⟨by decide, rfl⟩
theorem arC_85 (c : Nat) : AR SC c 85 20 4 := ⟨by decide, rfl, rfl⟩
theorem arC_86 (c : Nat) : AR SC c 86 20 3 := ⟨by decide, rfl, rfl⟩
theorem obC_87 : OB SC 87 8 := ⟨by decide, rfl⟩
theorem arC_88 (c : Nat) : AR SC c 88 20 4 := ⟨by decide, rfl, rfl⟩
theorem arC_89 (c : Nat) : AR SC c 89 20 3 := ⟨by decide, rfl, rfl⟩
theorem obC_90 : OB SC 90 8 := ⟨by decide, rfl⟩
theorem arC_91 (c : Nat) : AR SC c 91 20 4 := ⟨by decide, rfl, rfl⟩
theorem arC_92 (c : Nat) : AR SC c 92 20 3 := ⟨by decide, rfl, rfl⟩
theorem obC_93 : OB SC 93 8 := ⟨by decide, rfl⟩
theorem arC_94 (c : Nat) : AR SC c 94 20 4 := ⟨by decide, rfl, rfl⟩
theorem arC_95 (c : Nat) : AR SC c 95 20 3 := ⟨by decide, rfl, rfl⟩
def IsP (o : Nat) : Prop := o = 57 ∨ o = 63 ∨ o = 69 ∨ o = 75
def IsV (o : Nat) : Prop := o = 81 ∨ o = 82 ∨ o = 83
def IsS (o : Nat) : Prop := o = 84 ∨ o = 87 ∨ o = 90 ∨ o = 93
def IsE (o : Nat) : Prop := o = 31 ∨ o = 44
def IsN (o n : Nat) : Prop := (o = 32 ∧ n = 4) ∨ (o = 34 ∧ n = 8) ∨ (o = 36 ∧ n = 8) ∨ (o = 45 ∧ n = 4) ∨ (o = 47 ∧ n = 8) ∨ (o = 49 ∧ n = 8)
theorem obP {o : Nat} (h : IsP o) : OB SC o 6 := by rcases h with rfl | rfl | rfl | rfl <;> exact ⟨by decide, rfl⟩
theorem obV {o : Nat} (h : IsV o) : OB SC o 1 := by rcases h with rfl | rfl | rfl <;> exact ⟨by decide, rfl⟩
theorem obS {o : Nat} (h : IsS o) : OB SC o 8 := by rcases h with rfl | rfl | rfl | rfl <;> exact ⟨by decide, rfl⟩
theorem obE {o : Nat} (h : IsE o) : OB SC o 0 := by rcases h with rfl | rfl <;> exact ⟨by decide, rfl⟩
theorem obN {o n : Nat} (h : IsN o n) : OB SC o 4 := by rcases h with ⟨rfl, rfl⟩ | ⟨rfl, rfl⟩ | ⟨rfl, rfl⟩ | ⟨rfl, rfl⟩ | ⟨rfl, rfl⟩ | ⟨rfl, rfl⟩ <;> exact ⟨by decide, rfl⟩
theorem arN {o n : Nat} (h : IsN o n) (c : Nat) : AR SC c (o + 1) 23 n := by rcases h with ⟨rfl, rfl⟩ | ⟨rfl, rfl⟩ | ⟨rfl, rfl⟩ | ⟨rfl, rfl⟩ | ⟨rfl, rfl⟩ | ⟨rfl, rfl⟩ <;> exact ⟨by decide, rfl, rfl⟩
theorem rfN {o n : Nat} (h : IsN o n) : SC.2.2.2 o 0 = o + 1 := by rcases h with ⟨rfl, rfl⟩ | ⟨rfl, rfl⟩ | ⟨rfl, rfl⟩ | ⟨rfl, rfl⟩ | ⟨rfl, rfl⟩ | ⟨rfl, rfl⟩ <;> rfl
theorem arP1 {o : Nat} (h : IsP o) (c : Nat) : AR SC c (o + 1) 20 8 := by rcases h with rfl | rfl | rfl | rfl <;> exact ⟨by decide, rfl, rfl⟩
theorem rfP9 {o : Nat} (h : IsP o) : SC.2.2.2 o 9 = o + 1 := by rcases h with rfl | rfl | rfl | rfl <;> rfl
theorem arP2 {o : Nat} (h : IsP o) (c : Nat) : AR SC c (o + 2) 20 8 := by rcases h with rfl | rfl | rfl | rfl <;> exact ⟨by decide, rfl, rfl⟩
theorem rfP10 {o : Nat} (h : IsP o) : SC.2.2.2 o 10 = o + 2 := by rcases h with rfl | rfl | rfl | rfl <;> rfl
theorem arP3 {o : Nat} (h : IsP o) (c : Nat) : AR SC c (o + 3) 20 8 := by rcases h with rfl | rfl | rfl | rfl <;> exact ⟨by decide, rfl, rfl⟩
theorem rfP11 {o : Nat} (h : IsP o) : SC.2.2.2 o 11 = o + 3 := by rcases h with rfl | rfl | rfl | rfl <;> rfl
theorem arP4 {o : Nat} (h : IsP o) (c : Nat) : AR SC c (o + 4) 20 8 := by rcases h with rfl | rfl | rfl | rfl <;> exact ⟨by decide, rfl, rfl⟩
theorem rfP12 {o : Nat} (h : IsP o) : SC.2.2.2 o 12 = o + 4 := by rcases h with rfl | rfl | rfl | rfl <;> rfl
theorem arP5 {o : Nat} (h : IsP o) (c : Nat) : AR SC c (o + 5) 20 8 := by rcases h with rfl | rfl | rfl | rfl <;> exact ⟨by decide, rfl, rfl⟩
theorem rfP13 {o : Nat} (h : IsP o) : SC.2.2.2 o 13 = o + 5 := by rcases h with rfl | rfl | rfl | rfl <;> rfl
theorem arS1 {o : Nat} (h : IsS o) (c : Nat) : AR SC c (o + 1) 20 4 := by rcases h with rfl | rfl | rfl | rfl <;> exact ⟨by decide, rfl, rfl⟩
theorem rfS0 {o : Nat} (h : IsS o) : SC.2.2.2 o 0 = o + 1 := by rcases h with rfl | rfl | rfl | rfl <;> rfl
theorem arS2 {o : Nat} (h : IsS o) (c : Nat) : AR SC c (o + 2) 20 3 := by rcases h with rfl | rfl | rfl | rfl <;> exact ⟨by decide, rfl, rfl⟩
theorem rfS3 {o : Nat} (h : IsS o) : SC.2.2.2 o 3 = o + 2 := by rcases h with rfl | rfl | rfl | rfl <;> rfl
theorem rfS2 {o : Nat} (h : IsS o) : SC.2.2.2 o 2 = 3 := by rcases h with rfl | rfl | rfl | rfl <;> rfl
theorem inb_lt {i : Int32} {n : Nat} (h : inb i n = true) : i.toNatClampNeg < n := Nat.not_le.mp fun q => (inb_in h) (Or.inr q)
theorem isP_of {i : Int32} (h : inb i 4 = true) : IsP (57 + 6 * i.toNatClampNeg) := by have := inb_lt h; unfold IsP; omega
theorem isV_of {i : Int32} (h : inb i 3 = true) : IsV (81 + i.toNatClampNeg) := by have := inb_lt h; unfold IsV; omega
theorem isS_of {i : Int32} (h : inb i 4 = true) : IsS (84 + 3 * i.toNatClampNeg) := by have := inb_lt h; unfold IsS; omega
theorem isE31 : IsE 31 := Or.inl rfl
theorem isE44 : IsE 44 := Or.inr rfl
theorem isN32 : IsN 32 4 := Or.inl ⟨rfl, rfl⟩
theorem isN34 : IsN 34 8 := Or.inr (Or.inl ⟨rfl, rfl⟩)
theorem isN36 : IsN 36 8 := Or.inr (Or.inr (Or.inl ⟨rfl, rfl⟩))
theorem isN45 : IsN 45 4 := Or.inr (Or.inr (Or.inr (Or.inl ⟨rfl, rfl⟩)))
theorem isN47 : IsN 47 8 := Or.inr (Or.inr (Or.inr (Or.inr (Or.inl ⟨rfl, rfl⟩))))
theorem isN49 : IsN 49 8 := Or.inr (Or.inr (Or.inr (Or.inr (Or.inr ⟨rfl, rfl⟩))))
def fu : Nat := 20000
def lp {τ : Type} (n : Nat) (z : τ) (B : τ → τ) : τ := Nat.rec z (fun _ k => B k) n
theorem lp_bw {τ : Type} (P : τ → Prop) {z : τ} {B : τ → τ} (h0 : P z) (hs : ∀ k, P k → P (B k)) (n : Nat) : P (lp n z B) := by
  induction n with
  | zero => exact h0
  | succ n ih => exact hs _ ih
theorem hZ_S {ρ : Type} {Z : Cz ρ} {S : Shp} {dd : Nat} {cc : ByteArray} {own : String} {nL : Nat} {ret : Option FieldType} (hZ : OKZ Z S cc own nL ret dd) : (zY Z).1 = S := hZ.2.2.2.2.2.2.2.2.2.2.2.1
