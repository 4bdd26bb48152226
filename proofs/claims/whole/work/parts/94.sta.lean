section Sta
variable {d : Nat}
def nNow (c : Nat) (a0 : Int) (v : sF) : sF := (up (zer (up (zer (up (zer (up (zer (up (up (up (zer (up (zer (up (zer v ((c : Int) + 1)) a0 0 ((c : Int) + 1)) ((c + 1 : Int) + 1)) a0 1 ((c + 1 : Int) + 1)) ((c + 1 + 1 : Int) + 1)) a0 2 ((c + 1 + 1 : Int) + 1)) a0 3 0) a0 4 0) ((c + 1 + 1 + 1 : Int) + 1)) a0 5 ((c + 1 + 1 + 1 : Int) + 1)) ((c + 1 + 1 + 1 + 1 : Int) + 1)) a0 6 ((c + 1 + 1 + 1 + 1 : Int) + 1)) ((c + 1 + 1 + 1 + 1 + 1 : Int) + 1)) a0 7 ((c + 1 + 1 + 1 + 1 + 1 : Int) + 1)) ((c + 1 + 1 + 1 + 1 + 1 + 1 : Int) + 1)) a0 8 ((c + 1 + 1 + 1 + 1 + 1 + 1 : Int) + 1))
def nLaw (c : Nat) (a0 : Int) (v : sF) : sF := (up (zer (up (up (zer (up (zer (up (zer (up (up (zer v ((c : Int) + 1)) a0 0 ((c : Int) + 1)) a0 1 0) ((c + 1 : Int) + 1)) a0 2 ((c + 1 : Int) + 1)) ((c + 1 + 1 : Int) + 1)) a0 3 ((c + 1 + 1 : Int) + 1)) ((c + 1 + 1 + 1 : Int) + 1)) a0 4 ((c + 1 + 1 + 1 : Int) + 1)) a0 5 0) ((c + 1 + 1 + 1 + 1 : Int) + 1)) a0 6 ((c + 1 + 1 + 1 + 1 : Int) + 1))
def nTok (c : Nat) (a1 : Int) (v : sF) : sF := (up (up (up (up (up (up (up (zer (up v 56 1 0) ((c : Int) + 1)) 56 2 ((c : Int) + 1)) 56 3 0) 56 4 0) 56 5 36) 56 6 0) 56 7 (-1)) 56 0 a1)
def nTra (c : Nat) (a0 : Int) (v : sF) : sF := (up (zer (up (up (up v a0 0 0) a0 1 0) a0 2 0) ((c : Int) + 1)) a0 3 ((c : Int) + 1))
def nWay (c : Nat) (a1 a2 : Int) (v : sF) : sF := (up (up (up (zer (up (zer (up (zer (up (up (up v 140 2 0) 140 3 0) 140 4 (-1)) ((c : Int) + 1)) 140 5 ((c : Int) + 1)) ((c + 1 : Int) + 1)) 140 6 ((c + 1 : Int) + 1)) ((c + 1 + 1 : Int) + 1)) 140 7 ((c + 1 + 1 : Int) + 1)) 140 0 a1) 140 1 a2)
def nDee (a1 a2 : Int) (v : sF) : sF := (up (up (up (up v 144 2 0) 144 3 0) 144 0 a1) 144 1 a2)
def nSee (c : Nat) (a1 a2 : Int) (v : sF) : sF := (up (up (up (zer (up (zer (up v 145 2 0) ((c : Int) + 1)) 145 3 ((c : Int) + 1)) ((c + 1 : Int) + 1)) 145 4 ((c + 1 : Int) + 1)) 145 0 a1) 145 1 a2)
def nCha (c : Nat) (a1 a2 : Int) (v : sF) : sF := (up (up (up (zer (up (zer (up v 148 2 1) ((c : Int) + 1)) 148 3 ((c : Int) + 1)) ((c + 1 : Int) + 1)) 148 4 ((c + 1 : Int) + 1)) 148 0 a1) 148 1 a2)
def nTo0 (c : Nat) (a0 : Int) (v : sF) : sF := (zer (up (zer (up (zer (up (zer (up (up (up v a0 0 2) a0 1 0) a0 2 0) ((c : Int) + 1)) a0 3 ((c : Int) + 1)) ((c + 1 : Int) + 1)) a0 4 ((c + 1 : Int) + 1)) ((c + 1 + 1 : Int) + 1)) a0 5 ((c + 1 + 1 : Int) + 1)) ((c + 1 + 1 + 1 : Int) + 1))
def nTol (c : Nat) (a0 : Int) (v : sF) : sF := (up (nLaw (c + 1 + 1 + 1 + 1) ((c + 1 + 1 + 1 : Int) + 1) (nTo0 c a0 v)) a0 6 ((c + 1 + 1 + 1 : Int) + 1))
theorem iN13 {v : sF} : Ev (d + 1) 31 [(2, 13)] (13, v) none (20, nNow 13 13 v) := Ev_of (loc31 _) (E31_0 _ (by (repeat' (refine cktI (by decide +kernel) ?_)); exact ⟨rfl, rfl⟩))
theorem iN21 {v : sF} : Ev (d + 1) 31 [(2, 21)] (21, v) none (28, nNow 21 21 v) := Ev_of (loc31 _) (E31_0 _ (by (repeat' (refine cktI (by decide +kernel) ?_)); exact ⟨rfl, rfl⟩))
theorem iN29 {v : sF} : Ev (d + 1) 31 [(2, 29)] (29, v) none (36, nNow 29 29 v) := Ev_of (loc31 _) (E31_0 _ (by (repeat' (refine cktI (by decide +kernel) ?_)); exact ⟨rfl, rfl⟩))
theorem iN48 {v : sF} : Ev (d + 1) 31 [(2, 48)] (48, v) none (55, nNow 48 48 v) := Ev_of (loc31 _) (E31_0 _ (by (repeat' (refine cktI (by decide +kernel) ?_)); exact ⟨rfl, rfl⟩))
theorem iN60 {v : sF} : Ev (d + 1) 31 [(2, 60)] (60, v) none (67, nNow 60 60 v) := Ev_of (loc31 _) (E31_0 _ (by (repeat' (refine cktI (by decide +kernel) ?_)); exact ⟨rfl, rfl⟩))
theorem iN68 {v : sF} : Ev (d + 1) 31 [(2, 68)] (68, v) none (75, nNow 68 68 v) := Ev_of (loc31 _) (E31_0 _ (by (repeat' (refine cktI (by decide +kernel) ?_)); exact ⟨rfl, rfl⟩))
theorem iN76 {v : sF} : Ev (d + 1) 31 [(2, 76)] (76, v) none (83, nNow 76 76 v) := Ev_of (loc31 _) (E31_0 _ (by (repeat' (refine cktI (by decide +kernel) ?_)); exact ⟨rfl, rfl⟩))
theorem iN84 {v : sF} : Ev (d + 1) 31 [(2, 84)] (84, v) none (91, nNow 84 84 v) := Ev_of (loc31 _) (E31_0 _ (by (repeat' (refine cktI (by decide +kernel) ?_)); exact ⟨rfl, rfl⟩))
theorem iN92 {v : sF} : Ev (d + 1) 31 [(2, 92)] (92, v) none (99, nNow 92 92 v) := Ev_of (loc31 _) (E31_0 _ (by (repeat' (refine cktI (by decide +kernel) ?_)); exact ⟨rfl, rfl⟩))
theorem iN100 {v : sF} : Ev (d + 1) 31 [(2, 100)] (100, v) none (107, nNow 100 100 v) := Ev_of (loc31 _) (E31_0 _ (by (repeat' (refine cktI (by decide +kernel) ?_)); exact ⟨rfl, rfl⟩))
theorem iN108 {v : sF} : Ev (d + 1) 31 [(2, 108)] (108, v) none (115, nNow 108 108 v) := Ev_of (loc31 _) (E31_0 _ (by (repeat' (refine cktI (by decide +kernel) ?_)); exact ⟨rfl, rfl⟩))
theorem iN116 {v : sF} : Ev (d + 1) 31 [(2, 116)] (116, v) none (123, nNow 116 116 v) := Ev_of (loc31 _) (E31_0 _ (by (repeat' (refine cktI (by decide +kernel) ?_)); exact ⟨rfl, rfl⟩))
theorem iN124 {v : sF} : Ev (d + 1) 31 [(2, 124)] (124, v) none (131, nNow 124 124 v) := Ev_of (loc31 _) (E31_0 _ (by (repeat' (refine cktI (by decide +kernel) ?_)); exact ⟨rfl, rfl⟩))
theorem iN132 {v : sF} : Ev (d + 1) 31 [(2, 132)] (132, v) none (139, nNow 132 132 v) := Ev_of (loc31 _) (E31_0 _ (by (repeat' (refine cktI (by decide +kernel) ?_)); exact ⟨rfl, rfl⟩))
theorem iL7 {v : sF} : Ev (d + 1) 18 [(2, 7)] (7, v) none (12, nLaw 7 7 v) := Ev_of (loc18 _) (E18_0 _ (by (repeat' (refine cktI (by decide +kernel) ?_)); exact ⟨rfl, rfl⟩))
theorem iL42 {v : sF} : Ev (d + 1) 18 [(2, 42)] (42, v) none (47, nLaw 42 42 v) := Ev_of (loc18 _) (E18_0 _ (by (repeat' (refine cktI (by decide +kernel) ?_)); exact ⟨rfl, rfl⟩))
theorem iT3 {v : sF} : Ev (d + 2) 79 [(2, 3)] (3, v) none (12, nTol 3 3 v) := Ev_of (loc79 _) (E79_0 _ (by (repeat' (refine cktI (by decide +kernel) ?_)); exact ⟨_, _, iL7, cktI (by decide +kernel) ⟨rfl, rfl⟩⟩))
theorem iT38 {v : sF} : Ev (d + 2) 79 [(2, 38)] (38, v) none (47, nTol 38 38 v) := Ev_of (loc79 _) (E79_0 _ (by (repeat' (refine cktI (by decide +kernel) ?_)); exact ⟨_, _, iL42, cktI (by decide +kernel) ⟨rfl, rfl⟩⟩))
theorem iTok {v : sF} : Ev (d + 1) 69 [(2, 56), (2, 2)] (56, v) none (57, nTok 56 2 v) := Ev_of (loc69 _) (E69_0 _ (by (repeat' (refine cktI (by decide +kernel) ?_)); exact ⟨rfl, rfl⟩))
theorem iR155 {v : sF} : Ev (d + 1) 82 [(2, 155)] (155, v) none (156, nTra 155 155 v) := Ev_of (loc82 _) (E82_0 _ (by (repeat' (refine cktI (by decide +kernel) ?_)); exact ⟨rfl, rfl⟩))
theorem iR157 {v : sF} : Ev (d + 1) 82 [(2, 157)] (157, v) none (158, nTra 157 157 v) := Ev_of (loc82 _) (E82_0 _ (by (repeat' (refine cktI (by decide +kernel) ?_)); exact ⟨rfl, rfl⟩))
theorem iR159 {v : sF} : Ev (d + 1) 82 [(2, 159)] (159, v) none (160, nTra 159 159 v) := Ev_of (loc82 _) (E82_0 _ (by (repeat' (refine cktI (by decide +kernel) ?_)); exact ⟨rfl, rfl⟩))
theorem iR161 {v : sF} : Ev (d + 1) 82 [(2, 161)] (161, v) none (162, nTra 161 161 v) := Ev_of (loc82 _) (E82_0 _ (by (repeat' (refine cktI (by decide +kernel) ?_)); exact ⟨rfl, rfl⟩))
theorem iWay {v : sF} : Ev (d + 1) 86 [(2, 140), (2, 3), (2, 13)] (140, v) none (143, nWay 140 3 13 v) := Ev_of (loc86 _ _) (E86_0 _ _ (by (repeat' (refine cktI (by decide +kernel) ?_)); exact ⟨rfl, rfl⟩))
theorem iDee {v : sF} : Ev (d + 1) 5 [(2, 144), (2, 3), (2, 140)] (144, v) none (144, nDee 3 140 v) := Ev_of (loc5 _ _) (E5_0 _ _ ⟨rfl, rfl⟩)
theorem iSee {v : sF} : Ev (d + 1) 63 [(2, 145), (2, 3), (2, 140)] (145, v) none (147, nSee 145 3 140 v) := Ev_of (loc63 _ _) (E63_0 _ _ (by (repeat' (refine cktI (by decide +kernel) ?_)); exact ⟨rfl, rfl⟩))
theorem iCha {v : sF} : Ev (d + 1) 0 [(2, 148), (2, 3), (2, 140)] (148, v) none (150, nCha 148 3 140 v) := Ev_of (locz0 _ _) (E0_0 _ _ (by (repeat' (refine cktI (by decide +kernel) ?_)); exact ⟨rfl, rfl⟩))
def nRea (v : sF) : sF := up (nTok 56 2 (zer (up (up (up (up (nNow 48 48 (zer (up (nTol 38 38 (zer v 38)) 37 0 38) 48)) 37 1 48) 37 2 0) 37 3 (-1)) 37 5 0) 56)) 37 4 56
theorem iRea {v : sF} : Ev (d + 3) 41 [(2, 37), (2, 2)] (37, v) none (57, nRea v) := Ev_of (loc41 _) (E41_0 _ (by
  refine cktI (by decide +kernel) (cktI (by decide +kernel) ⟨_, _, iT38, ?_⟩)
  refine cktI (by decide +kernel) (cktI (by decide +kernel) ⟨_, _, iN48, ?_⟩)
  exact cktI (by decide +kernel) (cktI (by decide +kernel) ⟨_, _, iTok, rfl, rfl⟩)))
def nP0 (v : sF) : sF := up (up (up (zer v 59) 58 0 59) 58 1 0) 58 2 0
def nP1 (v : sF) : sF := up (nNow 60 60 (zer (nP0 v) 60)) 59 0 60
def nP2 (v : sF) : sF := up (nNow 68 68 (zer (nP1 v) 68)) 59 1 68
def nP3 (v : sF) : sF := up (nNow 76 76 (zer (nP2 v) 76)) 59 2 76
def nP4 (v : sF) : sF := up (nNow 84 84 (zer (nP3 v) 84)) 59 3 84
def nP5 (v : sF) : sF := up (nNow 92 92 (zer (nP4 v) 92)) 59 4 92
def nP6 (v : sF) : sF := up (nNow 100 100 (zer (nP5 v) 100)) 59 5 100
def nP7 (v : sF) : sF := up (nNow 108 108 (zer (nP6 v) 108)) 59 6 108
def nP8 (v : sF) : sF := up (nNow 116 116 (zer (nP7 v) 116)) 59 7 116
def nP9 (v : sF) : sF := up (nNow 124 124 (zer (nP8 v) 124)) 59 8 124
def nP10 (v : sF) : sF := up (nNow 132 132 (zer (nP9 v) 132)) 59 9 132
set_option maxRecDepth 100000 in
theorem iPas {v : sF} : Ev (d + 2) 38 [(2, 58)] (58, v) none (139, nP10 v) := Ev_of loc38 (E38_0 (by
  refine cktI (by decide +kernel) ?_
  have e0 : nP0 v 58 0 = 59 := rfl
  have e1 : nP1 v 58 0 = 59 := rfl
  have e2 : nP2 v 58 0 = 59 := rfl
  have e3 : nP3 v 58 0 = 59 := rfl
  have e4 : nP4 v 58 0 = 59 := rfl
  have e5 : nP5 v 58 0 = 59 := rfl
  have e6 : nP6 v 58 0 = 59 := rfl
  have e7 : nP7 v 58 0 = 59 := rfl
  have e8 : nP8 v 58 0 = 59 := rfl
  have e9 : nP9 v 58 0 = 59 := rfl
  refine E38_25 (c := 59) (v := nP0 v) 0 (brbI (fun z => absurd z (by decide)) (fun _ => cktI (by decide +kernel) (cktI (by decide +kernel) ⟨_, _, iN60, ?_⟩)))
  rw [e0]
  refine cktI (by decide +kernel) (chkI (by decide +kernel) (rngI (by decide) ?_))
  refine E38_25 (c := 67) (v := nP1 v) 1 (brbI (fun z => absurd z (by decide)) (fun _ => cktI (by decide +kernel) (cktI (by decide +kernel) ⟨_, _, iN68, ?_⟩)))
  rw [e1]
  refine cktI (by decide +kernel) (chkI (by decide +kernel) (rngI (by decide) ?_))
  refine E38_25 (c := 75) (v := nP2 v) 2 (brbI (fun z => absurd z (by decide)) (fun _ => cktI (by decide +kernel) (cktI (by decide +kernel) ⟨_, _, iN76, ?_⟩)))
  rw [e2]
  refine cktI (by decide +kernel) (chkI (by decide +kernel) (rngI (by decide) ?_))
  refine E38_25 (c := 83) (v := nP3 v) 3 (brbI (fun z => absurd z (by decide)) (fun _ => cktI (by decide +kernel) (cktI (by decide +kernel) ⟨_, _, iN84, ?_⟩)))
  rw [e3]
  refine cktI (by decide +kernel) (chkI (by decide +kernel) (rngI (by decide) ?_))
  refine E38_25 (c := 91) (v := nP4 v) 4 (brbI (fun z => absurd z (by decide)) (fun _ => cktI (by decide +kernel) (cktI (by decide +kernel) ⟨_, _, iN92, ?_⟩)))
  rw [e4]
  refine cktI (by decide +kernel) (chkI (by decide +kernel) (rngI (by decide) ?_))
  refine E38_25 (c := 99) (v := nP5 v) 5 (brbI (fun z => absurd z (by decide)) (fun _ => cktI (by decide +kernel) (cktI (by decide +kernel) ⟨_, _, iN100, ?_⟩)))
  rw [e5]
  refine cktI (by decide +kernel) (chkI (by decide +kernel) (rngI (by decide) ?_))
  refine E38_25 (c := 107) (v := nP6 v) 6 (brbI (fun z => absurd z (by decide)) (fun _ => cktI (by decide +kernel) (cktI (by decide +kernel) ⟨_, _, iN108, ?_⟩)))
  rw [e6]
  refine cktI (by decide +kernel) (chkI (by decide +kernel) (rngI (by decide) ?_))
  refine E38_25 (c := 115) (v := nP7 v) 7 (brbI (fun z => absurd z (by decide)) (fun _ => cktI (by decide +kernel) (cktI (by decide +kernel) ⟨_, _, iN116, ?_⟩)))
  rw [e7]
  refine cktI (by decide +kernel) (chkI (by decide +kernel) (rngI (by decide) ?_))
  refine E38_25 (c := 123) (v := nP8 v) 8 (brbI (fun z => absurd z (by decide)) (fun _ => cktI (by decide +kernel) (cktI (by decide +kernel) ⟨_, _, iN124, ?_⟩)))
  rw [e8]
  refine cktI (by decide +kernel) (chkI (by decide +kernel) (rngI (by decide) ?_))
  refine E38_25 (c := 131) (v := nP9 v) 9 (brbI (fun z => absurd z (by decide)) (fun _ => cktI (by decide +kernel) (cktI (by decide +kernel) ⟨_, _, iN132, ?_⟩)))
  rw [e9]
  refine cktI (by decide +kernel) (chkI (by decide +kernel) (rngI (by decide) ?_))
  exact E38_25 (c := 139) (v := nP10 v) 10 (brbI (fun _ => ⟨rfl, rfl⟩) (fun z => absurd (by decide) z))))
end Sta
