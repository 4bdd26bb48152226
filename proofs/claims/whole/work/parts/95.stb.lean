section Stb
variable {d : Nat}
def nMo (c : Nat) (v : sF) : sF := up (zer (up (zer (up (up (up (up (up (zer (up (zer (up (zer (up (zer (up (zer (up (zer (up (zer (up (zer (up (zer (up (zer (up (up (zer (up (zer (up (up (zer (up (zer (up (zer (up (zer v ((c : Int) + 1)) 163 1 ((c : Int) + 1)) ((c + 1 : Int) + 1)) 163 2 ((c + 1 : Int) + 1)) ((c + 1 + 1 : Int) + 1)) 163 3 ((c + 1 + 1 : Int) + 1)) ((c + 1 + 1 + 1 : Int) + 1)) 163 4 ((c + 1 + 1 + 1 : Int) + 1)) 163 14 (-1)) ((c + 1 + 1 + 1 + 1 : Int) + 1)) 163 16 ((c + 1 + 1 + 1 + 1 : Int) + 1)) ((c + 1 + 1 + 1 + 1 + 1 : Int) + 1)) 163 17 ((c + 1 + 1 + 1 + 1 + 1 : Int) + 1)) 163 18 (-1)) ((c + 1 + 1 + 1 + 1 + 1 + 1 : Int) + 1)) 163 19 ((c + 1 + 1 + 1 + 1 + 1 + 1 : Int) + 1)) ((c + 1 + 1 + 1 + 1 + 1 + 1 + 1 : Int) + 1)) 163 22 ((c + 1 + 1 + 1 + 1 + 1 + 1 + 1 : Int) + 1)) ((c + 1 + 1 + 1 + 1 + 1 + 1 + 1 + 1 : Int) + 1)) 163 23 ((c + 1 + 1 + 1 + 1 + 1 + 1 + 1 + 1 : Int) + 1)) ((c + 1 + 1 + 1 + 1 + 1 + 1 + 1 + 1 + 1 : Int) + 1)) 163 24 ((c + 1 + 1 + 1 + 1 + 1 + 1 + 1 + 1 + 1 : Int) + 1)) ((c + 1 + 1 + 1 + 1 + 1 + 1 + 1 + 1 + 1 + 1 : Int) + 1)) 163 26 ((c + 1 + 1 + 1 + 1 + 1 + 1 + 1 + 1 + 1 + 1 : Int) + 1)) ((c + 1 + 1 + 1 + 1 + 1 + 1 + 1 + 1 + 1 + 1 + 1 : Int) + 1)) 163 27 ((c + 1 + 1 + 1 + 1 + 1 + 1 + 1 + 1 + 1 + 1 + 1 : Int) + 1)) ((c + 1 + 1 + 1 + 1 + 1 + 1 + 1 + 1 + 1 + 1 + 1 + 1 : Int) + 1)) 163 28 ((c + 1 + 1 + 1 + 1 + 1 + 1 + 1 + 1 + 1 + 1 + 1 + 1 : Int) + 1)) ((c + 1 + 1 + 1 + 1 + 1 + 1 + 1 + 1 + 1 + 1 + 1 + 1 + 1 : Int) + 1)) 163 29 ((c + 1 + 1 + 1 + 1 + 1 + 1 + 1 + 1 + 1 + 1 + 1 + 1 + 1 : Int) + 1)) ((c + 1 + 1 + 1 + 1 + 1 + 1 + 1 + 1 + 1 + 1 + 1 + 1 + 1 + 1 : Int) + 1)) 163 30 ((c + 1 + 1 + 1 + 1 + 1 + 1 + 1 + 1 + 1 + 1 + 1 + 1 + 1 + 1 : Int) + 1)) ((c + 1 + 1 + 1 + 1 + 1 + 1 + 1 + 1 + 1 + 1 + 1 + 1 + 1 + 1 + 1 : Int) + 1)) ((c + 1 + 1 + 1 + 1 + 1 + 1 + 1 + 1 + 1 + 1 + 1 + 1 + 1 + 1 + 1 : Int) + 1) 0 (-1)) ((c + 1 + 1 + 1 + 1 + 1 + 1 + 1 + 1 + 1 + 1 + 1 + 1 + 1 + 1 + 1 : Int) + 1) 1 (-1)) ((c + 1 + 1 + 1 + 1 + 1 + 1 + 1 + 1 + 1 + 1 + 1 + 1 + 1 + 1 + 1 : Int) + 1) 2 (-1)) ((c + 1 + 1 + 1 + 1 + 1 + 1 + 1 + 1 + 1 + 1 + 1 + 1 + 1 + 1 + 1 : Int) + 1) 3 (-1)) 163 31 ((c + 1 + 1 + 1 + 1 + 1 + 1 + 1 + 1 + 1 + 1 + 1 + 1 + 1 + 1 + 1 : Int) + 1)) ((c + 1 + 1 + 1 + 1 + 1 + 1 + 1 + 1 + 1 + 1 + 1 + 1 + 1 + 1 + 1 + 1 : Int) + 1)) 163 32 ((c + 1 + 1 + 1 + 1 + 1 + 1 + 1 + 1 + 1 + 1 + 1 + 1 + 1 + 1 + 1 + 1 : Int) + 1)) ((c + 1 + 1 + 1 + 1 + 1 + 1 + 1 + 1 + 1 + 1 + 1 + 1 + 1 + 1 + 1 + 1 + 1 : Int) + 1)) 163 33 ((c + 1 + 1 + 1 + 1 + 1 + 1 + 1 + 1 + 1 + 1 + 1 + 1 + 1 + 1 + 1 + 1 + 1 : Int) + 1)
def nA1 (v : sF) : sF := nTol 3 3 (zer (up (up (zer v 2) 1 0 2) 1 1 0) 3)
def nA2 (v : sF) : sF := nNow 13 13 (zer (up (nA1 v) 1 2 3) 13)
def nA3 (v : sF) : sF := nNow 21 21 (zer (up (nA2 v) 1 3 13) 21)
def nA4 (v : sF) : sF := nNow 29 29 (zer (up (nA3 v) 1 4 21) 29)
def nA5 (v : sF) : sF := nRea (zer (up (nA4 v) 1 5 29) 37)
def nA6 (v : sF) : sF := nP10 (zer (up (nA5 v) 1 6 37) 58)
def nA7 (v : sF) : sF := nWay 140 3 13 (zer (up (nA6 v) 1 7 58) 140)
def nA8 (v : sF) : sF := nDee 3 140 (zer (up (nA7 v) 1 8 140) 144)
def nA9 (v : sF) : sF := nSee 145 3 140 (zer (up (nA8 v) 1 9 144) 145)
def nA10 (v : sF) : sF := nCha 148 3 140 (zer (up (nA9 v) 1 10 145) 148)
def nB0 (v : sF) : sF := up (zer (up (zer (up (zer (up (zer (up (nA10 v) 1 11 148) 151) 1 12 151) 152) 1 13 152) 153) 1 14 153) 154) 1 15 154
def nB1 (v : sF) : sF := up (nTra 155 155 (zer (nB0 v) 155)) 151 0 155
def nB2 (v : sF) : sF := up (nTra 157 157 (zer (nB1 v) 157)) 151 1 157
def nB3 (v : sF) : sF := up (nTra 159 159 (zer (nB2 v) 159)) 151 2 159
def nB4 (v : sF) : sF := up (nTra 161 161 (zer (nB3 v) 161)) 151 3 161
set_option maxRecDepth 100000 in
theorem i107 {v : sF} : Ev (d + 4) 107 [(2, 1)] (1, v) none (162, nB4 v) := Ev_of loc107 (E107_0 (by
  have e5 : (zer (up (nA4 v) 1 5 29) 37) 1 0 = 2 := rfl
  have e7 : (zer (up (nA6 v) 1 7 58) 140) 1 2 = 3 := rfl
  have e7b : (zer (up (nA6 v) 1 7 58) 140) 1 3 = 13 := rfl
  have e8 : (zer (up (nA7 v) 1 8 140) 144) 1 2 = 3 := rfl
  have e8b : (zer (up (nA7 v) 1 8 140) 144) 1 8 = 140 := rfl
  have e9 : (zer (up (nA8 v) 1 9 144) 145) 1 2 = 3 := rfl
  have e9b : (zer (up (nA8 v) 1 9 144) 145) 1 8 = 140 := rfl
  have e10 : (zer (up (nA9 v) 1 10 145) 148) 1 2 = 3 := rfl
  have e10b : (zer (up (nA9 v) 1 10 145) 148) 1 8 = 140 := rfl
  refine cktI (by decide +kernel) (cktI (by decide +kernel) (cktI (by decide +kernel) ⟨_, nA1 v, iT3, ?_⟩))
  refine cktI (by decide +kernel) (cktI (by decide +kernel) ⟨_, nA2 v, iN13, ?_⟩)
  refine cktI (by decide +kernel) (cktI (by decide +kernel) ⟨_, nA3 v, iN21, ?_⟩)
  refine cktI (by decide +kernel) (cktI (by decide +kernel) ⟨_, nA4 v, iN29, ?_⟩)
  refine cktI (by decide +kernel) (cktI (by decide +kernel) ⟨57, nA5 v, ?_, ?_⟩)
  · show Ev (d + 3) 41 [(2, 37), (2, (zer (up (nA4 v) 1 5 29) 37) 1 0)] (37, zer (up (nA4 v) 1 5 29) 37) none (57, nA5 v)
    rw [e5]; exact iRea
  refine cktI (by decide +kernel) (cktI (by decide +kernel) ⟨139, nA6 v, iPas, ?_⟩)
  refine cktI (by decide +kernel) (cktI (by decide +kernel) ⟨143, nA7 v, ?_, ?_⟩)
  · show Ev (d + 3) 86 [(2, 140), (2, (zer (up (nA6 v) 1 7 58) 140) 1 2), (2, (zer (up (nA6 v) 1 7 58) 140) 1 3)] (140, zer (up (nA6 v) 1 7 58) 140) none (143, nA7 v)
    rw [e7, e7b]; exact iWay
  refine cktI (by decide +kernel) (cktI (by decide +kernel) ⟨144, nA8 v, ?_, ?_⟩)
  · show Ev (d + 3) 5 [(2, 144), (2, (zer (up (nA7 v) 1 8 140) 144) 1 2), (2, (zer (up (nA7 v) 1 8 140) 144) 1 8)] (144, zer (up (nA7 v) 1 8 140) 144) none (144, nA8 v)
    rw [e8, e8b]; exact iDee
  refine cktI (by decide +kernel) (cktI (by decide +kernel) ⟨147, nA9 v, ?_, ?_⟩)
  · show Ev (d + 3) 63 [(2, 145), (2, (zer (up (nA8 v) 1 9 144) 145) 1 2), (2, (zer (up (nA8 v) 1 9 144) 145) 1 8)] (145, zer (up (nA8 v) 1 9 144) 145) none (147, nA9 v)
    rw [e9, e9b]; exact iSee
  refine cktI (by decide +kernel) (cktI (by decide +kernel) ⟨150, nA10 v, ?_, ?_⟩)
  · show Ev (d + 3) 0 [(2, 148), (2, (zer (up (nA9 v) 1 10 145) 148) 1 2), (2, (zer (up (nA9 v) 1 10 145) 148) 1 8)] (148, zer (up (nA9 v) 1 10 145) 148) none (150, nA10 v)
    rw [e10, e10b]; exact iCha
  refine cktI (by decide +kernel) (cktI (by decide +kernel) (cktI (by decide +kernel) (cktI (by decide +kernel) ?_)))
  have b0 : nB0 v 1 12 = 151 := rfl
  have b1 : nB1 v 1 12 = 151 := rfl
  have b2 : nB2 v 1 12 = 151 := rfl
  have b3 : nB3 v 1 12 = 151 := rfl
  refine E107_198 (c := 154) (v := nB0 v) 0 (brbI (fun z => absurd z (by decide)) (fun _ => cktI (by decide +kernel) (cktI (by decide +kernel) ⟨_, _, iR155, ?_⟩)))
  rw [b0]
  refine cktI (by decide +kernel) (chkI (by decide +kernel) (rngI (by decide) ?_))
  refine E107_198 (c := 156) (v := nB1 v) 1 (brbI (fun z => absurd z (by decide)) (fun _ => cktI (by decide +kernel) (cktI (by decide +kernel) ⟨_, _, iR157, ?_⟩)))
  rw [b1]
  refine cktI (by decide +kernel) (chkI (by decide +kernel) (rngI (by decide) ?_))
  refine E107_198 (c := 158) (v := nB2 v) 2 (brbI (fun z => absurd z (by decide)) (fun _ => cktI (by decide +kernel) (cktI (by decide +kernel) ⟨_, _, iR159, ?_⟩)))
  rw [b2]
  refine cktI (by decide +kernel) (chkI (by decide +kernel) (rngI (by decide) ?_))
  refine E107_198 (c := 160) (v := nB3 v) 3 (brbI (fun z => absurd z (by decide)) (fun _ => cktI (by decide +kernel) (cktI (by decide +kernel) ⟨_, _, iR161, ?_⟩)))
  rw [b3]
  refine cktI (by decide +kernel) (chkI (by decide +kernel) (rngI (by decide) ?_))
  exact E107_198 (c := 162) (v := nB4 v) 4 (brbI (fun _ => ⟨rfl, rfl⟩) (fun z => absurd (by decide) z))))
def stc (v : sF) (a : Int) (f : Int → Int) : sF := fun b => if b = a then f else v b
set_option maxRecDepth 100000 in
theorem i169 {v : sF} : Ev (d + 2) 169 [(2, 163)] (163, v) none (181, stc (nMo 163 v) 164 (plA (nMo 163 v 164))) := Ev_of loc169 (E169_0 (by
  (repeat' (first | refine cktI (by decide +kernel) ?_ | refine chkI (by decide +kernel) ?_))
  obtain ⟨w, e1, e2, e3⟩ := C_plain (d := d) (c := 181) (v := nMo 163 v) (a := 164) (by decide +kernel) (fun x x0 x1 => inbI x0 (by rw [show lnT 164 = 5262 by decide +kernel]; omega))
  have ew : w = stc (nMo 163 v) 164 (plA (nMo 163 v 164)) := by
    funext b
    unfold stc
    rcases Decidable.em (b = 164) with q | q
    · rw [if_pos q, q]; exact e3
    · rw [if_neg q]; exact e2 b (by simpa using q)
  refine ⟨181, w, ?_, rfl, by rw [ew]⟩
  exact e1))
end Stb
