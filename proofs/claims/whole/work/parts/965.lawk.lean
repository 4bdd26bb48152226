section LawK
theorem lawK0 : ((List.range 64).map (fun k => k + 64 * 0)).all (chkP code (mCode 313)) = true := by decide +kernel
theorem lawK1 : ((List.range 64).map (fun k => k + 64 * 1)).all (chkP code (mCode 313)) = true := by decide +kernel
theorem lawK2 : ((List.range 64).map (fun k => k + 64 * 2)).all (chkP code (mCode 313)) = true := by decide +kernel
theorem lawK3 : ((List.range 64).map (fun k => k + 64 * 3)).all (chkP code (mCode 313)) = true := by decide +kernel
theorem lawK4 : ((List.range 64).map (fun k => k + 64 * 4)).all (chkP code (mCode 313)) = true := by decide +kernel
theorem lawK5 : ((List.range 64).map (fun k => k + 64 * 5)).all (chkP code (mCode 313)) = true := by decide +kernel
theorem lawK6 : ((List.range 64).map (fun k => k + 64 * 6)).all (chkP code (mCode 313)) = true := by decide +kernel
theorem lawK7 : ((List.range 64).map (fun k => k + 64 * 7)).all (chkP code (mCode 313)) = true := by decide +kernel
theorem lawK8 : ((List.range 64).map (fun k => k + 64 * 8)).all (chkP code (mCode 313)) = true := by decide +kernel
theorem lawK9 : ((List.range 64).map (fun k => k + 64 * 9)).all (chkP code (mCode 313)) = true := by decide +kernel
theorem lawK10 : ((List.range 64).map (fun k => k + 64 * 10)).all (chkP code (mCode 313)) = true := by decide +kernel
theorem lawK11 : ((List.range 64).map (fun k => k + 64 * 11)).all (chkP code (mCode 313)) = true := by decide +kernel
theorem lawK12 : ((List.range 64).map (fun k => k + 64 * 12)).all (chkP code (mCode 313)) = true := by decide +kernel
theorem lawK13 : ((List.range 64).map (fun k => k + 64 * 13)).all (chkP code (mCode 313)) = true := by decide +kernel
theorem lawK14 : ((List.range 64).map (fun k => k + 64 * 14)).all (chkP code (mCode 313)) = true := by decide +kernel
theorem lawK15 : ((List.range 64).map (fun k => k + 64 * 15)).all (chkP code (mCode 313)) = true := by decide +kernel
theorem lawK16 : ((List.range 64).map (fun k => k + 64 * 16)).all (chkP code (mCode 313)) = true := by decide +kernel
theorem lawK17 : ((List.range 64).map (fun k => k + 64 * 17)).all (chkP code (mCode 313)) = true := by decide +kernel
theorem lawK18 : ((List.range 64).map (fun k => k + 64 * 18)).all (chkP code (mCode 313)) = true := by decide +kernel
theorem lawK19 : ((List.range 64).map (fun k => k + 64 * 19)).all (chkP code (mCode 313)) = true := by decide +kernel
theorem lawK20 : ((List.range 64).map (fun k => k + 64 * 20)).all (chkP code (mCode 313)) = true := by decide +kernel
theorem lawK21 : ((List.range 64).map (fun k => k + 64 * 21)).all (chkP code (mCode 313)) = true := by decide +kernel
theorem lawK22 : ((List.range 64).map (fun k => k + 64 * 22)).all (chkP code (mCode 313)) = true := by decide +kernel
theorem lawK23 : ((List.range 64).map (fun k => k + 64 * 23)).all (chkP code (mCode 313)) = true := by decide +kernel
theorem lawK24 : ((List.range 64).map (fun k => k + 64 * 24)).all (chkP code (mCode 313)) = true := by decide +kernel
theorem lawK25 : ((List.range 64).map (fun k => k + 64 * 25)).all (chkP code (mCode 313)) = true := by decide +kernel
theorem lawK26 : ((List.range 64).map (fun k => k + 64 * 26)).all (chkP code (mCode 313)) = true := by decide +kernel
theorem lawK27 : ((List.range 64).map (fun k => k + 64 * 27)).all (chkP code (mCode 313)) = true := by decide +kernel
theorem lawK28 : ((List.range 64).map (fun k => k + 64 * 28)).all (chkP code (mCode 313)) = true := by decide +kernel
theorem lawK_all : ∀ (i : Nat), i < 29 → ((List.range 64).map (fun k => k + 64 * i)).all (chkP code (mCode 313)) = true
  | 0, _ => lawK0
  | 1, _ => lawK1
  | 2, _ => lawK2
  | 3, _ => lawK3
  | 4, _ => lawK4
  | 5, _ => lawK5
  | 6, _ => lawK6
  | 7, _ => lawK7
  | 8, _ => lawK8
  | 9, _ => lawK9
  | 10, _ => lawK10
  | 11, _ => lawK11
  | 12, _ => lawK12
  | 13, _ => lawK13
  | 14, _ => lawK14
  | 15, _ => lawK15
  | 16, _ => lawK16
  | 17, _ => lawK17
  | 18, _ => lawK18
  | 19, _ => lawK19
  | 20, _ => lawK20
  | 21, _ => lawK21
  | 22, _ => lawK22
  | 23, _ => lawK23
  | 24, _ => lawK24
  | 25, _ => lawK25
  | 26, _ => lawK26
  | 27, _ => lawK27
  | 28, _ => lawK28
  | n + 29, h => absurd h (by omega)
theorem law_len : 16 * (mCode 313).length ≤ 1856 := by decide +kernel
end LawK
