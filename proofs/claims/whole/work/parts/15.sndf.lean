section SndEv
theorem str_ldc {p : Program} {l : Launch} {e : Env} {R : Room} {s : State} {m : MethodId} {args : Array Value} {below : List Frame} {meth : Method} {cd : Code} {Q : State → Prop} {own B : Nat} {ad : Nat → Nat} {bytes : ByteArray} (hx : p.tables.exec = Jvm.exec) (hb : cd.code = bytes) (hown : s.vm.findClass (cN own) = some m.cls) (hSt : StrF B ad s) (i k : Nat) (rest : List Value) (H : Heap) (locs : List Loc) (LS : Array Slot) (pc cells slots : Nat) (h : lk kTab own i = some (3, (k : Int))) (hk : k < 4) (hdec : decode bytes pc = .ok (.ldc i, 2)) (hw : W p l e R s m args below meth cd H locs cells slots Q (F0 m (pc + 2) LS (.ref (ad k) :: rest))) : W p l e R s m args below meth cd H locs cells slots Q (F0 m pc LS rest) := by
  have ht : (List.range kTab.length).all (fun own => (kTab.getD own []).all (fun q => decide (q.2.1 ≠ 3) || decide (own = 7 ∧ q.1 = 71 ∧ q.2.2 = 0) || decide (own = 7 ∧ q.1 = 64 ∧ q.2.2 = 1) || decide (own = 12 ∧ q.1 = 86 ∧ q.2.2 = 2) || decide (own = 12 ∧ q.1 = 124 ∧ q.2.2 = 3))) = true := by decide +kernel
  have h1 := lk_all2 ht h
  simp only [Bool.or_eq_true, Bool.and_eq_true, decide_eq_true_eq] at h1
  obtain ⟨-, -, -, r0, r1, r2, r3⟩ := hSt
  rcases h1 with (((h1 | h1) | h1) | h1) | h1
  · exact absurd rfl h1
  · obtain ⟨q1, q2, q3⟩ := h1
    subst q1; subst q2
    obtain rfl : k = 0 := by omega
    exact va_ldcS hx hb hown r0 hdec hw
  · obtain ⟨q1, q2, q3⟩ := h1
    subst q1; subst q2
    obtain rfl : k = 1 := by omega
    exact va_ldcS hx hb hown r1 hdec hw
  · obtain ⟨q1, q2, q3⟩ := h1
    subst q1; subst q2
    obtain rfl : k = 2 := by omega
    exact va_ldcS hx hb hown r2 hdec hw
  · obtain ⟨q1, q2, q3⟩ := h1
    subst q1; subst q2
    obtain rfl : k = 3 := by omega
    exact va_ldcS hx hb hown r3 hdec hw
theorem nar_byte {x : Int} (h : -128 ≤ x ∧ x ≤ 127) : narrow .byte (.int (Int32.ofInt x)) = .int (Int32.ofInt x) := by
  have e : (Int32.ofInt x).toInt8.toInt32 = Int32.ofInt x := by
    rw [o_i2b (by omega), show w8 x = x by unfold w8; omega]
  show Value.int (Int32.ofInt x).toInt8.toInt32 = _
  rw [e]
theorem nar_char {x : Int} (h : 0 ≤ x ∧ x ≤ 65535) : narrow .char (.int (Int32.ofInt x)) = .int (Int32.ofInt x) := by
  have e : (Int32.ofInt x).toUInt32.toUInt16.toUInt32.toInt32 = Int32.ofInt x := by
    have e2 : (Int32.ofInt x).toUInt32.toUInt16.toUInt32 = (Int32.ofInt x).toUInt32 % 65536 := by simp
    rw [e2, o_i2c (by omega), show x % 65536 = x by omega]
  show Value.int (Int32.ofInt x).toUInt32.toUInt16.toUInt32.toInt32 = _
  rw [e]
theorem lg_spread (B : Nat) (ad : Nat → Nat) : ∀ (as : List sV) (i : Nat) (x : sV), (spread as)[i]? = some x → x.1 ≠ 9 → (lg_sl (as.map (cV B ad)))[i]? = some (.val (cV B ad x)) := by
  intro as
  induction as with
  | nil => intro i x h; simp [spread] at h
  | cons a r ih =>
    intro i x h h9
    obtain ⟨t, a⟩ := a
    by_cases ht : t = 1
    · subst ht
      have e1 : spread ((1, a) :: r) = (1, a) :: (9, 0) :: spread r := rfl
      have e2 : lg_sl (((1, a) :: r).map (cV B ad)) = .val (cV B ad (1, a)) :: .second :: lg_sl (r.map (cV B ad)) := rfl
      rw [e1] at h
      rw [e2]
      match i, h with
      | 0, h => cases h; rfl
      | 1, h => cases h; exact absurd rfl h9
      | i + 2, h => exact ih i x h h9
    · have e1 : spread ((t, a) :: r) = (t, a) :: spread r := by
        match t, ht with
        | 0, _ => rfl
        | n + 2, _ => rfl
      have e2 : lg_sl (((t, a) :: r).map (cV B ad)) = .val (cV B ad (t, a)) :: lg_sl (r.map (cV B ad)) := by
        unfold lg_sl
        rw [List.map_cons, List.flatMap_cons, cV_cat (show (t, a).1 ≠ 1 from ht)]
        rfl
      rw [e1] at h
      rw [e2]
      match i, h with
      | 0, h => cases h; rfl
      | i + 1, h => exact ih i x h h9
theorem lg_len (B : Nat) (ad : Nat → Nat) (as : List sV) : (lg_sl (as.map (cV B ad))).length = (spread as).length ∧ (spread as).length = (as.map (fun x => if x.1 = 1 then 2 else 1)).sum := by
  induction as with
  | nil => exact ⟨rfl, rfl⟩
  | cons a r ih =>
    obtain ⟨t, a⟩ := a
    by_cases ht : t = 1
    · subst ht
      have e1 : spread ((1, a) :: r) = (1, a) :: (9, 0) :: spread r := rfl
      have e2 : lg_sl (((1, a) :: r).map (cV B ad)) = .val (cV B ad (1, a)) :: .second :: lg_sl (r.map (cV B ad)) := rfl
      rw [e1, e2]
      simp only [List.length_cons, List.map_cons, List.sum_cons, if_pos]
      omega
    · have e1 : spread ((t, a) :: r) = (t, a) :: spread r := by
        match t, ht with
        | 0, _ => rfl
        | n + 2, _ => rfl
      have e2 : lg_sl (((t, a) :: r).map (cV B ad)) = .val (cV B ad (t, a)) :: lg_sl (r.map (cV B ad)) := by
        unfold lg_sl
        rw [List.map_cons, List.flatMap_cons, cV_cat (show (t, a).1 ≠ 1 from ht)]
        rfl
      rw [e1, e2]
      simp only [List.length_cons, List.map_cons, List.sum_cons, if_neg ht]
      omega
theorem LS_entry {B : Nat} {ad : Nat → Nat} {as : List sV} {n : Nat} (h : (as.map (fun x => if x.1 = 1 then 2 else 1)).sum ≤ n) : LSok B ad n ((lg_sl (as.map (cV B ad)) ++ List.replicate (n - (lg_sl (as.map (cV B ad))).length) Slot.unset).toArray) (loc0 as n) := by
  have hl := lg_len B ad as
  have he := lv_entry (as.map (cV B ad)) (n := n) (by omega)
  refine ⟨?_, he.1, he.2.1, fun i x hx h9 => ?_⟩
  · unfold loc0
    rw [List.length_append, List.length_replicate]
    omega
  · unfold loc0 at hx
    by_cases hi : i < (spread as).length
    · rw [List.getElem?_append_left hi] at hx
      have := lg_spread B ad as i x hx h9
      rw [List.getElem?_toArray, List.getElem?_append_left (by omega)]
      exact this
    · rw [List.getElem?_append_right (by omega)] at hx
      have := List.eq_of_mem_replicate (List.mem_of_getElem? hx)
      rw [this] at h9
      exact absurd rfl h9
theorem snd_Ev (l : Launch) (B : Nat) (D : va_G) (dA : Nat → ClassId) (ad : Nat → Nat) : ∀ d, callMm B D dA ad l d (Ev d) := by
  intro d
  induction d with
  | zero => intro y as c v r c' v' hy h; exact h.elim
  | succ d ih =>
    intro y as c v r c' v' hy hev has htg hM hFu
    obtain ⟨n, hrn⟩ := hev
    obtain ⟨m1, m2, m3, m4, m5, m6, m7, m8, m9, m10⟩ := m_facts hy
    have hsum : (as.map (fun x => if x.1 = 1 then 2 else 1)).sum ≤ mMax y := by
      have e1 : as.map (fun x => if x.1 = 1 then 2 else 1) = ((mTags y).reverse).map (fun t => if t = 1 then 2 else 1) := by
        rw [← htg, List.map_map]
        rfl
      rw [e1, List.map_reverse, List.sum_reverse]
      exact m9
    have hevok := ev_ok (d + 1) y as c v r c' v' ⟨n, hrn⟩ has hM hFu
    refine va_MetF (cc := mBytes y) (maxL := mMax y) (ret := mRT y) m5 rfl ?_
    intro p e s m args below meth cd s₁ Bd hml hv
    obtain ⟨rfl, hsz, hP, hK, hSt⟩ := hv
    have hx := Bd.exec
    have hb := Bd.bytes
    have hr := Bd.returns
    have hts := atoms_spec (ws := wsM y) Bd.pre
    have hts2 : ∀ w ∈ gT, w.before (as.map (cV B ad)).toArray s = true := fun w hw => hts w (List.mem_cons_of_mem _ hw)
    have hown : s.vm.findClass (cN (mOwn y)) = some m.cls := by rw [← m3]; exact findClass_of_methodNamed Bd.named
    have hlocks := Bd.notSynchronized
    have hin : meth.name = (mN y).name := (name_of_methodNamed Bd.named Bd.method).1
    rw [lg_entry_eq]
    have hS0 : va_S (fun q => B ≤ q) s.heap s.heap [] := va_S.rf
    have key := (snd_rn (B := B) (D := D) (dA := dA) (ad := ad) (d := d) (c0 := c) (cF := c') (vF := v') (rF := r) (ff := mFm y = 1) (xs := fun _ => 0) (Q := MQ below (QcM B D dA ad r c' v') (as.map (cV B ad)).toArray s (c' - c) (sl c' - sl c) (fun q => B ≤ q)) (R := (headSpec (wsM y) (rmD (d + 1) (c' - c) (sl c' - sl c))).room) (l := l) (e := e) (below := below) (meth := meth) hx hb hml hown hts2 hK hsz hSt (fun q => hin.trans (m8 q)) (by show d + 9 ≤ d + 1 + 8; omega) (by show 64 * d + 576 ≤ 64 * (d + 1) + 512; omega) (Nat.le_refl _) (Nat.le_refl _) (ev_ok d) ih (fun q => absurd q (by decide)) (fun i k rest H locs LS pc cells slots q1 q2 q3 q4 => str_ldc hx hb hown hSt i k rest H locs LS pc cells slots q1 q2 q3 q4) ?_ ?_ ?_ (fun pc ins len q => ⟨(code_ok hy q).2, (ins_ok q).2.1⟩) (by decide) (fun _ => by decide) (fun q => q) (fun q => Or.inl q) hrn ⟨Nat.le_refl c, okL_loc0 has, fun _ hm => absurd hm List.not_mem_nil, hM, hFu⟩).2 s.heap [] _ hP hS0 (LS_entry hsum)
    · rw [Nat.sub_self, Nat.sub_self] at key
      exact key
    · intro x H locs LS pc e1 e2 e3 qP qS
      subst e1
      have hq : ∀ t : State, t.heap = H → s.WarmedH t.vm → QcM B D dA ad (some (0, x)) c' v' (as.map (cV B ad)).toArray s (.returned (some (.int (Int32.ofInt x)))) t := fun t ht hW => ⟨rfl, by rw [ht]; exact qP, by rw [ht]; exact qS.1, fun q z1 z2 => by rw [ht]; exact qS.2.1 q z1 z2⟩
      rcases e2 with e2 | ⟨e2, e4⟩ | ⟨e2, e4⟩ | ⟨e2, e4⟩
      · rw [e2] at m10
        exact W.iret hx hb (hr.trans m10) hq (fun q hq => qS.2.2 q hq) e3
      · rw [e2] at m10
        exact W.zret hx hb (hr.trans m10) (by rcases e4 with rfl | rfl <;> rfl) hq (fun q hq => qS.2.2 q hq) e3
      · rw [e2] at m10
        exact W.zret hx hb (hr.trans m10) (nar_byte e4) hq (fun q hq => qS.2.2 q hq) e3
      · rw [e2] at m10
        exact W.zret hx hb (hr.trans m10) (nar_char e4) hq (fun q hq => qS.2.2 q hq) e3
    · intro x H locs LS pc e1 e2 e3 qP qS
      subst e1
      rw [e2] at m10
      exact W.lret hx hb (hr.trans m10) (fun t ht hW => ⟨rfl, by rw [ht]; exact qP, by rw [ht]; exact qS.1, fun q z1 z2 => by rw [ht]; exact qS.2.1 q z1 z2⟩) (fun q hq => qS.2.2 q hq) e3
    · intro H locs LS pc e1 e2 e3 qP qS
      subst e1
      rw [e2] at m10
      exact W.vret hx hb (hr.trans m10) (fun t ht hW => ⟨rfl, by rw [ht]; exact qP, by rw [ht]; exact qS.1, fun q z1 z2 => by rw [ht]; exact qS.2.1 q z1 z2⟩) (fun q hq => qS.2.2 q hq) e3
end SndEv
