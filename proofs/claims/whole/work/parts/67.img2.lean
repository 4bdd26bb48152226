section Img2
variable {d c : Nat}
/-- the images -/
def ImR (v : sF) (al : Int → Int) (B : Int) : Prop := ∀ i : Int, 0 ≤ i → i ≤ 1 → (v 165 i = 0 ∧ v 152 i = 0 ∧ v 153 i = 0) ∨ (v 165 i = 1 ∧ (v 152 i = 182 ∨ v 152 i = 200) ∧ v 153 i = v 152 i + 10 ∧ TolR v (v 152 i) (imgA al i) ∧ NowR v (v 153 i) (imgA al i) ∧ St (imgA al i) ∧ imgA al i 27 ≤ B)
def ImC (c : Nat) (v : sF) : Prop := (c = 181 ∧ v 165 0 = 0 ∧ v 165 1 = 0) ∨ (c = 199 ∧ ((v 165 0 = 1 ∧ v 165 1 = 0 ∧ v 152 0 = 182) ∨ (v 165 0 = 0 ∧ v 165 1 = 1 ∧ v 152 1 = 182))) ∨ (c = 217 ∧ v 165 0 = 1 ∧ v 165 1 = 1 ∧ v 152 0 ≠ v 152 1)
theorem ImR.off {S : List Int} {v v' : sF} {al al' : Int → Int} {B B' : Int} (h : ImR v al B) (ho : Off S v v') (hs : ∀ k ∈ S, k < 182 ∧ k ≠ 152 ∧ k ≠ 153 ∧ k ≠ 165) (ha : ∀ k : Int, (k < 0 ∨ 1754 ≤ k) → al' k = al k) (hB : B ≤ B') : ImR v' al' B' := fun i i0 i1 => by
  have e : ∀ k : Int, (182 ≤ k ∨ k = 152 ∨ k = 153 ∨ k = 165) → v' k = v k := fun k hk => ho k (fun z => by have := hs k z; omega)
  rw [e 165 (by omega), e 152 (by omega), e 153 (by omega), imgA_kK i0 ha]
  rcases h i i0 i1 with h | ⟨h1, h2, h3, h4, h5, h6, h7⟩
  · exact Or.inl h
  · exact Or.inr ⟨h1, h2, h3, h4.cong (fun k hk => e _ (by omega)), h5.cong (fun k k0 k1 => e _ (by omega)), h6, by omega⟩
theorem NT_im {a : Int} (h : a = 192 ∨ a = 210) : NT a := by
  rcases h with e | e <;> (subst e; unfold NT; decide)
theorem TT_im {a : Int} (h : a = 182 ∨ a = 200) : TT a := by
  rcases h with e | e
  · rw [e]; exact TT_182
  · rw [e]; exact TT_200
theorem X_restore {v : sF} {i : Int} {al al2 : Int → Int} {B : Int} (hS : St al) (hR : CR v 13 al) (hP : PsR v al B) (h27 : al 27 ≤ B) (hI : ImR v al B) (hv : (rsA (v 165 i) i ≠ 0 ∧ al2 = al) ∨ ((0 ≤ i ∧ i ≤ 1) ∧ v 165 i ≠ 0 ∧ rsR al i al2)) : ∃ v', Ev (d + 3) 158 [(2, 1), (0, i)] (c, v) (some (0, rsA (v 165 i) i)) (c, v') ∧ Off (58 :: (tOf 3 ++ nOf 13)) v v' ∧ CR v' 13 al2 ∧ PsR v' al2 B ∧ St al2 ∧ al2 27 ≤ B := by
  refine CI_of (loc158 i) (E158_0 i ?_)
  by_cases hi : 0 ≤ i ∧ i ≤ 1
  · refine brbI (fun z => absurd z (by omega)) (fun _ => brbI (fun _ => chkI (inbI (by omega) (by omega)) ?_) (fun z => absurd hi.2 (by omega)))
    rcases hI i hi.1 hi.2 with ⟨h1, h2, h3⟩ | ⟨h1, h2, h3, h4, h5, h6, h7⟩
    · have e : rsA (v 165 i) i = -5 := by unfold rsA; rw [if_pos hi, if_pos h1]
      rw [h2, e]
      rcases hv with ⟨_, q⟩ | ⟨_, q, _⟩
      · rw [q]
        exact brbI (fun _ => ⟨rfl, v, rfl, Off.rf _ v, hR, hP, hS, h27⟩) (fun z => absurd rfl z)
      · exact absurd h1 q
    · have e : rsA (v 165 i) i = 0 := by unfold rsA; rw [if_pos hi, if_neg (by omega)]
      rcases hv with ⟨q, _⟩ | ⟨_, _, hr⟩
      · exact absurd e q
      · rw [e, h3]
        rw [h3] at h5
        obtain ⟨v1, hE1, hO1, hT1, _⟩ := C_copyT (d := d) (c := c) (v := v) (a0 := 3) (a1 := v 152 i) TT_3 (TT_im h2) (by omega) h6.1 h4
        have e153 : v1 153 = v 153 := hO1 153 (fun z => by rw [tOf_mem] at z; omega)
        obtain ⟨v2, hE2, hO2, hN2⟩ := C_copy (d := d + 1) (c := c) (v := v1) (a0 := 13) (a1 := v 152 i + 10) (al := imgA al i) NT_13 (NT_im (by omega)) (by omega) h6.2.2.1.2 (h5.off hO1 (fun k k0 k1 z => by rw [tOf_mem] at z; omega))
        have hsn : ∀ k : Int, (k < 102 ∨ (854 ≤ k ∧ k < 1754)) → al2 k = imgA al i k := fun k hk => hr.1 k (by omega) (by omega)
        have hO : Off (58 :: (tOf 3 ++ nOf 13)) v (up v2 58 2 0) := ((hO1.wk (fun b hb => List.mem_cons_of_mem _ (List.mem_append_left _ hb))).tr (hO2.wk (fun b hb => List.mem_cons_of_mem _ (List.mem_append_right _ hb)))).up (List.mem_cons_self ..)
        have e58 : v2 58 = v 58 := (hO2 58 (fun z => by rw [nOf_mem] at z; omega)).trans (hO1 58 (fun z => by rw [tOf_mem] at z; omega))
        have ho58 : Off [58] v2 (up v2 58 2 0) := (Off.rf _ v2).up (by decide)
        refine brbI (fun z => absurd z (by omega)) (fun _ => chkI (inbI (by omega) (by omega)) (brbI (fun z => absurd z (by omega)) (fun _ => chkI (inbI (by omega) (by omega)) ⟨c, v1, hE1, chkI (inbI (by omega) (by omega)) ?_⟩)))
        rw [e153, h3]
        refine ⟨c, v2, hE2, rfl, _, rfl, hO, ⟨?_, ?_⟩, ⟨?_, ?_, ?_, fun j j0 j1 => ?_⟩, St_cgb hsn h6, ?_⟩
        · exact TolR_cg h6.1 (fun k hk => hsn k (by omega)) ((hT1.off hO2 (fun k hk z => by rw [nOf_mem] at z; omega)).off ho58 (fun k hk z => by simp at z; omega))
        · exact NowR_cg h6.2.2.1.2 (fun k k0 k1 => hsn k (by omega)) (hN2.off ho58 (fun k k0 k1 z => by simp at z; omega))
        · rw [up_same, hr.2.1]
        · rw [hr.2.1]; omega
        · rw [up_ne _ (by decide), e58]; exact hP.2.2.1
        · rw [hr.2.1] at j1; omega
        · rw [hsn 27 (by omega)]; exact h7
  · have e : rsA (v 165 i) i = -2 := by unfold rsA; rw [if_neg hi]
    rw [e]
    rcases hv with ⟨_, q⟩ | ⟨q, _⟩
    · rw [q]
      exact brbI (fun _ => ⟨rfl, v, rfl, Off.rf _ v, hR, hP, hS, h27⟩) (fun z => brbI (fun z2 => absurd ⟨by omega, by omega⟩ hi) (fun _ => ⟨rfl, v, rfl, Off.rf _ v, hR, hP, hS, h27⟩))
    · exact absurd q hi
end Img2
