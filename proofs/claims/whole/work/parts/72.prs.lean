section Prs
variable {n c : Nat}
theorem pr_lies {v : sF} {p x k : Int} (h : Rl0 n c v) : Pr 120 n c v 129 [(2, 1), (0, p), (0, x), (0, k)] 247 [(2, 163), (0, p), (0, x), (0, k)] := Pr_q h (X_lies (d := 111) h.2.1 h.1) (fun v1 ho e hi h1 => by
  obtain ⟨v2, hE, hq⟩ := M_lies (d := 111) (c := c) (v := v1) h1.2.1 hi
  rw [e] at hE
  exact ⟨v2, hE, hq.n⟩)
theorem pr_comes {v : sF} {p x : Int} (h : Rl0 n c v) : Pr 120 n c v 130 [(2, 1), (0, p), (0, x)] 250 [(2, 163), (0, p), (0, x)] := Pr_q h (X_comes (d := 111) h.2.1 h.1) (fun v1 ho e hi h1 => by
  obtain ⟨v2, hE, hq⟩ := M_comes (d := 111) (c := c) (v := v1) h1.2.1 hi
  rw [e] at hE
  exact ⟨v2, hE, hq.n⟩)
theorem pr_sources {v : sF} {p : Int} (h : Rl0 n c v) : Pr 120 n c v 133 [(2, 1), (0, p)] 257 [(2, 163), (0, p)] := Pr_q h (X_sources (d := 111) h.2.1 h.1) (fun v1 ho e hi h1 => by
  obtain ⟨v2, hE, hq⟩ := M_sources (d := 111) (c := c) (v := v1) h1.2.1 hi
  rw [e] at hE
  exact ⟨v2, hE, hq.n⟩)
theorem pr_soonest {v : sF} {p : Int} (h : Rl0 n c v) : Pr 120 n c v 134 [(2, 1), (0, p)] 258 [(2, 163), (0, p)] := Pr_q h (X_soonest (d := 111) h.2.1 h.1) (fun v1 ho e hi h1 => by
  obtain ⟨v2, hE, hq⟩ := M_soonest (d := 111) (c := c) (v := v1) h1.2.1 hi
  rw [e] at hE
  exact ⟨v2, hE, hq.n⟩)
theorem pr_offices {v : sF} {p : Int} (h : Rl0 n c v) : Pr 120 n c v 136 [(2, 1), (0, p)] 260 [(2, 163), (0, p)] := Pr_q h (X_offices (d := 111) h.2.1 h.1) (fun v1 ho e hi h1 => by
  obtain ⟨v2, hE, hq⟩ := M_offices (d := 111) (c := c) (v := v1) h1.2.1 hi
  rw [e] at hE
  exact ⟨v2, hE, hq.n⟩)
theorem pr_needed {v : sF} {p x : Int} (h : Rl0 n c v) : Pr 120 n c v 137 [(2, 1), (0, p), (0, x)] 261 [(2, 163), (0, p), (0, x)] := Pr_q h (X_needed (d := 111) h.2.1 h.1) (fun v1 ho e hi h1 => by
  obtain ⟨v2, hE, hq⟩ := M_needed (d := 111) (c := c) (v := v1) h1.2.1 hi
  rw [e] at hE
  exact ⟨v2, hE, hq.n⟩)
theorem pr_rings {v : sF} {p : Int} (h : Rl0 n c v) : Pr 120 n c v 135 [(2, 1), (0, p)] 259 [(2, 163), (0, p)] := Pr_q h (X_rings (d := 111) h.2.1 h.1) (fun v1 ho e hi h1 => by
  obtain ⟨v2, hE, hq⟩ := M_rings (d := 111) (c := c) (v := v1) h1.2.1 hi
  rw [e] at hE
  exact ⟨v2, hE, hq.n⟩)
theorem pr_found {v : sF} {p : Int} (h : Rl0 n c v) : Pr 120 n c v 140 [(2, 1), (0, p)] 269 [(2, 163), (0, p)] := Pr_q h (X_found (d := 111) h.2.1 h.1) (fun v1 ho e hi h1 => by
  obtain ⟨v2, hE, hq⟩ := M_found (d := 111) (c := c) (v := v1) h1.2.1 hi
  rw [e] at hE
  exact ⟨v2, hE, hq.n⟩)
theorem pr_hides {v : sF} {p : Int} (h : Rl0 n c v) : Pr 120 n c v 141 [(2, 1), (0, p)] 270 [(2, 163), (0, p)] := Pr_q h (X_hides (d := 111) h.2.1 h.1) (fun v1 ho e hi h1 => by
  obtain ⟨v2, hE, hq⟩ := M_hides (d := 111) (c := c) (v := v1) h1.2.1 hi
  rw [e] at hE
  exact ⟨v2, hE, hq.n⟩)
theorem pr_likely {v : sF} {p x k : Int} (h : Rl0 n c v) : Pr 120 n c v 152 [(2, 1), (0, p), (0, x), (0, k)] 287 [(2, 163), (0, p), (0, x), (0, k)] := Pr_q h (X_likely (d := 111) h.2.1 h.1) (fun v1 ho e hi h1 => by
  obtain ⟨v2, hE, hq⟩ := M_likely (d := 111) (c := c) (v := v1) h1.2.1 hi
  rw [e] at hE
  exact ⟨v2, hE, hq.n⟩)
theorem pr_surest {v : sF} {p k : Int} (h : Rl0 n c v) : Pr 120 n c v 153 [(2, 1), (0, p), (0, k)] 288 [(2, 163), (0, p), (0, k)] := Pr_q h (X_surest (d := 111) h.2.1 h.1) (fun v1 ho e hi h1 => by
  obtain ⟨v2, hE, hq⟩ := M_surest (d := 111) (c := c) (v := v1) h1.2.1 hi
  rw [e] at hE
  exact ⟨v2, hE, hq.n⟩)
theorem pr_meet {v : sF} {p x q y : Int} (h : Rl0 n c v) : Pr 120 n c v 149 [(2, 1), (0, p), (0, x), (0, q), (0, y)] 280 [(2, 163), (0, p), (0, x), (0, q), (0, y)] := Pr_q h (X_meet (d := 111) h.2.1 h.1) (fun v1 ho e hi h1 => by
  obtain ⟨v2, hE, hq⟩ := M_meet (d := 111) (c := c) (v := v1) h1.2.1 hi
  rw [e] at hE
  exact ⟨v2, hE, hq.n⟩)
theorem pr_hub {v : sF} (h : Rl0 n c v) : Pr 120 n c v 150 [(2, 1)] 281 [(2, 163)] := Pr_q h (X_hub (d := 111) h.2.1 h.1) (fun v1 ho e hi h1 => by
  obtain ⟨v2, hE, hq⟩ := M_hub (d := 111) (c := c) (v := v1) h1.2.1 hi
  rw [e] at hE
  exact ⟨v2, hE, hq.n⟩)
theorem pr_chance {v : sF} {p x k w : Int} (h : Rl0 n c v) : Prt 1 120 n c v 151 [(2, 1), (0, p), (0, x), (0, k), (0, w)] 286 [(2, 163), (0, p), (0, x), (0, k), (0, w)] := Pr_q h (X_chance (d := 111) h.2.1 h.1) (fun v1 ho e hi h1 => by
  obtain ⟨v2, hE, hq⟩ := M_chance (d := 10) (c := c) (v := v1) h1.2.1 hi
  rw [e] at hE
  exact ⟨v2, hE, hq.n⟩)
theorem pr_person {v : sF} {p w : Int} (h : Rl0 n c v) : Pr 120 n c v 112 [(2, 1), (0, p), (0, w)] 212 [(2, 163), (0, p), (0, w)] := Pr_q h (X_person (d := 111) h.2.1 h.1) (fun v1 ho e hi h1 => by
  obtain ⟨v2, hE, hq⟩ := M_person (d := 111) (c := c) (v := v1) h1.2.1
  rw [e] at hE
  exact ⟨v2, hE, hq.n⟩)
theorem pr_cares {v : sF} {p q : Int} (h : Rl0 n c v) : Pr 120 n c v 113 [(2, 1), (0, p), (0, q)] 214 [(2, 163), (0, p), (0, q)] := Pr_q h (X_cares (d := 111) h.2.1 h.1) (fun v1 ho e hi h1 => by
  obtain ⟨v2, hE, hq⟩ := M_cares (d := 111) (c := c) (v := v1) h1.2.1
  rw [e] at hE
  exact ⟨v2, hE, hq.n⟩)
theorem pr_minds {v : sF} {p q : Int} (h : Rl0 n c v) : Pr 120 n c v 114 [(2, 1), (0, p), (0, q)] 215 [(2, 163), (0, p), (0, q)] := Pr_q h (X_minds (d := 111) h.2.1 h.1) (fun v1 ho e hi h1 => by
  obtain ⟨v2, hE, hq⟩ := M_minds (d := 111) (c := c) (v := v1) h1.2.1
  rw [e] at hE
  exact ⟨v2, hE, hq.n⟩)
theorem pr_would {v : sF} {p q : Int} (h : Rl0 n c v) : Pr 120 n c v 115 [(2, 1), (0, p), (0, q)] 216 [(2, 163), (0, p), (0, q)] := Pr_q h (X_would (d := 111) h.2.1 h.1) (fun v1 ho e hi h1 => by
  obtain ⟨v2, hE, hq⟩ := M_would (d := 111) (c := c) (v := v1) h1.2.1
  rw [e] at hE
  exact ⟨v2, hE, hq.n⟩)
theorem pr_seen {v : sF} {t p x : Int} (h : Rl0 n c v) : Pr 120 n c v 143 [(2, 1), (0, t), (0, p), (0, x)] 275 [(2, 163), (0, t), (0, p), (0, x)] := Pr_q h (X_seen (d := 111) h.2.1 h.1 h.2.2.2.2.2.2.1) (fun v1 ho e hi h1 => by
  obtain ⟨v2, hE, hq⟩ := M_seen (d := 111) (c := c) (v := v1) h1.2.1 hi h1.2.2.2.2.2.2.1
  rw [e] at hE
  unfold q_seen1 at hE ⊢
  unfold tsz tnm at hE ⊢
  rw [ho 179 (by decide), ho 180 (by decide), ho 181 (by decide)] at hE
  exact ⟨v2, hE, hq.n⟩)
theorem pr_heart {v : sF} {t p x q : Int} (h : Rl0 n c v) : Pr 120 n c v 146 [(2, 1), (0, t), (0, p), (0, x), (0, q)] 278 [(2, 163), (0, t), (0, p), (0, x), (0, q)] := Pr_q h (X_heart (d := 111) h.2.1 h.1 h.2.2.2.2.2.2.1) (fun v1 ho e hi h1 => by
  obtain ⟨v2, hE, hq⟩ := M_heart (d := 111) (c := c) (v := v1) h1.2.1 hi h1.2.2.2.2.2.2.1
  rw [e] at hE
  unfold q_heart1 at hE ⊢
  unfold tsz tnm at hE ⊢
  rw [ho 179 (by decide), ho 180 (by decide), ho 181 (by decide)] at hE
  exact ⟨v2, hE, hq.n⟩)
theorem pr_suspects {v : sF} {t p x : Int} (h : Rl0 n c v) : Pr 120 n c v 147 [(2, 1), (0, t), (0, p), (0, x)] 279 [(2, 163), (0, t), (0, p), (0, x)] := Pr_q h (X_suspects (d := 111) h.2.1 h.1 h.2.2.2.2.2.2.1) (fun v1 ho e hi h1 => by
  obtain ⟨v2, hE, hq⟩ := M_suspects (d := 111) (c := c) (v := v1) h1.2.1 hi h1.2.2.2.2.2.2.1
  rw [e] at hE
  unfold q_sus1 at hE ⊢
  unfold tsz tnm at hE ⊢
  rw [ho 179 (by decide), ho 180 (by decide), ho 181 (by decide)] at hE
  exact ⟨v2, hE, hq.n⟩)
theorem pr_probe {v : sF} {t p x k : Int} (h : Rl0 n c v) : Pr 120 n c v 144 [(2, 1), (0, t), (0, p), (0, x), (0, k)] 276 [(2, 163), (0, t), (0, p), (0, x), (0, k)] := Pr_q h (X_probe (d := 111) h.2.1 h.1 h.2.2.2.2.2.2.1) (fun v1 ho e hi h1 => by
  obtain ⟨v2, hE, hq⟩ := M_probe (d := 111) (c := c) (v := v1) h1.2.1 hi h1.2.2.2.2.2.2.1
  rw [e] at hE
  unfold q_probe1 at hE ⊢
  unfold tsz tnm at hE ⊢
  rw [ho 179 (by decide), ho 180 (by decide), ho 181 (by decide)] at hE
  exact ⟨v2, hE, hq.n⟩)
end Prs
