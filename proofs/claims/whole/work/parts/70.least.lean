/-! The model's ways. -/
section
variable {d : Nat} {K : ew_R → ew_H → Prop} {q i nb ns np T : Nat} {β σ : Nat → Nat} {ρ : Nat → Nat → Nat} {z : ew_Z3} {a s : ew_S} {m : ew_H}
/-- what of a ship its ways need -/
def rw3 (J o : Nat) (a s : ew_S) : Prop := s 15 2 o = a 10 5 J ∧ ∃ r, r ≤ 4 ∧ s 15 1 o = ei r ∧ a 10 4 J = ef_bears (ei r)
theorem RR.w3 (h : RR q i nb ns np T β σ ρ z a s m) {j : Nat} (hj : j < ns) : rw3 (j + 5 * q) (σ j) a s := by
  have hs := h.1.2.2.2.2.2.1 j hj
  obtain ⟨-, -, -, ⟨r, hr, h2, h3⟩, -⟩ := h.2.1.2.2.2.2.1 j hj
  exact ⟨hs.2.1.2.2.1, r, hr, hs.2.1.2.1.trans h2, h3⟩
theorem xm_canEnter (hR : rc q i z a s m) (hC : CC s) {J o t : Nat} (h3 : rw3 J o a s) (ht : t < 15) (hc : iv_c (ea a (t + 15 * q))) (k1 : sp_ce q J t a → K (.inl (some (ew_i 1))) (ew_hp s m)) (k0 : ¬ sp_ce q J t a → K (.inl (some (ew_i 0))) (ew_hp s m)) : ew_Call (d + 3) 125 [ew_o 14 i, ew_o 15 o, ew_i (ei t)] (ew_hp s m) K := by
  obtain ⟨e2, r, hr, e1, eb⟩ := h3
  have htn : (ei t).toNatClampNeg = t := ei_nat (by omega)
  have ix : ew_ix (ei t) 15 := ei_ix ht (by decide)
  have e3 : s 50 t i = a 4 3 (t + 15 * q) := (hR.2.2.2 t ht).2.2.2
  have e3' : s 50 (ei t).toNatClampNeg i = a 4 3 (t + 15 * q) := by rw [htn]; exact e3
  refine ew_call (ew_go (fun _ => false) 60 ⟨ix, fun c => ⟨Or.inl rfl, k0 (fun w => (show ¬ s 50 (ei t).toNatClampNeg i = 0 from c) (e3'.trans w.1))⟩, fun c => xm_why (e := 1) hR hC ht hc hr e1 e2 eb rfl ⟨fun _ => by decide, fun _ => rfl⟩ ⟨fun e => ⟨Or.inl rfl, k0 (fun w => (show ¬ ef_hind 1 (sp_w q t a) (a 10 5 J) (a 10 4 J) = -1 from e) w.2)⟩, fun e => ⟨Or.inr rfl, k1 ⟨?_, Classical.not_not.mp e⟩⟩⟩⟩)
  have c : s 50 (ei t).toNatClampNeg i = 0 := Classical.not_not.mp c
  rw [e3'] at c; exact c
theorem xm_costs (hR : rc q i z a s m) (hC : CC s) {J o t : Nat} (h3 : rw3 J o a s) (ht : t < 15) (hc : iv_c (ea a (t + 15 * q))) (k : K (.inl (some (ew_i (d_z (sp_pb q J a t))))) (ew_hp s m)) : ew_Call (d + 4) 126 [ew_o 14 i, ew_o 15 o, ew_i (ei t)] (ew_hp s m) K := by
  have h3' := h3
  obtain ⟨e2, r, hr, e1, eb⟩ := h3
  have htn : (ei t).toNatClampNeg = t := ei_nat (by omega)
  have ix : ew_ix (ei t) 15 := ei_ix ht (by decide)
  obtain ⟨y0, y1, y2, y3⟩ := hR.2.2.2 t ht
  have y0' : s 273 (ei t).toNatClampNeg i = a 4 0 (t + 15 * q) := by rw [htn]; exact y0
  have y1' : s 305 (ei t).toNatClampNeg i = a 4 1 (t + 15 * q) := by rw [htn]; exact y1
  have y2' : s 337 (ei t).toNatClampNeg i = a 4 2 (t + 15 * q) := by rw [htn]; exact y2
  have y3' : s 50 (ei t).toNatClampNeg i = a 4 3 (t + 15 * q) := by rw [htn]; exact y3
  have kn : ¬ sp_ce q J t a → ¬ sp_hc q J t a → K (.inl (some (ew_i (-1)))) (ew_hp s m) := fun h1 h2 => by
    rw [sp_pb2 h1 h2] at k; exact k
  have tail : ¬ sp_ce q J t a → a 4 3 (t + 15 * q) = 0 → ew_W (ew_Call (d + 3)) 126 K (39, [some (ew_o 14 i), some (ew_o 15 o), some (ew_i (ei t)), none], [ew_i (a 4 0 (t + 15 * q) / 4 + 5 * a 4 1 (t + 15 * q))], ew_hp s m) := by
    intro hce hl
    have hp : ∀ w, ef_hind 1 w (a 10 5 J) (a 10 4 J) = -1 ↔ w ≤ 10 * a 10 5 J ∧ w ≤ a 10 4 J := fun w => by
      unfold ef_hind
      by_cases h1 : w ≤ 10 * a 10 5 J
      · rw [if_neg (fun x => x.2 h1)]
        by_cases h2 : w ≤ a 10 4 J
        · rw [if_pos h2]; exact ⟨fun _ => ⟨h1, h2⟩, fun _ => rfl⟩
        · rw [if_neg h2]; exact ⟨fun x => absurd x (by decide), fun x => absurd x.2 h2⟩
      · rw [if_pos ⟨by decide, h1⟩]; exact ⟨fun x => absurd x (by decide), fun x => absurd x.1 h1⟩
    refine ew_go (fun _ => false) 60 ⟨ix, fun c1 => ⟨trivial, kn hce (fun w => hce ?_)⟩, fun c1 => xm_bears hC hr e1 ⟨fun c2 => ⟨trivial, kn hce (fun w => ?_)⟩, fun c2 => ⟨fun c3 => ⟨trivial, kn hce (fun w => ?_)⟩, fun c3 => ⟨trivial, ?_⟩⟩⟩⟩
    · have c1 : ¬ s 337 (ei t).toNatClampNeg i = 0 := c1
      rw [y2'] at c1
      refine ⟨hl, ?_⟩
      have hpos : ¬ a 4 2 (t + 15 * q) ≤ 0 := fun y => c1 (Int32.le_antisymm y hc.1)
      unfold sp_w
      rw [if_neg hpos]; exact w.2
    · have c2 : ef_bears (ei r) < a 4 0 (t + 15 * q) / 4 + 5 * a 4 1 (t + 15 * q) := c2
      rw [← eb] at c2
      exact Int32.not_le.mpr c2 ((hp _).mp w.2).2
    · have c3 : 10 * s 15 2 o < a 4 0 (t + 15 * q) / 4 + 5 * a 4 1 (t + 15 * q) := c3
      rw [e2] at c3
      exact Int32.not_le.mpr c3 ((hp _).mp w.2).1
    · have c2 : ¬ ef_bears (ei r) < a 4 0 (t + 15 * q) / 4 + 5 * a 4 1 (t + 15 * q) := c2
      have c3 : ¬ 10 * s 15 2 o < a 4 0 (t + 15 * q) / 4 + 5 * a 4 1 (t + 15 * q) := c3
      rw [← eb] at c2
      rw [e2] at c3
      rw [sp_pb1 hce ⟨hl, (hp _).mpr ⟨Int32.not_lt.mp c3, Int32.not_lt.mp c2⟩⟩] at k
      exact k
  refine ew_call (ew_go (fun pc => Nat.beq pc 39) 60 ⟨ix, fun c => xm_canEnter hR hC h3' ht hc (fun w => ⟨fun e => absurd e (show ¬ (1 : Int32) = 0 by decide), fun _ => ⟨trivial, ?_⟩⟩) (fun w => ⟨fun _ => ⟨ix, by decide, ix, ?_⟩, fun e => absurd rfl e⟩), fun c => ⟨trivial, kn (fun w => ?_) (fun w => ?_)⟩⟩)
  · rw [sp_pb0 w] at k; exact k
  · have c : s 50 (ei t).toNatClampNeg i = 0 := c
    rw [y3'] at c
    have := tail w c
    rw [← y0', ← y1'] at this
    exact this
  · exact (show ¬ s 50 (ei t).toNatClampNeg i = 0 from c) (y3'.trans w.1)
  · exact (show ¬ s 50 (ei t).toNatClampNeg i = 0 from c) (y3'.trans w.1)
/-- the best so far: B, 1000 for none; N pushes so far -/
def d_B (g N : Nat) (B : Nat → Nat) (s : ew_S) : Prop := ∀ c, c < 15 → s 465 c g = (if B c = 1000 then -1 else ei (B c)) ∧ (B c ≤ N ∨ B c = 1000)
def d_P (pr : Nat → Nat) (fr k x y : Nat) (B : Nat → Nat) : Prop := ∀ c t w, c < 15 → t < 15 → w < 4 → ¬ pr c = 2 → ef_nb t (ei w) = ei c → (t < x ∨ (t = x ∧ w < y)) → B c ≤ d_D pr fr k t + pr c
theorem ef_op4 : ∀ w, w < 4 → ∃ v, v < 4 ∧ ef_op (ei w) = ei v := by
  intro w hw
  have : w = 0 ∨ w = 1 ∨ w = 2 ∨ w = 3 := by omega
  rcases this with rfl | rfl | rfl | rfl
  · exact ⟨2, by decide, rfl⟩
  · exact ⟨3, by decide, rfl⟩
  · exact ⟨0, by decide, rfl⟩
  · exact ⟨1, by decide, rfl⟩
theorem d_round {pr : Nat → Nat} {fr k : Nat} {B : Nat → Nat} (h : d_I pr fr k B) (hP : d_P pr fr k 15 0 B) : d_I pr fr (k + 1) B := fun c hc => by
  refine ⟨(h c hc).1, ?_⟩
  show B c ≤ (if pr c = 2 then d_D pr fr k c else Nat.min (d_D pr fr k c) (d_m (d_D pr fr k) c + pr c))
  by_cases hp : pr c = 2
  · rw [if_pos hp]; exact (h c hc).2
  · rw [if_neg hp]
    refine Nat.le_min.mpr ⟨(h c hc).2, ?_⟩
    rcases d_m_or (d_D pr fr k) hc with e | ⟨w, t, hw, ht, e, e2⟩
    · rw [e]
      have := (h c hc).2
      have := d_D_1000 (pr := pr) (fr := fr) k c
      omega
    · rw [e2]
      obtain ⟨v, hv, ev⟩ := ef_op4 w hw
      have := (ef_nb_op ht hc (ei w)).mp e
      rw [ev] at this
      exact hP c t v hc ht hv hp this (Or.inl ht)
theorem d_push {pr : Nat → Nat} {fr k x y t : Nat} {B : Nat → Nat} (h : d_I pr fr k B) (hP : d_P pr fr k x y B) (hx : x < 15) (hy : y < 4) (ht : t < 15) (hp : ¬ pr t = 2) (e : ef_nb x (ei y) = ei t) (hlt : B x + pr t ≤ B t) : d_I pr fr k (fun c => if c = t then B x + pr t else B c) ∧ d_P pr fr k x (y + 1) (fun c => if c = t then B x + pr t else B c) := by
  obtain ⟨v, hv, ev⟩ := ef_op4 y hy
  have e' := (ef_nb_op ht hx (ei y)).mp e
  rw [ev] at e'
  refine ⟨fun c hc => ?_, fun c t' w hc ht' hw hpc en hor => ?_⟩
  · dsimp only
    by_cases ec : c = t
    · subst ec
      rw [if_pos rfl]
      exact ⟨Nat.le_trans (d_low hc hx hv hp e') (Nat.add_le_add_right (h x hx).1 _), Nat.le_trans hlt (h c hc).2⟩
    · rw [if_neg ec]; exact h c hc
  · dsimp only
    have old : (t' < x ∨ (t' = x ∧ w < y)) → (if c = t then B x + pr t else B c) ≤ d_D pr fr k t' + pr c := fun o => by
      have := hP c t' w hc ht' hw hpc en o
      split
      · rename_i ec; subst ec; omega
      · exact this
    rcases hor with o | ⟨rfl, o⟩
    · exact old (Or.inl o)
    · by_cases o2 : w < y
      · exact old (Or.inr ⟨rfl, o2⟩)
      · obtain rfl : w = y := by omega
        have ec : c = t := (ei_inj (by omega) (by omega)).mp (en.symm.trans e)
        rw [if_pos ec, ec]
        exact Nat.add_le_add_right (h t' ht').2 _
theorem d_skip {pr : Nat → Nat} {fr k x y : Nat} {B : Nat → Nat} (hP : d_P pr fr k x y B) (hs : ∀ t, t < 15 → ¬ pr t = 2 → ef_nb x (ei y) = ei t → B t ≤ d_D pr fr k x + pr t) : d_P pr fr k x (y + 1) B := fun c t w hc ht hw hpc en hor => by
  rcases hor with o | ⟨rfl, o⟩
  · exact hP c t w hc ht hw hpc en (Or.inl o)
  · by_cases o2 : w < y
    · exact hP c t w hc ht hw hpc en (Or.inr ⟨rfl, o2⟩)
    · obtain rfl : w = y := by omega
      exact hs c hc hpc en
abbrev Pe (g : Nat) : Nat → Nat → Nat → Prop := fun k _ o => k = 465 ∧ o = g
end
