/-! The model's small functions, and what a ship's fields become. -/
def RR (q i nb ns np T : Nat) (β σ : Nat → Nat) (ρ : Nat → Nat → Nat) (z : ew_Z3) (a s : ew_S) (m : ew_H) : Prop := RM q i nb ns np β σ ρ z a s m ∧ Iv q nb ns np T a ∧ GI m ∧ CC s
section
variable {J o : Nat} {z : ew_Z3} {a a' s s' : ew_S} {m m' : ew_H} {P : Nat → Nat → Nat → Prop} {c : Nat}
theorem rs.cell (h : rs J o z a s m) (x : Int32) : rs J o z (ew_u a 10 2 J x) (ew_u s 15 0 o x) m :=
  ⟨h.1, ⟨by rw [ew_u_self, ew_u_self], h.2.1.2⟩, h.2.2.1, h.2.2.2.1, h.2.2.2.2⟩
theorem rs.state (h : rs J o z a s m) (x : Int32) : rs J o z (ew_u a 10 7 J x) (ew_u s 15 4 o x) m :=
  ⟨h.1, ⟨h.2.1.1, h.2.1.2.1, h.2.1.2.2.1, h.2.1.2.2.2.1, by rw [ew_u_self, ew_u_self], h.2.1.2.2.2.2.2⟩, h.2.2.1, h.2.2.2.1, h.2.2.2.2⟩
theorem rs.brk (h : rs J o z a s m) (x : Int32) : rs J o z (ew_u a 10 8 J x) (ew_u s 15 5 o x) m :=
  ⟨h.1, ⟨h.2.1.1, h.2.1.2.1, h.2.1.2.2.1, h.2.1.2.2.2.1, h.2.1.2.2.2.2.1, by rw [ew_u_self, ew_u_self], h.2.1.2.2.2.2.2.2⟩, h.2.2.1, h.2.2.2.1, h.2.2.2.2⟩
theorem rs.arr (h : rs J o z a s m) (x : Int32) : rs J o z (ew_u a 10 11 J x) (ew_u s 15 8 o x) m :=
  ⟨h.1, ⟨h.2.1.1, h.2.1.2.1, h.2.1.2.2.1, h.2.1.2.2.2.1, h.2.1.2.2.2.2.1, h.2.1.2.2.2.2.2.1, by rw [ew_u_self, ew_u_self]⟩, h.2.2.1, h.2.2.2.1, h.2.2.2.2⟩
theorem ei_az (x y z : Int32) : x + y + z = x + z + y := by rw [Int32.add_assoc, Int32.add_comm y, ← Int32.add_assoc]
theorem rs.dam (h : rs J o z a s m) (x : Int32) : rs J o z (ew_u a 10 9 J (a 10 9 J + x)) (ew_u s 15 6 o (s 15 6 o + x)) m :=
  ⟨h.1, h.2.1, ⟨by rw [ew_u_self, ew_u_self, ei_az, h.2.2.1.1], h.2.2.1.2⟩, h.2.2.2.1, h.2.2.2.2⟩
theorem rs.dues (h : rs J o z a s m) (x : Int32) : rs J o z (ew_u a 10 10 J (a 10 10 J + x)) (ew_u s 15 7 o (s 15 7 o + x)) m :=
  ⟨h.1, h.2.1, ⟨h.2.2.1.1, by rw [ew_u_self, ew_u_self, ei_az, h.2.2.1.2]⟩, h.2.2.2.1, h.2.2.2.2⟩
theorem rs.wait (h : rs J o z a s m) {w : Nat} (hw : w < 5) (x : Int32) : rs J o z (ew_u a 177 w J (a 177 w J + x)) (ew_u s 369 w o (s 369 w o + x)) m := by
  refine ⟨h.1, h.2.1, h.2.2.1, fun w' hw' => ?_, h.2.2.2.2⟩
  by_cases e : w' = w
  · subst e
    rw [ew_u_self, ew_u_self, ei_az, h.2.2.2.1 w' hw']
  · rw [ew_u_ne _ _ (by omega), ew_u_ne _ _ (by omega)]
    exact h.2.2.2.1 w' hw'
theorem rs.route (h : rs J o z a s m) (e : Ex P c s m s' m') (n1 : ∀ p, ¬ P 15 p o) (n2 : ∀ p, ¬ P 369 p o) (e1 : ∀ p, a' 10 p J = a 10 p J) (e2 : ∀ p, a' 177 p J = a 177 p J) (hL : LR 130 o (a' 40 1 J).toNatClampNeg (fun r => ew_o 0 ((a' 593 r J).toNatClampNeg + 128)) s' m') : rs J o z a' s' m' := by
  obtain ⟨⟨h1, h1'⟩, h2, h3, h4, -⟩ := h
  have f : ∀ p, s' 15 p o = s 15 p o := fun p => (e.2.2.1 15 p o h1 (n1 p)).1
  refine ⟨⟨e.2.1 _ _ h1, e.2.1 _ _ h1'⟩, ?_, ?_, fun w hw => ?_, hL⟩
  · rw [f, f, f, f, f, f, f, e1, e1, e1, e1, e1, e1, e1]; exact h2
  · rw [f, f, e1, e1]; exact h3
  · rw [(e.2.2.1 369 w o h1' (n2 w)).1, e2]; exact h4 w hw
end
section
variable {d : Nat} {K : ew_R → ew_H → Prop} {q i nb ns np T : Nat} {β σ : Nat → Nat} {ρ : Nat → Nat → Nat} {z : ew_Z3} {a s : ew_S} {m : ew_H}
theorem xm_isIn (x l u : Int32) (k : K (.inl (some (ew_i (ef_in x l u)))) (ew_hp s m)) : ew_Call (d + 1) 136 [ew_i x, ew_i l, ew_i u] (ew_hp s m) K := by
  unfold ef_in at k
  refine ew_call (ew_go (fun _ => false) 40 ⟨fun c => ?_, fun c => ⟨fun e => ?_, fun e => ?_⟩⟩)
  · have c : x < l := c
    rw [if_neg (fun q => Int32.not_le.mpr c q.1)] at k
    exact ⟨Or.inl rfl, k⟩
  · have e : u < x := e
    rw [if_neg (fun q => Int32.not_le.mpr e q.2)] at k
    exact ⟨Or.inl rfl, k⟩
  · have c : ¬ x < l := c
    have e : ¬ u < x := e
    rw [if_pos ⟨Int32.not_lt.mp c, Int32.not_lt.mp e⟩] at k
    exact ⟨Or.inr rfl, k⟩
theorem xm_far (x y : Int32) (k : K (.inl (some (ew_i (ef_far x y)))) (ew_hp s m)) : ew_Call (d + 1) 138 [ew_i x, ew_i y] (ew_hp s m) K :=
  ew_call (ew_go (fun _ => false) 40 ⟨by decide, by decide, by decide, by decide, trivial, k⟩)
def ef_bs (x y w : Int32) : Int32 := if ef_in (x / 5 + y) 0 2 = 0 then -1 else if ef_in (x - x / 5 * 5 + w) 0 4 = 0 then -1 else (x / 5 + y) * 5 + (x - x / 5 * 5 + w)
theorem xl_beside (x y w v : Int32) (k : K (.inl (some (ew_i (ef_bs x y w)))) (ew_hp s m)) : ew_W (ew_Call (d + 1)) 137 K (47, [some (ew_i x), some (ew_i v), some (ew_i (x / 5 + y)), some (ew_i (x - x / 5 * 5 + w))], [], ew_hp s m) := by
  unfold ef_bs at k
  refine ew_go (fun _ => false) 40 (xm_isIn _ _ _ ⟨fun c => ?_, fun c => xm_isIn _ _ _ ⟨fun e => ?_, fun e => ?_⟩⟩)
  · have c : ef_in (x / 5 + y) 0 2 = 0 := c
    rw [if_pos c] at k
    exact ⟨trivial, k⟩
  · have c : ¬ ef_in (x / 5 + y) 0 2 = 0 := c
    have e : ef_in (x - x / 5 * 5 + w) 0 4 = 0 := e
    rw [if_neg c, if_pos e] at k
    exact ⟨trivial, k⟩
  · have c : ¬ ef_in (x / 5 + y) 0 2 = 0 := c
    have e : ¬ ef_in (x - x / 5 * 5 + w) 0 4 = 0 := e
    rw [if_neg c, if_neg e] at k
    exact ⟨trivial, k⟩
theorem ef_bs_nb : ∀ c, c < 15 → ef_bs (ei c) (-1) 0 = ef_nb c 0 ∧ ef_bs (ei c) 0 1 = ef_nb c 1 ∧ ef_bs (ei c) 1 0 = ef_nb c 2 ∧ ef_bs (ei c) 0 (-1) = ef_nb c 3 := by decide +kernel
theorem xm_beside (c : Nat) (hc : c < 15) {w : Int32} (hw : w = 0 ∨ w = 1 ∨ w = 2 ∨ w = 3) (k : K (.inl (some (ew_i (ef_nb c w)))) (ew_hp s m)) : ew_Call (d + 2) 137 [ew_i (ei c), ew_i w] (ew_hp s m) K := by
  obtain ⟨b0, b1, b2, b3⟩ := ef_bs_nb c hc
  rcases hw with rfl | rfl | rfl | rfl
  · rw [← b0] at k
    exact ew_call (ew_go (fun pc => Nat.beq pc 47) 60 ⟨by decide, fun c => absurd rfl c, fun _ => ⟨by decide, fun _ => ⟨fun _ => xl_beside (ei _) (-1) 0 0 k, fun c => absurd (show ¬ (0 : Int32) = 1 by decide) c⟩, fun c => absurd (show ¬ (0 : Int32) = 3 by decide) c⟩⟩)
  · rw [← b1] at k
    exact ew_call (ew_go (fun pc => Nat.beq pc 47) 60 ⟨by decide, fun _ => ⟨fun _ => ⟨by decide, fun _ => ⟨fun c => absurd rfl c, fun _ => xl_beside (ei _) 0 1 1 k⟩, fun c => absurd (show ¬ (1 : Int32) = 3 by decide) c⟩, fun c => absurd (show ¬ (1 : Int32) = 2 by decide) c⟩, fun c => absurd (show ¬ (1 : Int32) = 0 by decide) c⟩)
  · rw [← b2] at k
    exact ew_call (ew_go (fun pc => Nat.beq pc 47) 60 ⟨by decide, fun _ => ⟨fun c => absurd rfl c, fun _ => ⟨by decide, fun _ => ⟨fun _ => xl_beside (ei _) 1 0 2 k, fun c => absurd (show ¬ (2 : Int32) = 1 by decide) c⟩, fun c => absurd (show ¬ (2 : Int32) = 3 by decide) c⟩⟩, fun c => absurd (show ¬ (2 : Int32) = 0 by decide) c⟩)
  · rw [← b3] at k
    exact ew_call (ew_go (fun pc => Nat.beq pc 47) 60 ⟨by decide, fun _ => ⟨fun _ => ⟨by decide, fun c => absurd rfl c, fun _ => xl_beside (ei _) 0 (-1) 3 k⟩, fun c => absurd (show ¬ (3 : Int32) = 2 by decide) c⟩, fun c => absurd (show ¬ (3 : Int32) = 0 by decide) c⟩)
/-- worth, by the model -/
theorem xm_worth (hR : rc q i z a s m) {t : Nat} (ht : t < 15) (hc : iv_c (ea a (t + 15 * q))) (k : K (.inl (some (ew_i (sp_w q t a)))) (ew_hp s m)) : ew_Call (d + 1) 115 [ew_o 14 i, ew_i (ei t)] (ew_hp s m) K := by
  obtain ⟨e0, e1, e2, e3⟩ := hR.2.2.2 t ht
  obtain ⟨-, hl, -⟩ := hc
  have hn : (ei t).toNatClampNeg = t := ei_nat (by omega)
  have ix : ew_ix (ei t) 15 := ei_ix ht (by decide)
  unfold sp_w at k
  refine ew_call (ew_go (fun _ => false) 60 ⟨ix, fun c => ⟨ix, fun c2 => ⟨ix, ix, trivial, ?_⟩, fun c2 => ⟨ix, by decide, ix, trivial, ?_⟩⟩, fun c => ⟨trivial, ?_⟩⟩)
  · have c2 : s 337 (ei t).toNatClampNeg i ≤ 0 := c2
    rw [hn, e2] at c2
    rw [if_pos c2, ← e0, ← e1] at k
    show K (.inl (some (ew_i (s 273 (ei t).toNatClampNeg i + 5 * s 305 (ei t).toNatClampNeg i)))) (ew_hp s m)
    rw [hn]; exact k
  · have c2 : ¬ s 337 (ei t).toNatClampNeg i ≤ 0 := c2
    rw [hn, e2] at c2
    rw [if_neg c2, ← e0, ← e1] at k
    show K (.inl (some (ew_i (s 273 (ei t).toNatClampNeg i / 4 + 5 * s 305 (ei t).toNatClampNeg i)))) (ew_hp s m)
    rw [hn]; exact k
  · have c : ¬ s 50 (ei t).toNatClampNeg i = 0 := c
    rw [hn, e3] at c
    rcases hl with hl | ⟨-, l0, l1, l2⟩
    · exact absurd hl c
    · have l0 : a 4 0 (t + 15 * q) = 0 := l0
      have l1 : a 4 1 (t + 15 * q) = 0 := l1
      have l2 : a 4 2 (t + 15 * q) = 0 := l2
      rw [l0, l1, l2, if_pos (Int32.le_refl _)] at k
      exact k
theorem xm_isBeside (hR : rc q i z a s m) {t : Nat} (ht : t < 15) (x : Int32) (k1 : ef_far x (ei t) = 1 ∧ a 4 3 (t + 15 * q) = 0 → K (.inl (some (ew_i 1))) (ew_hp s m)) (k0 : ¬ (ef_far x (ei t) = 1 ∧ a 4 3 (t + 15 * q) = 0) → K (.inl (some (ew_i 0))) (ew_hp s m)) : ew_Call (d + 2) 116 [ew_o 14 i, ew_i x, ew_i (ei t)] (ew_hp s m) K := by
  obtain ⟨e0, e1, e2, e3⟩ := hR.2.2.2 t ht
  have hn : (ei t).toNatClampNeg = t := ei_nat (by omega)
  have ix : ew_ix (ei t) 15 := ei_ix ht (by decide)
  refine ew_call (ew_go (fun _ => false) 60 (xm_far _ _ ⟨fun c => ⟨Or.inl rfl, k0 (fun w => c w.1)⟩, fun c => ⟨ix, fun e => ⟨Or.inl rfl, k0 (fun w => ?_)⟩, fun e => ⟨Or.inr rfl, k1 ⟨Classical.not_not.mp c, ?_⟩⟩⟩⟩))
  · have e : ¬ s 50 (ei t).toNatClampNeg i = 0 := e
    rw [hn, e3] at e
    exact e w.2
  · have e : ¬ ¬ s 50 (ei t).toNatClampNeg i = 0 := e
    rw [hn, e3] at e
    exact Classical.not_not.mp e
theorem xm_bears (hC : CC s) {o r : Nat} (hr : r ≤ 4) (e : s 15 1 o = ei r) (k : K (.inl (some (ew_i (ef_bears (ei r))))) (ew_hp s m)) : ew_Call (d + 1) 133 [ew_o 15 o] (ew_hp s m) K := by
  refine ew_call (ew_go (fun _ => false) 40 ⟨?_, trivial, ?_⟩)
  · show ew_ix (s 15 1 o) 5
    rw [e]; exact ei_ix (by omega) (by decide)
  · show K (.inl (some (ew_i (s 49 (s 15 1 o).toNatClampNeg 0)))) (ew_hp s m)
    rw [e, ei_nat (by omega), hC.2 r (by omega)]; exact k
theorem xm_why (hR : rc q i z a s m) (hC : CC s) {t o r : Nat} (ht : t < 15) (hc : iv_c (ea a (t + 15 * q))) (hr : r ≤ 4) (e1 : s 15 1 o = ei r) {w p b e : Int32} (e2 : s 15 2 o = p) (hw : w = ef_bears (ei r)) {x : Int32} (hx : x = ei t) (hb : b = 0 ↔ ¬ e = 0) (k : K (.inl (some (ew_i (ef_hind e (sp_w q t a) p w)))) (ew_hp s m)) : ew_Call (d + 2) 121 [ew_o 14 i, ew_o 15 o, ew_i x, ew_i b] (ew_hp s m) K := by
  subst hx; subst hw; subst e2
  unfold ef_hind at k
  have tail : ¬ (¬ e = 0 ∧ ¬ sp_w q t a ≤ 10 * s 15 2 o) → ew_W (ew_Call (d + 1)) 121 K (21, [some (ew_o 14 i), some (ew_o 15 o), some (ew_i (ei t)), some (ew_i b)], [], ew_hp s m) := by
    intro n
    rw [if_neg n] at k
    refine ew_go (fun _ => false) 60 (xm_worth hR ht hc (xm_bears hC hr e1 ⟨fun c => ?_, fun c => ?_⟩))
    · have c : sp_w q t a ≤ ef_bears (ei r) := c
      rw [if_pos c] at k
      exact ⟨trivial, k⟩
    · have c : ¬ sp_w q t a ≤ ef_bears (ei r) := c
      rw [if_neg c] at k
      exact ⟨trivial, k⟩
  refine ew_call (ew_go (fun pc => Nat.beq pc 21) 60 ⟨fun c => tail (fun n => c (hb.mpr n.1)), fun c => xm_worth hR ht hc ⟨fun c2 => tail (fun n => n.2 c2), fun c2 => ⟨trivial, ?_⟩⟩⟩)
  rw [if_pos ⟨hb.mp (Classical.not_not.mp c), c2⟩] at k
  exact k
theorem xm_free (o : Nat) (k : K (.inl none) (ew_hp (ew_u (ew_u s 15 4 o 0) 15 5 o (-1)) m)) : ew_Call (d + 1) 134 [ew_o 15 o] (ew_hp s m) K :=
  ew_call (ew_go (fun _ => false) 40 ⟨trivial, trivial, trivial, ek_2 rfl rfl k⟩)
theorem xm_intValueE (x : Nat) {y : Int32} (hy : s 0 0 x = y) (g : K (.inl (some (ew_i y))) (ew_hp s m)) : ew_Call (d + 1) 187 [ew_o 0 x] (ew_hp s m) K := by
  subst hy; exact xm_intValue x g
end
