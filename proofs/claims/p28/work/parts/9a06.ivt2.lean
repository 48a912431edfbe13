/-! What is told: bounds, further. -/
theorem iv_s.mono {nb nb' np np' : Nat} {f : Nat → Nat → Int32} (h : iv_s nb np f) (h1 : nb ≤ nb') (h2 : np ≤ np') : iv_s nb' np' f := by
  obtain ⟨k1, k2, ⟨p, hp, k3⟩, k4, k5⟩ := h
  refine ⟨k1, k2, ⟨p, by omega, k3⟩, k4, ?_⟩
  rcases k5 with k5 | k5 | ⟨k5, b, hb, k6⟩
  · exact Or.inl k5
  · exact Or.inr (Or.inl k5)
  · exact Or.inr (Or.inr ⟨k5, b, by omega, k6⟩)
def Ppo : Nat → Nat → Nat → Prop := fun k _ _ => k = 6 ∨ k = 18 ∨ k = 81 ∨ k = 113
section
variable {nb ns np T : Nat} {a a' : ew_S}
theorem Iv.ports (h : Iv 0 nb ns np T a) (F : Fr Ppo a a') (k : ∀ p, p < np → iv_p (ea a' p)) : Iv 0 nb ns np T a' := by
  obtain ⟨hA, ⟨b1, b2, b3⟩, hc, hb, hs, hp, ht⟩ := h
  have nf : ∀ {k p i : Nat}, k ≠ 6 → k ≠ 18 → k ≠ 81 → k ≠ 113 → a' k p i = a k p i := fun h1 h2 h3 h4 => F _ _ _ (fun w => by unfold Ppo at w; omega)
  exact ⟨hA, ⟨(nf (by decide) (by decide) (by decide) (by decide)).trans b1, (nf (by decide) (by decide) (by decide) (by decide)).trans b2, (nf (by decide) (by decide) (by decide) (by decide)).trans b3⟩, fun d z => (hc d z).to (fun p => nf (by decide) (by decide) (by decide) (by decide)), fun d z => (hb d z).to (fun p => nf (by decide) (by decide) (by decide) (by decide)) (fun p => nf (by decide) (by decide) (by decide) (by decide)) (fun p => nf (by decide) (by decide) (by decide) (by decide)), fun d z => (hs d z).to (fun p => nf (by decide) (by decide) (by decide) (by decide)) (fun p => nf (by decide) (by decide) (by decide) (by decide)) (fun p => nf (by decide) (by decide) (by decide) (by decide)), k, ht.to (fun i => nf (by decide) (by decide) (by decide) (by decide))⟩
theorem iv_port (h : Iv 0 nb ns np T a) (u : Un nb ns np a) (h3 : np < 3) {c : Nat} (hc : c < 15) : Iv 0 nb ns (np + 1) T (ew_u (ew_u a 7 1 0 (a 7 1 0 + 1)) 6 4 np (ei c)) := by
  obtain ⟨hA, ⟨b1, b2, b3⟩, hcc, hb, hs, hp, ht⟩ := h
  obtain ⟨u1, u2⟩ := u.2.2 np (Nat.le_refl _) h3
  refine ⟨by omega, ⟨b1, b2, ?_⟩, hcc, hb, fun d z => (hs d z).mono (Nat.le_refl _) (Nat.le_succ _), fun p z => ?_, ht⟩
  · show ew_u (ew_u a 7 1 0 (a 7 1 0 + 1)) 6 4 np (ei c) 7 1 0 = ei (np + 1)
    rw [ew_u_ne _ _ (by omega), ew_u_self, b3, ei_1]
  · by_cases e : p = np
    · rw [e]
      refine ⟨⟨c, hc, ew_u_self _ _ _ _ _⟩, ⟨0, by decide, u1⟩, fun j hj => Or.inl (u2 j hj)⟩
    · have hp := hp p (by omega)
      refine hp.to (fun r => ?_) (fun r => rfl)
      show ew_u (ew_u a 7 1 0 (a 7 1 0 + 1)) 6 4 np (ei c) 6 r p = a 6 r p
      rw [ew_u_ne _ _ (by omega), ew_u_ne _ _ (by omega)]
theorem un_port (u : Un nb ns np a) (x y : Int32) : Un nb ns (np + 1) (ew_u (ew_u a 7 1 0 x) 6 4 np y) := by
  have v : Un nb ns (np + 1) a := ⟨u.1, u.2.1, fun p h1 h2 => u.2.2 p (by omega) h2⟩
  refine v.fr (P := fun k p o => (k = 7) ∨ (k = 6 ∧ p = 4 ∧ o = np)) (((Fr.rf _ _).u _ (Or.inl rfl)).u _ (Or.inr ⟨rfl, rfl, rfl⟩)) (fun _ _ _ k p hk w => by omega) (fun _ _ _ k p hk w => by omega) (fun p h1 h2 k r hk w => by omega)
theorem iv_rule (h : Iv 0 nb ns np T a) {p n : Nat} (hp : p < np) (hn : n < 10) (x y : Int32) : Iv 0 nb ns np T (ew_u (ew_u (ew_u a 81 n p x) 113 n p y) 6 3 p (ei (n + 1))) := by
  refine h.ports ((((Fr.rf _ _).u _ (Or.inr (Or.inr (Or.inl rfl)))).u _ (Or.inr (Or.inr (Or.inr rfl)))).u _ (Or.inl rfl)) (fun d z => ?_)
  have hd := h.2.2.2.2.2.1 d z
  by_cases e : d = p
  · rw [e] at hd ⊢
    exact ⟨hd.1, ⟨n + 1, by omega, ew_u_self _ _ _ _ _⟩, hd.2.2⟩
  · refine hd.to (fun r => ?_) (fun r => rfl)
    show ew_u (ew_u (ew_u a 81 n p x) 113 n p y) 6 3 p (ei (n + 1)) 6 r d = a 6 r d
    rw [ew_u_ne _ _ (by omega), ew_u_ne _ _ (by omega), ew_u_ne _ _ (by omega)]
theorem iv_exempt (h : Iv 0 nb ns np T a) (j p : Nat) : Iv 0 nb ns np T (ew_u a 18 j p 1) := by
  refine h.ports ((Fr.rf _ _).u _ (Or.inr (Or.inl rfl))) (fun d z => ?_)
  have hd := h.2.2.2.2.2.1 d z
  refine ⟨hd.1, hd.2.1, fun i hi => ?_⟩
  show ew_u a 18 j p 1 18 i d = 0 ∨ ew_u a 18 j p 1 18 i d = 1
  by_cases e : i = j ∧ d = p
  · rw [e.1, e.2, ew_u_self]; exact Or.inr rfl
  · rw [ew_u_ne _ _ (by omega)]; exact hd.2.2 i hi
theorem iv_breaker (h : Iv 0 nb ns np T a) (u : Un nb ns np a) (h2 : nb < 2) {c : Nat} (hc : c < 15) (f : Int32) : Iv 0 (nb + 1) ns np T (ew_u (ew_u (ew_u a 9 3 0 (a 9 3 0 + 1)) 3 1 nb (ei c)) 3 2 nb f) := by
  obtain ⟨hA, ⟨b1, b2, b3⟩, hcc, hb, hs, hp, ht⟩ := h
  obtain ⟨u1, u2⟩ := u.1 nb (Nat.le_refl _) h2
  refine ⟨by omega, ⟨?_, b2, b3⟩, hcc, fun d z => ?_, fun d z => (hs d z).mono (Nat.le_succ _) (Nat.le_refl _), hp, ht⟩
  · show ew_u (ew_u (ew_u a 9 3 0 (a 9 3 0 + 1)) 3 1 nb (ei c)) 3 2 nb f 9 3 0 = ei (nb + 1)
    rw [ew_u_ne _ _ (by omega), ew_u_ne _ _ (by omega), ew_u_self, b1, ei_1]
  · by_cases e : d = nb
    · rw [e]
      refine ⟨⟨c, hc, ?_⟩, 0, by decide, u2, fun r hr => absurd hr (Nat.not_lt_zero _)⟩
      show ew_u (ew_u (ew_u a 9 3 0 (a 9 3 0 + 1)) 3 1 nb (ei c)) 3 2 nb f 3 1 nb = ei c
      rw [ew_u_ne _ _ (by omega), ew_u_self]
    · refine (hb d (by omega)).to (fun r => ?_) (fun r => rfl) (fun r => rfl)
      show ew_u (ew_u (ew_u a 9 3 0 (a 9 3 0 + 1)) 3 1 nb (ei c)) 3 2 nb f 3 r d = a 3 r d
      rw [ew_u_ne _ _ (by omega), ew_u_ne _ _ (by omega), ew_u_ne _ _ (by omega)]
theorem un_breaker (u : Un nb ns np a) (x y z : Int32) : Un (nb + 1) ns np (ew_u (ew_u (ew_u a 9 3 0 x) 3 1 nb y) 3 2 nb z) := by
  have v : Un (nb + 1) ns np a := ⟨fun b h1 h2 => u.1 b (by omega) h2, u.2⟩
  refine v.fr (P := fun k p o => (k = 9) ∨ (k = 3 ∧ o = nb)) ((((Fr.rf _ _).u _ (Or.inl rfl)).u _ (Or.inr ⟨rfl, rfl⟩)).u _ (Or.inr ⟨rfl, rfl⟩)) (fun _ _ _ k p hk w => by omega) (fun _ _ _ k p hk w => by omega) (fun p h1 h2 k r hk w => by omega)
theorem lb_breaker (h : Iv 0 nb ns np T a) (l : Lb nb ns a) (F : ∀ j, j < ns → Fb a a' j) : Lb (nb + 1) ns a' := fun b hb => by
  by_cases e : b = nb
  · have key : ∀ w : Int32, (w = 1 ∨ w = 2) → ef_cn (ef_bd a' w (ei b)) ns = 0 := fun w hw => by
      refine ef_cn_0 ns (fun j hj => decide_eq_false (fun q => ?_))
      have hs := (h.2.2.2.2.1 j hj).2.2.2.2
      have hs : (a 10 7 j = 0 ∧ a 10 8 j = -1) ∨ (a 10 7 j = 3 ∧ a 10 8 j = -1) ∨ ((a 10 7 j = 1 ∨ a 10 7 j = 2) ∧ ∃ b, b < nb ∧ a 10 8 j = ei b) := hs
      rcases F j hj with ⟨e1, e2⟩ | ⟨e1, e2⟩
      · rw [e1, e2] at q
        have n1 : ¬ a 10 8 j = -1 := fun z => by
          have := ei_nn (n := b) (by have := h.1; omega)
          rw [← q.2, z] at this
          exact absurd (by decide) this
        rcases hs with hs | hs | ⟨-, b', hb', hs⟩
        · exact n1 hs.2
        · exact n1 hs.2
        · have := h.1
          rw [hs, ei_inj (by omega) (by omega)] at q
          have := q.2
          omega
      · rcases hw with rfl | rfl
        · exact e1 q.1
        · exact e2 q.1
    rw [key 1 (Or.inl rfl), key 2 (Or.inr rfl)]
    exact ⟨by decide, by decide⟩
  · exact l.le F b (by omega)
abbrev sp_ns (c r p : Nat) (w x : Int32) (j : Nat) (a : ew_S) : ew_S := ew_u (ew_u (ew_u (ew_u (ew_u (ew_u a 9 4 0 x) 10 2 j (ei c)) 10 3 j (ei r)) 10 4 j (ef_bears (ei r))) 10 5 j w) 10 6 j (ei p)
theorem sp_ns_F (c r p : Nat) (w x : Int32) (j : Nat) (a : ew_S) : Fr (fun k q o => (k = 9 ∧ q = 4) ∨ (k = 10 ∧ o = j ∧ q < 7)) a (sp_ns c r p w x j a) :=
  ((((((Fr.rf _ _).u _ (Or.inl ⟨rfl, rfl⟩)).u _ (Or.inr ⟨rfl, rfl, by decide⟩)).u _ (Or.inr ⟨rfl, rfl, by decide⟩)).u _ (Or.inr ⟨rfl, rfl, by decide⟩)).u _ (Or.inr ⟨rfl, rfl, by decide⟩)).u _ (Or.inr ⟨rfl, rfl, by decide⟩)
theorem sp_ns_at (c r p : Nat) (w x : Int32) (j : Nat) (a : ew_S) : sp_ns c r p w x j a 10 2 j = ei c ∧ sp_ns c r p w x j a 10 3 j = ei r ∧ sp_ns c r p w x j a 10 4 j = ef_bears (ei r) ∧ sp_ns c r p w x j a 10 5 j = w ∧ sp_ns c r p w x j a 10 6 j = ei p ∧ sp_ns c r p w x j a 9 4 0 = x := by
  unfold sp_ns
  refine ⟨?_, ?_, ?_, ?_, ?_, ?_⟩
  · rw [ew_u_ne _ _ (by omega), ew_u_ne _ _ (by omega), ew_u_ne _ _ (by omega), ew_u_ne _ _ (by omega), ew_u_self]
  · rw [ew_u_ne _ _ (by omega), ew_u_ne _ _ (by omega), ew_u_ne _ _ (by omega), ew_u_self]
  · rw [ew_u_ne _ _ (by omega), ew_u_ne _ _ (by omega), ew_u_self]
  · rw [ew_u_ne _ _ (by omega), ew_u_self]
  · rw [ew_u_self]
  · rw [ew_u_ne _ _ (by omega), ew_u_ne _ _ (by omega), ew_u_ne _ _ (by omega), ew_u_ne _ _ (by omega), ew_u_ne _ _ (by omega), ew_u_self]
theorem iv_ship (h : Iv 0 nb ns np T a) (u : Un nb ns np a) (h5 : ns < 5) {c r p : Nat} (hc : c < 15) (hr : r ≤ 4) (hp' : p < np) (w : Int32) : Iv 0 nb (ns + 1) np T (sp_ns c r p w (ei (ns + 1)) ns a) := by
  obtain ⟨hA, ⟨b1, b2, b3⟩, hcc, hb, hs, hp, ht⟩ := h
  obtain ⟨⟨u1, u2, -⟩, u3, -⟩ := u.2.1 ns (Nat.le_refl _) h5
  have F := sp_ns_F c r p w (ei (ns + 1)) ns a
  obtain ⟨g1, g2, g3, g4, g5, g6⟩ := sp_ns_at c r p w (ei (ns + 1)) ns a
  refine ⟨by omega, ⟨b1, g6, b3⟩, hcc, hb, fun d z => ?_, hp, ht⟩
  by_cases e : d = ns
  · rw [e]
    have f7 : sp_ns c r p w (ei (ns + 1)) ns a 10 7 ns = 0 := (F 10 7 ns (fun w => by omega)).trans u1
    have f8 : sp_ns c r p w (ei (ns + 1)) ns a 10 8 ns = -1 := (F 10 8 ns (fun w => by omega)).trans u2
    exact ⟨⟨c, hc, g1⟩, ⟨0, by decide, u3, fun r hr => absurd hr (Nat.not_lt_zero _)⟩, ⟨p, hp', g5⟩, ⟨r, hr, g2, g3⟩, Or.inl ⟨f7, f8⟩⟩
  · exact (hs d (by omega)).to (fun q => F 10 q d (fun w => by omega)) (fun q => rfl) (fun q => rfl)
theorem un_ship (u : Un nb ns np a) (c r p : Nat) (w x : Int32) : Un nb (ns + 1) np (sp_ns c r p w x ns a) := by
  have v : Un nb (ns + 1) np a := ⟨u.1, fun b h1 h2 => u.2.1 b (by omega) h2, u.2.2⟩
  exact v.fr (sp_ns_F c r p w x ns a) (fun _ _ _ k p hk w => by omega) (fun _ _ _ k p hk w => by omega) (fun p h1 h2 k r hk w => by omega)
theorem lb_ship (l : Lb nb ns a) (u : Un nb ns np a) (h5 : ns < 5) (c r p : Nat) (w x : Int32) : Lb nb (ns + 1) (sp_ns c r p w x ns a) := fun b hb => by
  obtain ⟨⟨u1, -⟩, -⟩ := u.2.1 ns (Nat.le_refl _) h5
  have u1 : a 10 7 ns = 0 := u1
  have key : ∀ v : Int32, (v = 1 ∨ v = 2) → ef_cn (ef_bd (sp_ns c r p w x ns a) v (ei b)) (ns + 1) = ef_cn (ef_bd a v (ei b)) ns := fun v hv => by
    show ef_cn (ef_bd (sp_ns c r p w x ns a) v (ei b)) ns + (bif ef_bd (sp_ns c r p w x ns a) v (ei b) ns then 1 else 0) = ef_cn (ef_bd a v (ei b)) ns
    have e : ef_bd (sp_ns c r p w x ns a) v (ei b) ns = false := decide_eq_false (fun q => by
      have q1 : a 10 7 ns = v := q.1
      rw [u1] at q1
      rcases hv with rfl | rfl
      · exact absurd q1 (by decide)
      · exact absurd q1 (by decide))
    rw [e]
    rfl
  rw [key 1 (Or.inl rfl), key 2 (Or.inr rfl)]
  exact l b hb
end
