/-! What one asks: the model. -/
def P6 : Nat → Nat → Nat → Prop := fun k p o => k = 16 ∨ P1 k p o
theorem P6.no {k p o : Nat} (a0 : k ≠ 16) (a : k ≠ 1) (b : k ≠ 401) (c : k ≠ 433) (d : k ≠ 465) (e : k ≠ 497) (f : k ≠ 529) : ¬ P6 k p o := by
  intro w
  unfold P6 P1 at w
  omega
section
variable {d : Nat} {K : ew_R → ew_H → Prop} {q i nb ns np T c : Nat} {β σ : Nat → Nat} {ρ : Nat → Nat → Nat} {z : ew_Z3} {a s s' : ew_S} {m m' : ew_H}
theorem RM.ex6 (h : RM q i nb ns np β σ ρ z a s m) (e : Ex P6 c s m s' m') : RM q i nb ns np β σ ρ z a s' m' := by
  obtain ⟨h1, h2, h3, h4, h5, h6, h7, h8⟩ := h
  exact ⟨h1.ex e (fun k p hk => P6.no (by omega) (by omega) (by omega) (by omega) (by omega) (by omega) (by omega)), h2.ex rfl e (fun _ => P6.no (by decide) (by decide) (by decide) (by decide) (by decide) (by decide) (by decide)) (fun _ => P6.no (by decide) (by decide) (by decide) (by decide) (by decide) (by decide) (by decide)), h3.ex rfl e (fun _ => P6.no (by decide) (by decide) (by decide) (by decide) (by decide) (by decide) (by decide)) (fun _ => P6.no (by decide) (by decide) (by decide) (by decide) (by decide) (by decide) (by decide)), h4.ex rfl e (fun _ => P6.no (by decide) (by decide) (by decide) (by decide) (by decide) (by decide) (by decide)) (fun _ => P6.no (by decide) (by decide) (by decide) (by decide) (by decide) (by decide) (by decide)),
    fun b hb => (h5 b hb).ex e (fun k p hk => P6.no (by omega) (by omega) (by omega) (by omega) (by omega) (by omega) (by omega)), fun j hj => (h6 j hj).ex e (fun k p hk => P6.no (by omega) (by omega) (by omega) (by omega) (by omega) (by omega) (by omega)), fun p hp => (h7 p hp).ex e (fun k r j hk => P6.no (by omega) (by omega) (by omega) (by omega) (by omega) (by omega) (by omega)), h8⟩
theorem RR.ex6 (h : RR q i nb ns np T β σ ρ z a s m) (e : Ex P6 c s m s' m') (G : GI m') : RR q i nb ns np T β σ ρ z a s' m' := ⟨h.1.ex6 e, h.2.1, G, h.2.2.2.ex e⟩
theorem Ex.p6 (e : Ex P1 c s m s' m') : Ex P6 c s m s' m' := e.mono (fun _ _ _ _ w => Or.inr w) (Nat.le_refl _)
theorem Ex.tw (s : ew_S) (m : ew_H) (x : Int32) : Ex P6 0 s m (ew_tw s x) m := (Ex.rf _ _ _).u _ rfl (Or.inl (Or.inl rfl))
theorem RR.tw (h : RR q i nb ns np T β σ ρ z a s m) (x : Int32) : RR q i nb ns np T β σ ρ z a (ew_tw s x) m := h.ex6 (Ex.tw s m x) h.2.2.1
/-- what the model says to a question, and what it leaves -/
def KM (nb ns np T : Nat) (β σ : Nat → Nat) (ρ : Nat → Nat → Nat) (z : ew_Z3) (a : ew_S) (c : Nat) (s : ew_S) (m : ew_H) (K : ew_R → ew_H → Prop) (o : ew_A2) : Prop := ∀ s' m', RR 0 0 nb ns np T β σ ρ z a s' m' → Ex P6 c s m s' m' → s' 16 0 0 = ei o.1 → K (.inl (some (ew_i o.2))) (ew_hp s' m')
theorem KM.no {n : Nat} {v : Int32} (h : RR 0 0 nb ns np T β σ ρ z a s m) (k : KM nb ns np T β σ ρ z a c s m K (n, v)) : K (.inl (some (ew_i v))) (ew_hp (ew_tw s (ei n)) m) := k _ _ (h.tw _) ((Ex.tw s m _).le (Nat.zero_le _)) (ew_u_self _ _ _ _ _)
theorem KM.no2 {n : Nat} {v x : Int32} (h : RR 0 0 nb ns np T β σ ρ z a s m) (k : KM nb ns np T β σ ρ z a c s m K (n, v)) : K (.inl (some (ew_i v))) (ew_hp (ew_tw (ew_tw s x) (ei n)) m) := by
  rw [show ew_tw (ew_tw s x) (ei n) = ew_tw s (ei n) from ew_u_u _ _ _ _ _ _]
  exact k.no h
theorem xw_inForce (h : RR 0 0 nb ns np T β σ ρ z a s m) (p x : Int32) (k : KM nb ns np T β σ ρ z a 0 s m K (vo_inForce p x a)) : ew_Call (d + 6) 173 [ew_o 16 0, ew_i p, ew_i x] (ew_hp s m) K := by
  have hI := h.2.1
  have h5 := hI.1
  have hnp : a 7 1 0 = ei np := hI.2.1.2.2
  have hL := h.1.2.2.2.1
  have h2 := h.tw 0
  unfold vo_inForce at k
  rw [hnp] at k
  rcases ei_dec p np (by omega) with ⟨c, hc, rfl⟩ | ⟨h1, -⟩
  · have hN : iN (ei c) (ei np) = true := iN_t hc (by omega)
    rw [hN, cond_true, ei_nat (by omega)] at k
    by_cases h0 : 0 ≤ x
    · rw [if_pos h0] at k
      obtain ⟨n, hn, en⟩ := (hI.2.2.2.2.2.1 c hc).2.1
      have en : a 6 3 c = ei n := en
      unfold sp_if at k
      rw [en, ei_nat (by omega)] at k
      exact ew_call (ew_go (fun _ => false) 80 (xm_noPort hL (by omega) (fun z => absurd (z.symm.trans hN) (by decide)) (fun _ => xm_start0 rfl ⟨fun z => absurd rfl z, fun _ => ⟨fun _ => xm_ref0 (ew_u_self _ _ _ _ _) rfl ⟨fun _ => xm_get66 h2.1.2.2.2.1 hc rfl rfl (xm_inForceP x hn en (h2.1.2.2.2.2.2.2.1 c hc) ⟨trivial, k.no h⟩), fun z => absurd rfl z⟩, fun z => absurd h0 z⟩⟩)))
    · rw [if_neg h0] at k
      exact ew_call (ew_go (fun _ => false) 80 (xm_noPort hL (by omega) (fun z => absurd (z.symm.trans hN) (by decide)) (fun _ => xm_start0 rfl ⟨fun z => absurd rfl z, fun _ => ⟨fun z => absurd z h0, fun _ => xm_ref1 (ew_u_self _ _ _ _ _) (show ¬ (1 : Int32) = 0 by decide) (show ¬ (2 : Int32) ≤ 0 by decide) ⟨fun z => absurd z (show ¬ (1 : Int32) = 0 by decide), fun _ => ⟨trivial, k.no2 h⟩⟩⟩⟩)))
  · have hN : iN p (ei np) = false := iN_f h1
    rw [hN, cond_false] at k
    exact ew_call (ew_go (fun _ => false) 80 (xm_noPort hL (by omega) (fun _ => xm_start1 (show ¬ (1 : Int32) = 0 by decide) (show ¬ (1 : Int32) ≤ 0 by decide) ⟨fun _ => ⟨trivial, k.no h⟩, fun z => absurd (show ¬ (1 : Int32) = 0 by decide) z⟩) (fun z => absurd (hN.symm.trans z) (by decide))))
end
