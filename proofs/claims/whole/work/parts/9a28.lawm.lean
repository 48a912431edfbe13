/-! The law's own methods: what the class's calls throw as numbers. -/
def cdA (n : Nat) : Bool := Nat.ble n 3
def cdB (n : Nat) : Bool := Nat.beq n 0 || Nat.beq n 1 || Nat.beq n 3
def cd1 (n : Nat) : Bool := Nat.beq n 0 || Nat.beq n 1
def cd2 (n : Nat) : Bool := Nat.beq n 0 || Nat.beq n 2
def cd12 (n : Nat) : Bool := Nat.beq n 0 || Nat.beq n 1 || Nat.beq n 2
def ef_ps (n : Nat) : Nat := bif Nat.beq n 2 then 1 else n
theorem cd_b {f : Nat → Bool} {b : Bool} {o o' : ew_O} (h : f o.1 = true) (h' : f o'.1 = true) : f (bif b then o else o').1 = true := by
  cases b
  · exact h'
  · exact h
theorem cd_i {f : Nat → Bool} {p : Prop} [Decidable p] {o o' : ew_O} (h : f o.1 = true) (h' : f o'.1 = true) : f (if p then o else o').1 = true := by
  by_cases e : p
  · rw [if_pos e]; exact h
  · rw [if_neg e]; exact h'
theorem ce_b {f : Nat → Bool} {b : Bool} {o o' : ew_A2} (h : f o.1 = true) (h' : f o'.1 = true) : f (bif b then o else o').1 = true := by
  cases b
  · exact h'
  · exact h
theorem ce_i {f : Nat → Bool} {p : Prop} [Decidable p] {o o' : ew_A2} (h : f o.1 = true) (h' : f o'.1 = true) : f (if p then o else o').1 = true := by
  by_cases e : p
  · rw [if_pos e]; exact h
  · rw [if_neg e]; exact h'
theorem cd_no {f : Nat → Bool} {n c : Nat} (h : f n = true) (hc : f c = false) : ¬ n = c := fun e => by
  rw [e, hc] at h
  exact Bool.noConfusion h
theorem cd_no4 {f : Nat → Bool} {n : Nat} (h : f n = true) (hf : ∀ n, f n = true → n ≤ 3) : n ≤ 3 := hf n h
theorem cdA_3 (n : Nat) (h : cdA n = true) : n ≤ 3 := Nat.le_of_ble_eq_true h
theorem cdB_3 (n : Nat) (h : cdB n = true) : n ≤ 3 := by
  unfold cdB at h
  simp only [Bool.or_eq_true] at h
  rcases h with (h | h) | h <;> (have := ew_beq h; omega)
theorem cd1_3 (n : Nat) (h : cd1 n = true) : n ≤ 3 := by
  unfold cd1 at h
  simp only [Bool.or_eq_true] at h
  rcases h with h | h <;> (have := ew_beq h; omega)
theorem cd2_3 (n : Nat) (h : cd2 n = true) : n ≤ 3 := by
  unfold cd2 at h
  simp only [Bool.or_eq_true] at h
  rcases h with h | h <;> (have := ew_beq h; omega)
theorem cd12_3 (n : Nat) (h : cd12 n = true) : n ≤ 3 := by
  unfold cd12 at h
  simp only [Bool.or_eq_true] at h
  rcases h with (h | h) | h <;> (have := ew_beq h; omega)
section
variable {d : Nat} {s : ew_S} {m : ew_H} {K : ew_R → ew_H → Prop} {nb ns np T : Nat}
theorem KO.mk4 {o : ew_O} (k0 : o.1 = 0 → K (.inl (some (ew_i o.2.1))) (ew_hp o.2.2 m)) (k1 : o.1 = 1 → K (.inr 0) (ew_hp o.2.2 (ew_pay m 1 6))) (k2 : o.1 = 2 → K (.inr 1) (ew_hp o.2.2 (ew_pay m 1 6))) (k3 : o.1 = 3 → K (.inr 2) (ew_hp o.2.2 (ew_pay m 1 6))) (h : o.1 ≤ 3) : KO K m o := by
  obtain ⟨c, v, s⟩ := o
  rcases c with _ | _ | _ | _ | c
  · exact k0 rfl
  · exact k1 rfl
  · exact k2 rfl
  · exact k3 rfl
  · have h : c + 1 + 1 + 1 + 1 ≤ 3 := h
    omega
theorem KQ.of {o : ew_A2} (h : KO K m (o.1, o.2, s)) : KQ K m s o := by
  obtain ⟨c, v⟩ := o
  cases c with
  | zero => exact h
  | succ c => exact h
def KV (K : ew_R → ew_H → Prop) (m : ew_H) (f : Nat → Nat) (o : ew_O) : Prop := (o.1 = 0 → K (.inl (some (ew_i 0))) (ew_hp o.2.2 (ew_put m 19 0 0 (ew_j o.2.1.toInt64)))) ∧ ∀ r, ¬ r = 0 → ¬ o.1 = 0 → f o.1 = r → K (.inl (some (ew_i (ei r)))) (ew_hp o.2.2 (ew_pay m 1 6))
def KVb (K : ew_R → ew_H → Prop) (m : ew_H) (f : Nat → Nat) (o : ew_O) : Prop := (o.1 = 0 → K (.inl (some (ew_i 0))) (ew_hp o.2.2 (ew_put m 19 0 0 (ew_j (if o.2.1 = 0 then 0 else 1))))) ∧ ∀ r, ¬ r = 0 → ¬ o.1 = 0 → f o.1 = r → K (.inl (some (ew_i (ei r)))) (ew_hp o.2.2 (ew_pay m 1 6))
theorem KV.ex {f : Nat → Nat} {o : ew_O} (k : KV K m f o) (r c : Nat) (hr : ¬ r = 0) (hc : ¬ c = 0) (hf : f c = r) (e : o.1 = c) : K (.inl (some (ew_i (ei r)))) (ew_hp o.2.2 (ew_pay m 1 6)) := k.2 r hr (by rw [e]; exact hc) (by rw [e]; exact hf)
theorem KVb.ex {f : Nat → Nat} {o : ew_O} (k : KVb K m f o) (r c : Nat) (hr : ¬ r = 0) (hc : ¬ c = 0) (hf : f c = r) (e : o.1 = c) : K (.inl (some (ew_i (ei r)))) (ew_hp o.2.2 (ew_pay m 1 6)) := k.2 r hr (by rw [e]; exact hc) (by rw [e]; exact hf)
theorem ix_0 : ew_ix 0 1 := by unfold ew_ix; decide
theorem cc_ice (x v : Int32) (s : ew_S) : cdA (op_ice x v s).1 = true := by
  unfold op_ice
  repeat' (first | rfl | refine cd_b ?_ ?_ | refine cd_i ?_ ?_)
theorem cc_land (x : Int32) (s : ew_S) : cdB (op_land x s).1 = true := by
  unfold op_land
  repeat' (first | rfl | refine cd_b ?_ ?_ | refine cd_i ?_ ?_)
theorem cc_port (x : Int32) (s : ew_S) : cdA (op_port x s).1 = true := by
  unfold op_port
  repeat' (first | rfl | refine cd_b ?_ ?_ | refine cd_i ?_ ?_)
theorem cc_rule (p x y : Int32) (s : ew_S) : cdA (op_rule p x y s).1 = true := by
  unfold op_rule
  repeat' (first | rfl | refine cd_b ?_ ?_ | refine cd_i ?_ ?_)
theorem cc_exempt (p j : Int32) (s : ew_S) : cd1 (op_exempt p j s).1 = true := by
  unfold op_exempt
  repeat' (first | rfl | refine cd_b ?_ ?_ | refine cd_i ?_ ?_)
theorem cc_breaker (x v : Int32) (s : ew_S) : cdA (op_breaker x v s).1 = true := by
  unfold op_breaker
  repeat' (first | rfl | refine cd_b ?_ ?_ | refine cd_i ?_ ?_)
theorem cc_ship (x r w p : Int32) (s : ew_S) : cdA (op_ship x r w p s).1 = true := by
  unfold op_ship
  repeat' (first | rfl | refine cd_b ?_ ?_ | refine cd_i ?_ ?_)
theorem cc_steer (b x : Int32) (s : ew_S) : cdB (op_steer b x s).1 = true := by
  unfold op_steer
  repeat' (first | rfl | refine cd_b ?_ ?_ | refine cd_i ?_ ?_)
theorem cc_sail (j x : Int32) (s : ew_S) : cdB (op_sail j x s).1 = true := by
  unfold op_sail
  repeat' (first | rfl | refine cd_b ?_ ?_ | refine cd_i ?_ ?_)
theorem cc_halt (j : Int32) (s : ew_S) : cd1 (op_halt j s).1 = true := by
  unfold op_halt
  repeat' (first | rfl | refine cd_b ?_ ?_ | refine cd_i ?_ ?_)
theorem cc_lead (b j : Int32) (s : ew_S) : cdB (op_lead b j s).1 = true := by
  unfold op_lead
  repeat' (first | rfl | refine cd_b ?_ ?_ | refine cd_i ?_ ?_)
theorem cc_tow (b j : Int32) (s : ew_S) : cdB (op_tow b j s).1 = true := by
  unfold op_tow
  repeat' (first | rfl | refine cd_b ?_ ?_ | refine cd_i ?_ ?_)
theorem cc_fuel (b v : Int32) (s : ew_S) : cdA (op_fuel b v s).1 = true := by
  unfold op_fuel
  repeat' (first | rfl | refine cd_b ?_ ?_ | refine cd_i ?_ ?_)
theorem cc_pass (x w n : Int32) (s : ew_S) : cd2 (op_pass x w n s).1 = true := by
  unfold op_pass
  repeat' (first | rfl | refine cd_b ?_ ?_ | refine cd_i ?_ ?_)
theorem cc_ofCell (x w : Int32) (s : ew_S) : cd12 (vo_ofCell x w s).1 = true := by
  unfold vo_ofCell
  repeat' (first | rfl | refine ce_b ?_ ?_ | refine ce_i ?_ ?_)
theorem cc_ofBreaker (x w : Int32) (s : ew_S) : cd12 (vo_ofBreaker x w s).1 = true := by
  unfold vo_ofBreaker
  repeat' (first | rfl | refine ce_b ?_ ?_ | refine ce_i ?_ ?_)
theorem cc_ofShip (x w : Int32) (s : ew_S) : cd12 (vo_ofShip x w s).1 = true := by
  unfold vo_ofShip
  repeat' (first | rfl | refine ce_b ?_ ?_ | refine ce_i ?_ ?_)
theorem cc_inForce (p x : Int32) (s : ew_S) : cd12 (vo_inForce p x s).1 = true := by
  unfold vo_inForce
  repeat' (first | rfl | refine ce_b ?_ ?_ | refine ce_i ?_ ?_)
theorem cc_many (w : Int32) (s : ew_S) : cd2 (vo_many w s).1 = true := by
  unfold vo_many
  repeat' (first | rfl | refine ce_b ?_ ?_ | refine ce_i ?_ ?_)
theorem cc_way (j x : Int32) (s : ew_S) : cd1 (vo_way j x s).1 = true := by
  unfold vo_way
  repeat' (first | rfl | refine ce_b ?_ ?_ | refine ce_i ?_ ?_)
theorem cc_toBreak (j : Int32) (s : ew_S) : cd1 (vo_toBreak j s).1 = true := by
  unfold vo_toBreak
  repeat' (first | rfl | refine ce_b ?_ ?_ | refine ce_i ?_ ?_)
theorem cc_helpNext (b : Int32) (s : ew_S) : cd1 (vo_help b s).1 = true := by
  unfold vo_help
  repeat' (first | rfl | refine ce_b ?_ ?_ | refine ce_i ?_ ?_)
theorem cc_arriveIn (j n x w v : Int32) (s : ew_S) : cd12 (vo_arr j n x w v s).1 = true := by
  unfold vo_arr
  repeat' (first | rfl | refine ce_b ?_ ?_ | refine ce_i ?_ ?_)
theorem xv_ice (x v : Int32) (k : KV K m (fun n => n) (op_ice x v s)) : ew_Call (d + 8) 219 [ew_o 11 0, ew_i x, ew_i v, ew_o 19 0] (ew_hp s m) K := by
  have c := cc_ice x v s
  exact ew_call (ew_go (fun _ => false) 40 (xp_ice  x v (KO.mk4 (fun e => ⟨⟨ix_0, trivial⟩, trivial, ek_t rfl (k.1 e)⟩) (fun e => ⟨rfl, trivial, k.ex 1 1 (by decide) (by decide) rfl e⟩) (fun e => ⟨rfl, trivial, k.ex 2 2 (by decide) (by decide) rfl e⟩) (fun e => ⟨rfl, trivial, k.ex 3 3 (by decide) (by decide) rfl e⟩) (cdA_3 _ c))))
theorem xv_land (h : Iv 0 nb ns np T s) (x : Int32) (k : KV K m ef_tc (op_land x s)) : ew_Call (d + 8) 220 [ew_o 11 0, ew_i x, ew_o 19 0] (ew_hp s m) K := by
  have c := cc_land x s
  exact ew_call (ew_go (fun _ => false) 40 (xp_land h x (KO.mk4 (fun e => ⟨⟨ix_0, trivial⟩, trivial, ek_t rfl (k.1 e)⟩) (fun e => ⟨rfl, trivial, k.ex 1 1 (by decide) (by decide) rfl e⟩) (fun e => absurd e (cd_no c rfl)) (fun e => ⟨rfl, trivial, k.ex 2 3 (by decide) (by decide) rfl e⟩) (cdB_3 _ c))))
theorem xv_port (h : Iv 0 nb ns np T s) (x : Int32) (k : KV K m (fun n => n) (op_port x s)) : ew_Call (d + 8) 221 [ew_o 11 0, ew_i x, ew_o 19 0] (ew_hp s m) K := by
  have c := cc_port x s
  exact ew_call (ew_go (fun _ => false) 40 (xp_port h x (KO.mk4 (fun e => ⟨⟨ix_0, trivial⟩, trivial, ek_t rfl (k.1 e)⟩) (fun e => ⟨rfl, trivial, k.ex 1 1 (by decide) (by decide) rfl e⟩) (fun e => ⟨rfl, trivial, k.ex 2 2 (by decide) (by decide) rfl e⟩) (fun e => ⟨rfl, trivial, k.ex 3 3 (by decide) (by decide) rfl e⟩) (cdA_3 _ c))))
theorem xv_rule (h : Iv 0 nb ns np T s) (p x y : Int32) (k : KV K m (fun n => n) (op_rule p x y s)) : ew_Call (d + 8) 222 [ew_o 11 0, ew_i p, ew_i x, ew_i y, ew_o 19 0] (ew_hp s m) K := by
  have c := cc_rule p x y s
  exact ew_call (ew_go (fun _ => false) 40 (xp_rule h p x y (KO.mk4 (fun e => ⟨⟨ix_0, trivial⟩, trivial, ek_t rfl (k.1 e)⟩) (fun e => ⟨rfl, trivial, k.ex 1 1 (by decide) (by decide) rfl e⟩) (fun e => ⟨rfl, trivial, k.ex 2 2 (by decide) (by decide) rfl e⟩) (fun e => ⟨rfl, trivial, k.ex 3 3 (by decide) (by decide) rfl e⟩) (cdA_3 _ c))))
theorem xv_exempt (h : Iv 0 nb ns np T s) (p j : Int32) (k : KVb K m (fun n => n) (op_exempt p j s)) : ew_Call (d + 8) 223 [ew_o 11 0, ew_i p, ew_i j, ew_o 19 0] (ew_hp s m) K := by
  have c := cc_exempt p j s
  have k0 := k.1
  have ka : (op_exempt p j s).1 = 0 → (op_exempt p j s).2.1 = 0 → K (.inl (some (ew_i 0))) (ew_hp (op_exempt p j s).2.2 (ew_put m 19 0 0 (ew_j 0))) := fun e w => by
    have := k0 e
    rw [if_pos w] at this
    exact this
  have kb : (op_exempt p j s).1 = 0 → ¬ (op_exempt p j s).2.1 = 0 → K (.inl (some (ew_i 0))) (ew_hp (op_exempt p j s).2.2 (ew_put m 19 0 0 (ew_j 1))) := fun e w => by
    have := k0 e
    rw [if_neg w] at this
    exact this
  exact ew_call (ew_go (fun _ => false) 40 (xp_exempt h p j (KO.mk4 (fun e => ⟨fun w => ⟨⟨ix_0, trivial⟩, trivial, ek_t rfl (ka e w)⟩, fun w => ⟨⟨ix_0, trivial⟩, trivial, ek_t rfl (kb e w)⟩⟩) (fun e => ⟨rfl, trivial, k.ex 1 1 (by decide) (by decide) rfl e⟩) (fun e => absurd e (cd_no c rfl)) (fun e => absurd e (cd_no c rfl)) (cd1_3 _ c))))
theorem xv_breaker (h : Iv 0 nb ns np T s) (x v : Int32) (k : KV K m (fun n => n) (op_breaker x v s)) : ew_Call (d + 8) 224 [ew_o 11 0, ew_i x, ew_i v, ew_o 19 0] (ew_hp s m) K := by
  have c := cc_breaker x v s
  exact ew_call (ew_go (fun _ => false) 40 (xp_breaker h x v (KO.mk4 (fun e => ⟨⟨ix_0, trivial⟩, trivial, ek_t rfl (k.1 e)⟩) (fun e => ⟨rfl, trivial, k.ex 1 1 (by decide) (by decide) rfl e⟩) (fun e => ⟨rfl, trivial, k.ex 2 2 (by decide) (by decide) rfl e⟩) (fun e => ⟨rfl, trivial, k.ex 3 3 (by decide) (by decide) rfl e⟩) (cdA_3 _ c))))
theorem xv_ship (h : Iv 0 nb ns np T s) (x r w p : Int32) (k : KV K m (fun n => n) (op_ship x r w p s)) : ew_Call (d + 8) 225 [ew_o 11 0, ew_i x, ew_i r, ew_i w, ew_i p, ew_o 19 0] (ew_hp s m) K := by
  have c := cc_ship x r w p s
  exact ew_call (ew_go (fun _ => false) 40 (xp_ship h x r w p (KO.mk4 (fun e => ⟨⟨ix_0, trivial⟩, trivial, ek_t rfl (k.1 e)⟩) (fun e => ⟨rfl, trivial, k.ex 1 1 (by decide) (by decide) rfl e⟩) (fun e => ⟨rfl, trivial, k.ex 2 2 (by decide) (by decide) rfl e⟩) (fun e => ⟨rfl, trivial, k.ex 3 3 (by decide) (by decide) rfl e⟩) (cdA_3 _ c))))
theorem xv_steer (h : Iv 0 nb ns np T s) (b x : Int32) (k : KV K m ef_tc (op_steer b x s)) : ew_Call (d + 8) 226 [ew_o 11 0, ew_i b, ew_i x, ew_o 19 0] (ew_hp s m) K := by
  have c := cc_steer b x s
  exact ew_call (ew_go (fun _ => false) 40 (xp_steer h b x (KO.mk4 (fun e => ⟨⟨ix_0, trivial⟩, trivial, ek_t rfl (k.1 e)⟩) (fun e => ⟨rfl, trivial, k.ex 1 1 (by decide) (by decide) rfl e⟩) (fun e => absurd e (cd_no c rfl)) (fun e => ⟨rfl, trivial, k.ex 2 3 (by decide) (by decide) rfl e⟩) (cdB_3 _ c))))
theorem xv_sail (h : Iv 0 nb ns np T s) (j x : Int32) (k : KV K m ef_tc (op_sail j x s)) : ew_Call (d + 8) 227 [ew_o 11 0, ew_i j, ew_i x, ew_o 19 0] (ew_hp s m) K := by
  have c := cc_sail j x s
  exact ew_call (ew_go (fun _ => false) 40 (xp_sail h j x (KO.mk4 (fun e => ⟨⟨ix_0, trivial⟩, trivial, ek_t rfl (k.1 e)⟩) (fun e => ⟨rfl, trivial, k.ex 1 1 (by decide) (by decide) rfl e⟩) (fun e => absurd e (cd_no c rfl)) (fun e => ⟨rfl, trivial, k.ex 2 3 (by decide) (by decide) rfl e⟩) (cdB_3 _ c))))
theorem xv_halt (h : Iv 0 nb ns np T s) (j : Int32) (k : KV K m (fun n => n) (op_halt j s)) : ew_Call (d + 8) 228 [ew_o 11 0, ew_i j, ew_o 19 0] (ew_hp s m) K := by
  have c := cc_halt j s
  exact ew_call (ew_go (fun _ => false) 40 (xp_halt h j (KO.mk4 (fun e => ⟨⟨ix_0, trivial⟩, trivial, ek_t rfl (k.1 e)⟩) (fun e => ⟨rfl, trivial, k.ex 1 1 (by decide) (by decide) rfl e⟩) (fun e => absurd e (cd_no c rfl)) (fun e => absurd e (cd_no c rfl)) (cd1_3 _ c))))
theorem xv_lead (h : Iv 0 nb ns np T s) (b j : Int32) (k : KV K m ef_tc (op_lead b j s)) : ew_Call (d + 8) 229 [ew_o 11 0, ew_i b, ew_i j, ew_o 19 0] (ew_hp s m) K := by
  have c := cc_lead b j s
  exact ew_call (ew_go (fun _ => false) 40 (xp_lead h b j (KO.mk4 (fun e => ⟨⟨ix_0, trivial⟩, trivial, ek_t rfl (k.1 e)⟩) (fun e => ⟨rfl, trivial, k.ex 1 1 (by decide) (by decide) rfl e⟩) (fun e => absurd e (cd_no c rfl)) (fun e => ⟨rfl, trivial, k.ex 2 3 (by decide) (by decide) rfl e⟩) (cdB_3 _ c))))
theorem xv_tow (h : Iv 0 nb ns np T s) (b j : Int32) (k : KV K m ef_tc (op_tow b j s)) : ew_Call (d + 8) 230 [ew_o 11 0, ew_i b, ew_i j, ew_o 19 0] (ew_hp s m) K := by
  have c := cc_tow b j s
  exact ew_call (ew_go (fun _ => false) 40 (xp_tow h b j (KO.mk4 (fun e => ⟨⟨ix_0, trivial⟩, trivial, ek_t rfl (k.1 e)⟩) (fun e => ⟨rfl, trivial, k.ex 1 1 (by decide) (by decide) rfl e⟩) (fun e => absurd e (cd_no c rfl)) (fun e => ⟨rfl, trivial, k.ex 2 3 (by decide) (by decide) rfl e⟩) (cdB_3 _ c))))
theorem xv_fuel (h : Iv 0 nb ns np T s) (b v : Int32) (k : KV K m (fun n => n) (op_fuel b v s)) : ew_Call (d + 8) 231 [ew_o 11 0, ew_i b, ew_i v, ew_o 19 0] (ew_hp s m) K := by
  have c := cc_fuel b v s
  exact ew_call (ew_go (fun _ => false) 40 (xp_fuel h b v (KO.mk4 (fun e => ⟨⟨ix_0, trivial⟩, trivial, ek_t rfl (k.1 e)⟩) (fun e => ⟨rfl, trivial, k.ex 1 1 (by decide) (by decide) rfl e⟩) (fun e => ⟨rfl, trivial, k.ex 2 2 (by decide) (by decide) rfl e⟩) (fun e => ⟨rfl, trivial, k.ex 3 3 (by decide) (by decide) rfl e⟩) (cdA_3 _ c))))
theorem xv_pass (h : Iv 0 nb ns np T s) (hT : T ≤ 90000000) (x w n : Int32) (k : KV K m ef_ps (op_pass x w n s)) : ew_Call (d + 8) 232 [ew_o 11 0, ew_i x, ew_i w, ew_i n, ew_o 19 0] (ew_hp s m) K := by
  have c := cc_pass x w n s
  exact ew_call (ew_go (fun _ => false) 40 (xp_pass h hT x w n (KO.mk4 (fun e => ⟨⟨ix_0, trivial⟩, trivial, ek_t rfl (k.1 e)⟩) (fun e => absurd e (cd_no c rfl)) (fun e => ⟨rfl, trivial, k.ex 1 2 (by decide) (by decide) rfl e⟩) (fun e => absurd e (cd_no c rfl)) (cd2_3 _ c))))
theorem xv_ofCell (h : Iv 0 nb ns np T s) (x w : Int32) (k : KV K m (fun n => n) ((vo_ofCell x w s).1, (vo_ofCell x w s).2, s)) : ew_Call (d + 8) 233 [ew_o 11 0, ew_i x, ew_i w, ew_o 19 0] (ew_hp s m) K := by
  have c := cc_ofCell x w s
  exact ew_call (ew_go (fun _ => false) 40 (xp_ofCell h x w (KQ.of (KO.mk4 (fun e => ⟨⟨ix_0, trivial⟩, trivial, ek_t rfl (k.1 e)⟩) (fun e => ⟨rfl, trivial, k.ex 1 1 (by decide) (by decide) rfl e⟩) (fun e => ⟨rfl, trivial, k.ex 2 2 (by decide) (by decide) rfl e⟩) (fun e => absurd e (cd_no c rfl)) (cd12_3 _ c)))))
theorem xv_ofBreaker (h : Iv 0 nb ns np T s) (x w : Int32) (k : KV K m (fun n => n) ((vo_ofBreaker x w s).1, (vo_ofBreaker x w s).2, s)) : ew_Call (d + 8) 234 [ew_o 11 0, ew_i x, ew_i w, ew_o 19 0] (ew_hp s m) K := by
  have c := cc_ofBreaker x w s
  exact ew_call (ew_go (fun _ => false) 40 (xp_ofBreaker h x w (KQ.of (KO.mk4 (fun e => ⟨⟨ix_0, trivial⟩, trivial, ek_t rfl (k.1 e)⟩) (fun e => ⟨rfl, trivial, k.ex 1 1 (by decide) (by decide) rfl e⟩) (fun e => ⟨rfl, trivial, k.ex 2 2 (by decide) (by decide) rfl e⟩) (fun e => absurd e (cd_no c rfl)) (cd12_3 _ c)))))
theorem xv_ofShip (h : Iv 0 nb ns np T s) (x w : Int32) (k : KV K m (fun n => n) ((vo_ofShip x w s).1, (vo_ofShip x w s).2, s)) : ew_Call (d + 8) 235 [ew_o 11 0, ew_i x, ew_i w, ew_o 19 0] (ew_hp s m) K := by
  have c := cc_ofShip x w s
  exact ew_call (ew_go (fun _ => false) 40 (xp_ofShip h x w (KQ.of (KO.mk4 (fun e => ⟨⟨ix_0, trivial⟩, trivial, ek_t rfl (k.1 e)⟩) (fun e => ⟨rfl, trivial, k.ex 1 1 (by decide) (by decide) rfl e⟩) (fun e => ⟨rfl, trivial, k.ex 2 2 (by decide) (by decide) rfl e⟩) (fun e => absurd e (cd_no c rfl)) (cd12_3 _ c)))))
theorem xv_inForce (h : Iv 0 nb ns np T s) (p x : Int32) (k : KV K m (fun n => n) ((vo_inForce p x s).1, (vo_inForce p x s).2, s)) : ew_Call (d + 8) 236 [ew_o 11 0, ew_i p, ew_i x, ew_o 19 0] (ew_hp s m) K := by
  have c := cc_inForce p x s
  exact ew_call (ew_go (fun _ => false) 40 (xp_inForce h p x (KQ.of (KO.mk4 (fun e => ⟨⟨ix_0, trivial⟩, trivial, ek_t rfl (k.1 e)⟩) (fun e => ⟨rfl, trivial, k.ex 1 1 (by decide) (by decide) rfl e⟩) (fun e => ⟨rfl, trivial, k.ex 2 2 (by decide) (by decide) rfl e⟩) (fun e => absurd e (cd_no c rfl)) (cd12_3 _ c)))))
theorem xv_many (h : Iv 0 nb ns np T s) (w : Int32) (k : KV K m ef_ps ((vo_many w s).1, (vo_many w s).2, s)) : ew_Call (d + 8) 237 [ew_o 11 0, ew_i w, ew_o 19 0] (ew_hp s m) K := by
  have c := cc_many w s
  exact ew_call (ew_go (fun _ => false) 40 (xp_many h w (KQ.of (KO.mk4 (fun e => ⟨⟨ix_0, trivial⟩, trivial, ek_t rfl (k.1 e)⟩) (fun e => absurd e (cd_no c rfl)) (fun e => ⟨rfl, trivial, k.ex 1 2 (by decide) (by decide) rfl e⟩) (fun e => absurd e (cd_no c rfl)) (cd2_3 _ c)))))
theorem xv_way (h : Iv 0 nb ns np T s) (j x : Int32) (k : ∀ s', Fr Pch s s' → KV K m (fun n => n) ((vo_way j x s).1, (vo_way j x s).2, s')) : ew_Call (d + 8) 238 [ew_o 11 0, ew_i j, ew_i x, ew_o 19 0] (ew_hp s m) K := by
  have c := cc_way j x s
  exact ew_call (ew_go (fun _ => false) 40 (xp_way h j x (fun s' F => KQ.of (KO.mk4 (fun e => ⟨⟨ix_0, trivial⟩, trivial, ek_t rfl ((k s' F).1 e)⟩) (fun e => ⟨rfl, trivial, (k s' F).ex 1 1 (by decide) (by decide) rfl e⟩) (fun e => absurd e (cd_no c rfl)) (fun e => absurd e (cd_no c rfl)) (cd1_3 _ c)))))
theorem xv_toBreak (h : Iv 0 nb ns np T s) (j : Int32) (k : ∀ s', Fr Pch s s' → KV K m (fun n => n) ((vo_toBreak j s).1, (vo_toBreak j s).2, s')) : ew_Call (d + 8) 239 [ew_o 11 0, ew_i j, ew_o 19 0] (ew_hp s m) K := by
  have c := cc_toBreak j s
  exact ew_call (ew_go (fun _ => false) 40 (xp_toBreak h j (fun s' F => KQ.of (KO.mk4 (fun e => ⟨⟨ix_0, trivial⟩, trivial, ek_t rfl ((k s' F).1 e)⟩) (fun e => ⟨rfl, trivial, (k s' F).ex 1 1 (by decide) (by decide) rfl e⟩) (fun e => absurd e (cd_no c rfl)) (fun e => absurd e (cd_no c rfl)) (cd1_3 _ c)))))
theorem xv_helpNext (h : Iv 0 nb ns np T s) (b : Int32) (k : ∀ s', Fr Pch s s' → KV K m (fun n => n) ((vo_help b s).1, (vo_help b s).2, s')) : ew_Call (d + 8) 240 [ew_o 11 0, ew_i b, ew_o 19 0] (ew_hp s m) K := by
  have c := cc_helpNext b s
  exact ew_call (ew_go (fun _ => false) 40 (xp_helpNext h b (fun s' F => KQ.of (KO.mk4 (fun e => ⟨⟨ix_0, trivial⟩, trivial, ek_t rfl ((k s' F).1 e)⟩) (fun e => ⟨rfl, trivial, (k s' F).ex 1 1 (by decide) (by decide) rfl e⟩) (fun e => absurd e (cd_no c rfl)) (fun e => absurd e (cd_no c rfl)) (cd1_3 _ c)))))
theorem xv_arriveIn (h : Iv 0 nb ns np T s) (hT : T ≤ 90000000) (j n x w : Int32) (k : ∀ s' v, Fr Ptr s s' → ((∃ c, c < ns ∧ j = ei c) → op_args n x w → ¬ s 10 7 j.toNatClampNeg = 3 → ∃ a, cp_d nb ns s a ∧ v = sp_ai j.toNatClampNeg x w a n.toNatClampNeg 0) → KV K m (fun n => n) ((vo_arr j n x w v s).1, (vo_arr j n x w v s).2, s')) : ew_Call (d + 8) 241 [ew_o 11 0, ew_i j, ew_i n, ew_i x, ew_i w, ew_o 19 0] (ew_hp s m) K := by
  have c := fun v => cc_arriveIn j n x w v s
  exact ew_call (ew_go (fun _ => false) 40 (xp_arriveIn h hT j n x w (fun s' v F hv => KQ.of (KO.mk4 (fun e => ⟨⟨ix_0, trivial⟩, trivial, ek_t rfl ((k s' v F hv).1 e)⟩) (fun e => ⟨rfl, trivial, (k s' v F hv).ex 1 1 (by decide) (by decide) rfl e⟩) (fun e => ⟨rfl, trivial, (k s' v F hv).ex 2 2 (by decide) (by decide) rfl e⟩) (fun e => absurd e (cd_no (c v) rfl)) (cd12_3 _ (c v))))))
end
