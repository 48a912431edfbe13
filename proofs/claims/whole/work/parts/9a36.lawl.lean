/-! The law's loop. -/
theorem MI.up {nb ns np n : Nat} {β σ : Nat → Nat} {ρ : Nat → Nat → Nat} {s : ew_S} {m : ew_H} (M : MI nb ns np n β σ ρ s m) : MI nb ns np (n + 1) β σ ρ s m := by
  obtain ⟨R, ⟨h16, h13⟩, ⟨u, l⟩, t, ht, hT⟩ := M
  exact MI.next h16 rfl R (by omega) (Ex.rf PT s m) h13 u l (show t ≤ 24 * (n + 1) by omega) hT
theorem WI.up {L c0 d0 n : Nat} {m : ew_H} (W : WI L c0 d0 n m) : WI L c0 d0 (n + 1) m := ⟨W.1, by have := W.2.1; omega, by have := W.2.2; omega⟩
theorem ei_sub5 {L x : Nat} (hL : L ≤ 2560) (hx : x ≤ 2560) (h : ¬ ei L - 5 < ei x) : x + 5 ≤ L := by
  by_cases e : L < 5
  · exfalso
    have neg : ei L - 5 < 0 := by
      have : L = 0 ∨ L = 1 ∨ L = 2 ∨ L = 3 ∨ L = 4 := by omega
      rcases this with rfl | rfl | rfl | rfl | rfl <;> decide
    exact h (Int32.lt_of_lt_of_le neg (Int32.not_lt.mp (ei_nn (by omega))))
  · have e2 : ei L - 5 = ei (L - 5) := by
      rw [show L = L - 5 + 5 by omega, ← ei_add, Nat.add_sub_cancel]
      exact Int32.add_sub_cancel _ _
    rw [e2, Int32.not_lt, ei_le (by omega) (by omega)] at h
    omega
section
variable {d : Nat} {K : ew_R → ew_H → Prop} {L c0 d0 : Nat}
theorem lw_case {nb ns np n : Nat} {β σ : Nat → Nat} {ρ : Nat → Nat → Nat} {s : ew_S} {m : ew_H} {u5 u6 u7 u8 : Option ew_V} (A : LA L c0 d0 nb ns np n β σ ρ s m) (k : LK d K L c0 d0 n) : ew_W (ew_Call (d + 9)) 242 K (32, [some (ew_o 17 0), some (ew_o 11 0), some (ew_o 16 0), some (ew_o 19 0), some (ew_i (ei (5 * n))), u5, u6, u7, u8], [], ew_hp s m) := by
  have ix : ew_ix (ei (5 * n)) (m.2.1 17 0) := by
    rw [A.2.1.1]
    exact ei_ix (by have := A.2.2.2.1; omega) (by have := A.2.2.2.2; omega)
  have skip : ew_W (ew_Call (d + 9)) 242 K (1778, [some (ew_o 17 0), some (ew_o 11 0), some (ew_o 16 0), some (ew_o 19 0), some (ew_i (ei (5 * n))), u5, u6, u7, u8], [], ew_hp s m) := lw_next k A.1.up A.2.1.up
  exact ew_go (fun pc => Nat.ble 152 pc) 40 ⟨ix, ⟨fun _ => lw_ice A k, fun _ => ⟨fun _ => lw_land A k, fun _ => ⟨fun _ => lw_port A k, fun _ => ⟨fun _ => lw_rule A k, fun _ => ⟨fun _ => lw_exempt A k, fun _ => ⟨fun _ => lw_breaker A k, fun _ => ⟨fun _ => lw_ship A k, fun _ => ⟨fun _ => lw_steer A k, fun _ => ⟨fun _ => lw_sail A k, fun _ => ⟨fun _ => lw_halt A k, fun _ => ⟨fun _ => lw_lead A k, fun _ => ⟨fun _ => lw_tow A k, fun _ => ⟨fun _ => lw_fuel A k, fun _ => ⟨fun _ => lw_pass A k, fun _ => ⟨fun _ => lw_ofCell A k, fun _ => ⟨fun _ => lw_ofBreaker A k, fun _ => ⟨fun _ => lw_ofShip A k, fun _ => ⟨fun _ => lw_inForce A k, fun _ => ⟨fun _ => lw_many A k, fun _ => ⟨fun _ => lw_meanIce A k, fun _ => ⟨fun _ => lw_way A k, fun _ => ⟨fun _ => lw_toBreak A k, fun _ => ⟨fun _ => lw_helpNext A k, fun _ => ⟨fun _ => lw_arriveIn A k, fun _ => ⟨fun _ => lw_digest A k, fun _ => skip⟩⟩⟩⟩⟩⟩⟩⟩⟩⟩⟩⟩⟩⟩⟩⟩⟩⟩⟩⟩⟩⟩⟩⟩⟩⟩
theorem lw_loop (hL : L ≤ 2560) (kret : ∀ (s : ew_S) (m : ew_H), WI L c0 d0 512 m → K (.inl (some (ew_i 1))) (ew_hp s m)) : ∀ (r n : Nat) (nb ns np : Nat) (β σ : Nat → Nat) (ρ : Nat → Nat → Nat) (s : ew_S) (m : ew_H) (u5 u6 u7 u8 : Option ew_V), n + r = 512 → MI nb ns np n β σ ρ s m → WI L c0 d0 n m → ew_W (ew_Call (d + 9)) 242 K (23, [some (ew_o 17 0), some (ew_o 11 0), some (ew_o 16 0), some (ew_o 19 0), some (ew_i (ei (5 * n))), u5, u6, u7, u8], [], ew_hp s m) := by
  intro r
  induction r with
  | zero =>
    intro n nb ns np β σ ρ s m u5 u6 u7 u8 hr M W
    obtain rfl : n = 512 := by omega
    have kr := kret s m W
    exact ew_go (fun pc => Nat.beq pc 32) 40 ⟨fun _ => ⟨Or.inr rfl, kr⟩, fun z => absurd (ei_sub5 hL (x := 5 * 512) (by decide) (by rw [← W.1]; exact z)) (by omega)⟩
  | succ r ih =>
    intro n nb ns np β σ ρ s m u5 u6 u7 u8 hr M W
    have Wu : ∀ j n, n + j = 512 → ∀ m, WI L c0 d0 n m → WI L c0 d0 512 m := fun j => by
      induction j with
      | zero => intro n h m w; rw [show (512 : Nat) = n by omega]; exact w
      | succ j ihj => intro n h m w; exact ihj (n + 1) (by omega) m w.up
    have kr := kret s m (Wu (r + 1) n hr m W)
    have go : 5 * n + 5 ≤ L → ew_W (ew_Call (d + 9)) 242 K (32, [some (ew_o 17 0), some (ew_o 11 0), some (ew_o 16 0), some (ew_o 19 0), some (ew_i (ei (5 * n))), u5, u6, u7, u8], [], ew_hp s m) := fun hi =>
      lw_case ⟨M, W, by omega, hi, hL⟩ (fun nb ns np β σ ρ s m u5 u6 u7 u8 M W => ih (n + 1) nb ns np β σ ρ s m u5 u6 u7 u8 (by omega) M W)
    exact ew_go (fun pc => Nat.beq pc 32) 40 ⟨fun _ => ⟨Or.inr rfl, kr⟩, fun z => go (ei_sub5 hL (by omega) (by rw [← W.1]; exact z))⟩
end
