/-! What the chart and the trial leave alone. -/
theorem d_D_cg {pr pr' : Nat → Nat} {fr : Nat} (e : ∀ c, c < 15 → pr' c = pr c) : ∀ k c, c < 15 → d_D pr' fr k c = d_D pr fr k c
  | 0, _, _ => rfl
  | k + 1, c, hc => by
    have n : ∀ w, d_n (d_D pr' fr k) c w = d_n (d_D pr fr k) c w := fun w => by
      unfold d_n
      rcases ef_nb_r hc (ei w) with z | ⟨t, ht, z, -⟩
      · rw [if_pos z, if_pos z]
      · rw [z, if_neg (ei_m1 t ht), if_neg (ei_m1 t ht), ei_nat (by omega)]
        exact d_D_cg e k t ht
    show (if pr' c = 2 then d_D pr' fr k c else Nat.min (d_D pr' fr k c) (d_m (d_D pr' fr k) c + pr' c)) = (if pr c = 2 then d_D pr fr k c else Nat.min (d_D pr fr k c) (d_m (d_D pr fr k) c + pr c))
    unfold d_m
    rw [n 0, n 1, n 2, n 3, e c hc, d_D_cg e k c hc]
theorem d_res_cg {pr pr' : Nat → Nat} {fr to : Nat} (ht : to < 15) (e : ∀ c, c < 15 → pr' c = pr c) : d_res pr' fr to = d_res pr fr to := by
  unfold d_res
  rw [d_D_cg e 15 to ht]
theorem ef_find_cg {p p' : Nat → Bool} : ∀ (r j : Nat), (∀ i, j ≤ i → i < j + r → p' i = p i) → ef_find p' r j = ef_find p r j
  | 0, _, _ => rfl
  | r + 1, j, h => by
    show (bif p' j then ei j else ef_find p' r (j + 1)) = (bif p j then ei j else ef_find p r (j + 1))
    rw [h j (Nat.le_refl _) (by omega), ef_find_cg r (j + 1) (fun i a b => h i (by omega) (by omega))]
def Pct : Nat → Nat → Nat → Prop := fun k p o => Pch k p o ∨ Ptr k p o
theorem Pct.no {k p o : Nat} (h1 : k ≠ 209) (h2 : k ≠ 241) (h : (k = 4 → o < 15) ∧ (k = 9 → o = 0) ∧ (k = 3 → o < 2) ∧ (k = 8 → o < 2) ∧ (k = 145 → o < 2) ∧ (k = 10 → o < 5) ∧ (k = 40 → o < 5) ∧ (k = 593 → o < 5) ∧ (k = 177 → o < 5)) : ¬ Pct k p o := by
  unfold Pct
  rintro (⟨w, -⟩ | w)
  · omega
  · unfold Ptr at w
    omega
section
variable {s s' : ew_S} {nb ns np T : Nat}
theorem pt4 (F : Fr Pct s s') {p c : Nat} (hc : c < 15) : s' 4 p c = s 4 p c := F 4 p c (Pct.no (by decide) (by decide) (by omega))
theorem pt9 (F : Fr Pct s s') {p : Nat} : s' 9 p 0 = s 9 p 0 := F 9 p 0 (Pct.no (by decide) (by decide) (by omega))
theorem pt7 (F : Fr Pct s s') {p o : Nat} : s' 7 p o = s 7 p o := F 7 p o (Pct.no (by decide) (by decide) (by omega))
theorem pt6 (F : Fr Pct s s') {p o : Nat} : s' 6 p o = s 6 p o := F 6 p o (Pct.no (by decide) (by decide) (by omega))
theorem pt18 (F : Fr Pct s s') {p o : Nat} : s' 18 p o = s 18 p o := F 18 p o (Pct.no (by decide) (by decide) (by omega))
theorem pt81 (F : Fr Pct s s') {p o : Nat} : s' 81 p o = s 81 p o := F 81 p o (Pct.no (by decide) (by decide) (by omega))
theorem pt113 (F : Fr Pct s s') {p o : Nat} : s' 113 p o = s 113 p o := F 113 p o (Pct.no (by decide) (by decide) (by omega))
theorem pt3 (F : Fr Pct s s') {p o : Nat} (ho : o < 2) : s' 3 p o = s 3 p o := F 3 p o (Pct.no (by decide) (by decide) (by omega))
theorem pt8 (F : Fr Pct s s') {p o : Nat} (ho : o < 2) : s' 8 p o = s 8 p o := F 8 p o (Pct.no (by decide) (by decide) (by omega))
theorem pt145 (F : Fr Pct s s') {p o : Nat} (ho : o < 2) : s' 145 p o = s 145 p o := F 145 p o (Pct.no (by decide) (by decide) (by omega))
theorem pt10 (F : Fr Pct s s') {p o : Nat} (ho : o < 5) : s' 10 p o = s 10 p o := F 10 p o (Pct.no (by decide) (by decide) (by omega))
theorem pt40 (F : Fr Pct s s') {p o : Nat} (ho : o < 5) : s' 40 p o = s 40 p o := F 40 p o (Pct.no (by decide) (by decide) (by omega))
theorem pt593 (F : Fr Pct s s') {p o : Nat} (ho : o < 5) : s' 593 p o = s 593 p o := F 593 p o (Pct.no (by decide) (by decide) (by omega))
theorem pt177 (F : Fr Pct s s') {p o : Nat} (ho : o < 5) : s' 177 p o = s 177 p o := F 177 p o (Pct.no (by decide) (by decide) (by omega))
theorem Iv.pt (h : Iv 0 nb ns np T s) (F : Fr Pct s s') : Iv 0 nb ns np T s' := by
  obtain ⟨a, b, hc, hb, hs, hp, n, ht1, ht2⟩ := h
  refine ⟨a, ⟨(pt9 F).trans b.1, (pt9 F).trans b.2.1, (pt7 F).trans b.2.2⟩, fun c z => (hc c z).to (fun p => pt4 F (by omega)), fun c z => (hb c z).to (fun p => pt3 F (by omega)) (fun p => pt8 F (by omega)) (fun p => pt145 F (by omega)), fun c z => (hs c z).to (fun p => pt10 F (by omega)) (fun p => pt40 F (by omega)) (fun p => pt593 F (by omega)), fun c z => (hp c z).to (fun p => pt6 F) (fun p => pt18 F), n, ht1, fun c z => (pt4 F (by omega)).trans (ht2 c z)⟩
theorem sp_w_pt (F : Fr Pct s s') {c : Nat} (hc : c < 15) : sp_w 0 c s' = sp_w 0 c s := by
  unfold sp_w
  rw [pt4 F (by omega), pt4 F (by omega), pt4 F (by omega)]
theorem sp_way_pt (F : Fr Pct s s') {j t : Nat} (hj : j < 5) (ht : t < 15) : sp_way j t s' = sp_way j t s := by
  unfold sp_way
  rw [pt10 F hj]
  refine d_res_cg ht (fun c hc => ?_)
  unfold sp_pw
  rw [sp_w_pt F hc, pt4 F (by omega), pt10 F hj, pt10 F hj]
theorem sp_tb_pt (h : Iv 0 nb ns np T s) (F : Fr Pct s s') {j : Nat} (hj : j < ns) : sp_tb j s' = sp_tb j s := by
  have h5 := h.1
  obtain ⟨p, hp, e⟩ := (h.2.2.2.2.1 j hj).2.2.1
  have e : s 10 6 j = ei p := e
  obtain ⟨t, ht, e2⟩ := (h.2.2.2.2.2.1 p hp).1
  have e2 : s 6 4 p = ei t := e2
  unfold sp_tb
  rw [pt10 F (by omega), pt10 F (by omega), pt6 F, e, ei_nat (by omega), e2, ei_nat (by omega)]
  refine d_res_cg ht (fun c hc => ?_)
  unfold sp_pb
  rw [sp_w_pt F hc, pt4 F (by omega), pt4 F (by omega), pt4 F (by omega), pt10 F (by omega), pt10 F (by omega)]
theorem sp_led_pt (h : Iv 0 nb ns np T s) (F : Fr Pct s s') (w x : Int32) : sp_led w x s' = sp_led w x s := by
  have h5 := h.1
  unfold sp_led
  rw [pt9 F, h.2.1.2.1, ei_nat (by omega)]
  exact ef_sum_cg _ _ ns (fun c hc => by rw [pt10 F (by omega), pt10 F (by omega)])
theorem sp_tug_pt (h : Iv 0 nb ns np T s) (F : Fr Pct s s') (x : Int32) : sp_tug x s' = sp_tug x s := by
  have h5 := h.1
  unfold sp_tug
  rw [pt9 F, h.2.1.2.1, ei_nat (by omega)]
  exact ef_find_cg ns 0 (fun c _ hc => by
    show decide (s' 10 7 c = 2 ∧ s' 10 8 c = x) = decide (s 10 7 c = 2 ∧ s 10 8 c = x)
    rw [pt10 F (by omega), pt10 F (by omega)])
theorem sp_bv_pt (h : Iv 0 nb ns np T s) (F : Fr Pct s s') {b : Nat} (hb : b < nb) (x w : Int32) : sp_bv b x w s' = sp_bv b x w s := by
  have h5 := h.1
  unfold sp_bv
  rw [pt3 F (by omega), pt3 F (by omega), pt3 F (by omega), pt8 F (by omega), sp_led_pt h F, sp_tug_pt h F]
theorem sp_sv_pt (h : Iv 0 nb ns np T s) (F : Fr Pct s s') {j : Nat} (hj : j < ns) (w : Int32) : sp_sv j w s' = sp_sv j w s := by
  have h5 := h.1
  have e : ∀ p, s' 10 p j = s 10 p j := fun p => pt10 F (by omega)
  unfold sp_sv
  rw [e, e, e, e, e, e, e, e, e, pt40 F (by omega), pt177 F (by omega)]
theorem sp_if_pt (F : Fr Pct s s') (p : Nat) (x : Int32) : sp_if p x s' = sp_if p x s := by
  unfold sp_if
  rw [pt6 F, show (fun r => s' 113 r p) = (fun r => s 113 r p) from funext fun r => pt113 F, show (fun r => s' 81 r p) = (fun r => s 81 r p) from funext fun r => pt81 F]
theorem sp_hn_pt (h : Iv 0 nb ns np T s) (F : Fr Pct s s') {b : Nat} (hb : b < nb) : ∀ n, n ≤ ns → sp_hn b s' n = sp_hn b s n
  | 0, _ => rfl
  | j + 1, hn => by
    have h5 := h.1
    have r : sp_rem b j s' = sp_rem b j s := by
      unfold sp_rem
      rw [pt3 F (by omega), pt10 F (by omega), ef_sum_cg (fun p => s' 177 p j) (fun p => s 177 p j) 5 (fun c _ => pt177 F (by omega))]
    unfold sp_hn
    rw [sp_hn_pt h F hb j (by omega), r, sp_tb_pt h F (by omega), pt10 F (by omega)]
end
