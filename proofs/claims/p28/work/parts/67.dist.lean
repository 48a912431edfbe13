/-! Shortest ways: rounds of two kinds end alike. -/
def d_n (f : Nat → Nat) (c w : Nat) : Nat := if ef_nb c (ei w) = -1 then 1000 else f (ef_nb c (ei w)).toNatClampNeg
/-- the least at a neighbour -/
def d_m (f : Nat → Nat) (c : Nat) : Nat := Nat.min (Nat.min (Nat.min (Nat.min 1000 (d_n f c 0)) (d_n f c 1)) (d_n f c 2)) (d_n f c 3)
/-- by k steps at most from fr: entering c costs pr c, 2 if nothing goes there -/
def d_D (pr : Nat → Nat) (fr : Nat) : Nat → Nat → Nat
  | 0, c => if c = fr then 0 else 1000
  | k + 1, c => if pr c = 2 then d_D pr fr k c else Nat.min (d_D pr fr k c) (d_m (d_D pr fr k) c + pr c)
theorem d_m_le {f : Nat → Nat} {c w t : Nat} (hw : w < 4) (ht : t < 15) (h : ef_nb c (ei w) = ei t) : d_m f c ≤ f t := by
  have e : d_n f c w = f t := by
    unfold d_n
    rw [h, if_neg (ei_m1 t ht), ei_nat (by omega)]
  rw [← e]
  unfold d_m
  have : w = 0 ∨ w = 1 ∨ w = 2 ∨ w = 3 := by omega
  rcases this with rfl | rfl | rfl | rfl
  · exact Nat.le_trans (Nat.min_le_left _ _) (Nat.le_trans (Nat.min_le_left _ _) (Nat.le_trans (Nat.min_le_left _ _) (Nat.min_le_right _ _)))
  · exact Nat.le_trans (Nat.min_le_left _ _) (Nat.le_trans (Nat.min_le_left _ _) (Nat.min_le_right _ _))
  · exact Nat.le_trans (Nat.min_le_left _ _) (Nat.min_le_right _ _)
  · exact Nat.min_le_right _ _
theorem d_n_or (f : Nat → Nat) {c w : Nat} (hc : c < 15) : d_n f c w = 1000 ∨ ∃ t, t < 15 ∧ ef_nb c (ei w) = ei t ∧ d_n f c w = f t := by
  unfold d_n
  rcases ef_nb_r hc (ei w) with e | ⟨t, ht, e, -⟩
  · rw [if_pos e]; exact Or.inl rfl
  · rw [e, if_neg (ei_m1 t ht), ei_nat (by omega)]
    exact Or.inr ⟨t, ht, rfl, rfl⟩
theorem d_min (a b : Nat) : Nat.min a b = a ∨ Nat.min a b = b := by
  rcases Nat.le_total a b with h | h
  · exact Or.inl (Nat.min_eq_left h)
  · exact Or.inr (Nat.min_eq_right h)
theorem d_m_or (f : Nat → Nat) {c : Nat} (hc : c < 15) : d_m f c = 1000 ∨ ∃ w t, w < 4 ∧ t < 15 ∧ ef_nb c (ei w) = ei t ∧ d_m f c = f t := by
  have key : ∀ w, w < 4 → d_m f c = d_n f c w → d_m f c = 1000 ∨ ∃ w t, w < 4 ∧ t < 15 ∧ ef_nb c (ei w) = ei t ∧ d_m f c = f t := by
    intro w hw e
    rcases d_n_or f (w := w) hc with h | ⟨t, ht, h1, h2⟩
    · exact Or.inl (e.trans h)
    · exact Or.inr ⟨w, t, hw, ht, h1, e.trans h2⟩
  unfold d_m at key ⊢
  rcases d_min (Nat.min (Nat.min (Nat.min 1000 (d_n f c 0)) (d_n f c 1)) (d_n f c 2)) (d_n f c 3) with e | e
  · rcases d_min (Nat.min (Nat.min 1000 (d_n f c 0)) (d_n f c 1)) (d_n f c 2) with e1 | e1
    · rcases d_min (Nat.min 1000 (d_n f c 0)) (d_n f c 1) with e2 | e2
      · rcases d_min 1000 (d_n f c 0) with e3 | e3
        · exact Or.inl (e.trans (e1.trans (e2.trans e3)))
        · exact key 0 (by decide) (e.trans (e1.trans (e2.trans e3)))
      · exact key 1 (by decide) (e.trans (e1.trans e2))
    · exact key 2 (by decide) (e.trans e1)
  · exact key 3 (by decide) e
theorem d_m_1000 (f : Nat → Nat) (c : Nat) : d_m f c ≤ 1000 := by
  unfold d_m
  exact Nat.le_trans (Nat.min_le_left _ _) (Nat.le_trans (Nat.min_le_left _ _) (Nat.le_trans (Nat.min_le_left _ _) (Nat.min_le_left _ _)))
section
variable {pr : Nat → Nat} {fr : Nat}
theorem d_D_1000 : ∀ k c, d_D pr fr k c ≤ 1000
  | 0, c => by unfold d_D; split <;> omega
  | k + 1, c => by
    unfold d_D
    split
    · exact d_D_1000 k c
    · exact Nat.le_trans (Nat.min_le_left _ _) (d_D_1000 k c)
theorem d_D_s (k c : Nat) : d_D pr fr (k + 1) c ≤ d_D pr fr k c := by
  show (if pr c = 2 then d_D pr fr k c else Nat.min (d_D pr fr k c) (d_m (d_D pr fr k) c + pr c)) ≤ _
  split
  · exact Nat.le_refl _
  · exact Nat.min_le_left _ _
theorem d_D_mono {j k : Nat} (h : j ≤ k) (c : Nat) : d_D pr fr k c ≤ d_D pr fr j c := by
  induction h with
  | refl => exact Nat.le_refl _
  | step _ ih => exact Nat.le_trans (d_D_s _ c) ih
/-- a way that got shorter by its last step goes through ever new cells -/
theorem d_chain : ∀ k c, c < 15 → d_D pr fr (k + 1) c < d_D pr fr k c → ∃ l : List Nat, l.length = k + 2 ∧ l.Nodup ∧ (∀ x, x ∈ l → x < 15 ∧ ∃ j, j ≤ k + 1 ∧ d_D pr fr j x ≤ d_D pr fr (k + 1) c)
  | k, c, hc, h => by
    have hb : ¬ pr c = 2 := fun e => by
      have : d_D pr fr (k + 1) c = d_D pr fr k c := if_pos e
      omega
    have e1 : d_D pr fr (k + 1) c = Nat.min (d_D pr fr k c) (d_m (d_D pr fr k) c + pr c) := if_neg hb
    have e2 : d_D pr fr (k + 1) c = d_m (d_D pr fr k) c + pr c := by
      rcases d_min (d_D pr fr k c) (d_m (d_D pr fr k) c + pr c) with e | e
      · rw [e] at e1; omega
      · rw [e1, e]
    rcases d_m_or (d_D pr fr k) hc with e3 | ⟨w, t, hw, ht, e3, e4⟩
    · have := d_D_1000 (pr := pr) (fr := fr) k c
      omega
    have hle : d_D pr fr k t ≤ d_D pr fr (k + 1) c := by omega
    cases k with
    | zero =>
      refine ⟨[c, t], rfl, ?_, fun x hx => ?_⟩
      · refine List.nodup_cons.mpr ⟨fun hm => ?_, List.nodup_cons.mpr ⟨List.not_mem_nil, List.nodup_nil⟩⟩
        have : c = t := List.mem_singleton.mp hm
        subst this
        omega
      · rcases List.mem_cons.mp hx with rfl | hx
        · exact ⟨hc, 1, by omega, Nat.le_refl _⟩
        · obtain rfl := List.mem_singleton.mp hx
          exact ⟨ht, 0, by omega, hle⟩
    | succ k =>
      have hlt : d_D pr fr (k + 1) t < d_D pr fr k t := by
        refine Nat.lt_of_le_of_ne (d_D_s k t) (fun e => ?_)
        have a1 : d_D pr fr (k + 1) c = Nat.min (d_D pr fr k c) (d_m (d_D pr fr k) c + pr c) := if_neg hb
        have a2 : Nat.min (d_D pr fr k c) (d_m (d_D pr fr k) c + pr c) ≤ d_m (d_D pr fr k) c + pr c := Nat.min_le_right _ _
        have a3 := d_m_le (f := d_D pr fr k) hw ht e3
        omega
      obtain ⟨l, l1, l2, l3⟩ := d_chain k t ht hlt
      refine ⟨c :: l, by rw [List.length_cons, l1], List.nodup_cons.mpr ⟨fun hm => ?_, l2⟩, fun x hx => ?_⟩
      · obtain ⟨-, j, hj, hd⟩ := l3 c hm
        have := d_D_mono (pr := pr) (fr := fr) hj c
        omega
      · rcases List.mem_cons.mp hx with rfl | hx
        · exact ⟨hc, k + 2, by omega, Nat.le_refl _⟩
        · obtain ⟨h1, j, hj, hd⟩ := l3 x hx
          exact ⟨h1, j, by omega, Nat.le_trans hd hle⟩
theorem d_pig : ∀ (n : Nat) (l : List Nat), l.Nodup → (∀ x, x ∈ l → x < n) → l.length ≤ n
  | 0, l, _, h => by
    cases l with
    | nil => exact Nat.le_refl _
    | cons x l => exact absurd (h x List.mem_cons_self) (Nat.not_lt_zero _)
  | n + 1, l, hl, h => by
    have := d_pig n (l.erase n) (hl.erase n) (fun x hx => by
      have h1 := (List.Nodup.mem_erase_iff hl).mp hx
      have := h x h1.2
      omega)
    by_cases hm : n ∈ l
    · rw [List.length_erase_of_mem hm] at this; omega
    · rw [List.erase_of_not_mem hm] at this; omega
theorem d_fix {k : Nat} (hk : 14 ≤ k) {c : Nat} (hc : c < 15) : d_D pr fr (k + 1) c = d_D pr fr k c := by
  refine Nat.le_antisymm (d_D_s k c) (Nat.not_lt.mp (fun h => ?_))
  obtain ⟨l, l1, l2, l3⟩ := d_chain k c hc h
  have := d_pig 15 l l2 (fun x hx => (l3 x hx).1)
  omega
theorem d_fixed {k : Nat} (hk : 15 ≤ k) {c : Nat} (hc : c < 15) : d_D pr fr k c = d_D pr fr 15 c := by
  induction hk with
  | refl => rfl
  | step h ih => exact (d_fix (Nat.le_trans (by decide) h) hc).trans ih
/-- between the least and what k rounds give -/
def d_I (pr : Nat → Nat) (fr k : Nat) (C : Nat → Nat) : Prop := ∀ c, c < 15 → d_D pr fr 15 c ≤ C c ∧ C c ≤ d_D pr fr k c
theorem d_low {c t w : Nat} (hc : c < 15) (ht : t < 15) (hw : w < 4) (hp : ¬ pr c = 2) (h : ef_nb c (ei w) = ei t) : d_D pr fr 15 c ≤ d_D pr fr 15 t + pr c := by
  rw [← d_fix (k := 15) (by decide) hc]
  show (if pr c = 2 then d_D pr fr 15 c else Nat.min (d_D pr fr 15 c) (d_m (d_D pr fr 15) c + pr c)) ≤ _
  rw [if_neg hp]
  exact Nat.le_trans (Nat.min_le_right _ _) (Nat.add_le_add_right (d_m_le hw ht h) _)
theorem d_end {C : Nat → Nat} (h : d_I pr fr 15 C) {c : Nat} (hc : c < 15) : C c = d_D pr fr 15 c := Nat.le_antisymm (h c hc).2 (h c hc).1
/-- a cell taken new: from its neighbours, k rounds behind some, k + 1 behind others -/
theorem d_pull {k c : Nat} {C : Nat → Nat} (hc : c < 15) (h : d_I pr fr k C) (hp : ¬ pr c = 2) : d_D pr fr 15 c ≤ Nat.min (C c) (d_m C c + pr c) ∧ Nat.min (C c) (d_m C c + pr c) ≤ d_D pr fr (k + 1) c := by
  refine ⟨Nat.le_min.mpr ⟨(h c hc).1, ?_⟩, ?_⟩
  · rcases d_m_or C hc with e | ⟨w, t, hw, ht, e, e2⟩
    · rw [e]
      have := d_D_1000 (pr := pr) (fr := fr) 15 c
      omega
    · rw [e2]
      exact Nat.le_trans (d_low hc ht hw hp e) (Nat.add_le_add_right (h t ht).1 _)
  · show _ ≤ (if pr c = 2 then d_D pr fr k c else Nat.min (d_D pr fr k c) (d_m (d_D pr fr k) c + pr c))
    rw [if_neg hp]
    refine Nat.le_min.mpr ⟨Nat.le_trans (Nat.min_le_left _ _) (h c hc).2, Nat.le_trans (Nat.min_le_right _ _) (Nat.add_le_add_right ?_ _)⟩
    rcases d_m_or (d_D pr fr k) hc with e | ⟨w, t, hw, ht, e, e2⟩
    · rw [e]; exact d_m_1000 C c
    · rw [e2]
      exact Nat.le_trans (d_m_le hw ht e) (h t ht).2
end
