/-! The glue to the machine: the objects that are there at the start. -/
section
variable {s : State} {A : Array Value} {G : va_G} {TY : Nat → ClassId} {b L : Nat} {xs : Nat → Int32}
def gl_cells (s : State) (TY : Nat → ClassId) (b L : Nat) (xs : Nat → Int32) : Prop :=
  ∃ c : Cell, s.heap[b]? = some c ∧ s.isArrayOf c .int ∧ c.vm ≠ .unknown ∧ c.slots.size = L ∧ (∀ j, j < L → c.slots[j]? = some (.int (xs j))) ∧ c.cls = TY 117
theorem gl_ns {c : Cell} {ty : FieldType} (h : s.isArrayOf c ty) : c.vm.isStatics = false := by
  cases hv : c.vm with
  | statics k => exact absurd hv (h.1 k)
  | _ => rfl
/-- places of what is there -/
def gl_a0 (b : Nat) (_ _ : Nat) : Nat := b
theorem gl_f0 {k i : Nat} (h : cx_f0 k i = true) : k = 17 ∧ i = 0 := by
  unfold cx_f0 at h
  rw [Bool.and_eq_true] at h
  exact ⟨ew_beq h.1, ew_beq h.2⟩
theorem gl_I (hC : gl_cells s TY b L xs) : ew_I G TY s.heap.size s.heap (gl_a0 b) (cx_h0 xs L) s.heap := by
  obtain ⟨c1, p1, p2, p3, p4, p5, p6⟩ := hC
  have lt : ∀ {a : Nat} {c : Cell}, s.heap[a]? = some c → a < s.heap.size := fun h => (Array.getElem?_eq_some_iff.mp h).1
  refine ⟨fun k i f => ?_, fun k i k' i' f f' e => ?_, fun k i p f => ?_, fun k i hc _ => ?_, Nat.le_refl _, fun _ _ => rfl⟩
  · obtain ⟨rfl, rfl⟩ := gl_f0 f
    exact ⟨⟨fun z => absurd z (by decide), fun _ => ⟨c1, p1, ⟨p3, gl_ns p2⟩, fun z => absurd z (by decide), fun _ _ => ⟨p6, ⟨Nat.le_of_eq p4.symm, by rw [p4]; rfl⟩, fun j hj => p5 j hj⟩⟩⟩, lt p1, fun z => absurd z (by decide), by decide⟩
  · obtain ⟨rfl, rfl⟩ := gl_f0 f
    obtain ⟨rfl, rfl⟩ := gl_f0 f'
    exact ⟨rfl, rfl⟩
  · obtain ⟨rfl, rfl⟩ := gl_f0 f
    exact trivial
  · cases hf : (cx_h0 xs L).2.2.1 k i with
    | false => rfl
    | true =>
      have := cx_ctr_cst (cx_f0_cst (k := k) (i := i) hf)
      rw [hc] at this
      exact Bool.noConfusion this
/-! The glue to the machine: what is there at the start, out of what is given. -/
theorem gl_start (hts : ∀ w ∈ lw_tbl, w.before A s = true) (hX : va_X b L xs s s.heap) : ∃ (G : va_G) (TY : Nat → ClassId), va_K G vwCl [] s ∧ ew_AT TY s ∧ gl_cells s TY b L xs := by
  obtain ⟨G, hK⟩ := gl_K (gl_tw hts)
  obtain ⟨scr, x1, x2, x3, x4, x5⟩ := hX
  have tA : ∀ {c : Cell}, s.isArrayOf c .int → ArrOfT s c.cls .int := fun h => by
    obtain ⟨-, k, hk, comp, hkind⟩ := h
    exact fun n z => ⟨fun k h => (by cases h), k, hk, comp, hkind⟩
  obtain ⟨o2, o3, o4, o5⟩ := gl_AOs hts
  obtain ⟨TY, hA, f1⟩ := gl_AT (hts _ (by decide +kernel)) (hts _ (by decide +kernel)) (gl_aa hts) o2 o3 o4 o5 (tA x2)
  exact ⟨G, TY, hK, hA, ⟨scr, x1, x2, x3, x4, x5, f1.symm⟩⟩
def gl_CK (b : Nat) (k i : Nat) : Option Nat := bif cx_f0 k i then some b else none
theorem gl_ck : ew_ck (gl_CK b) (cx_h0 xs L) (gl_a0 b) := fun k i q e => by
  unfold gl_CK at e
  cases hf : cx_f0 k i with
  | false => rw [hf, cond_false] at e; cases e
  | true => rw [hf, cond_true] at e; exact ⟨hf, Option.some.inj e⟩
theorem gl_SP : ew_SP (gl_CK b) ev_NW (gl_Wd s) s.heap.size s.heap := fun cl x v h => by cases h
end
