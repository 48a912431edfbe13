/-! The glue to the machine: the objects that are there at the start. -/
section
variable {s : State} {A : Array Value} {G : va_G} {TY : Nat → ClassId} {b L tb te : Nat} {xs : Nat → Int32} {ad : Nat → Nat}
abbrev gl_BE : Term := .static "ChannelWinterModel" "BEARS" "[I"
abbrev gl_EM : Term := .static "java/util/ArrayList" "DEFAULTCAPACITY_EMPTY_ELEMENTDATA" "[Ljava/lang/Object;"
abbrev gl_IC : Term := .static "java/lang/Integer$IntegerCache" "cache" "[Ljava/lang/Integer;"
def gl_cells (s : State) (TY : Nat → ClassId) (ad : Nat → Nat) (b tb te L : Nat) (xs : Nat → Int32) : Prop :=
  (∃ c : Cell, s.heap[b]? = some c ∧ s.isArrayOf c .int ∧ c.vm ≠ .unknown ∧ c.slots.size = L ∧ (∀ j, j < L → c.slots[j]? = some (.int (xs j))) ∧ c.cls = TY 117) ∧
  (∃ c : Cell, s.heap[tb]? = some c ∧ s.isArrayOf c .int ∧ c.vm ≠ .unknown ∧ (5 ≤ c.slots.size ∧ c.slots.size.toInt32 = Int32.ofNat 5) ∧ (∀ j, j < 5 → c.slots[j]? = some (.int (ef_bears (ei j)))) ∧ c.cls = TY 149) ∧
  (∃ c : Cell, s.heap[te]? = some c ∧ s.isArrayOf c (.object "java/lang/Object") ∧ c.vm ≠ .unknown ∧ c.slots.size.toInt32 = Int32.ofNat 0 ∧ c.cls = TY 20) ∧
  vb_C ad (fun q => s.heap.size ≤ q) s s.heap ∧ b ≠ tb
theorem gl_ns {c : Cell} {ty : FieldType} (h : s.isArrayOf c ty) : c.vm.isStatics = false := by
  cases hv : c.vm with
  | statics k => exact absurd hv (h.1 k)
  | _ => rfl
/-- places of what is there -/
def gl_a0 (ad : Nat → Nat) (b tb te : Nat) (k i : Nat) : Nat := bif Nat.beq k 0 then ad i else bif Nat.beq k 17 then b else bif Nat.beq k 49 then tb else te
theorem gl_f0 {k i : Nat} (h : cx_f0 k i = true) : (k = 0 ∧ i < 256) ∨ (k = 17 ∧ i = 0) ∨ (k = 49 ∧ i = 0) ∨ (k = 212 ∧ i = 0) := by
  unfold cx_f0 at h
  simp only [Bool.or_eq_true, Bool.and_eq_true] at h
  rcases h with ((⟨h, g⟩ | ⟨h, g⟩) | ⟨h, g⟩) | ⟨h, g⟩
  · exact Or.inl ⟨ew_beq h, Nat.le_of_ble_eq_true g⟩
  · exact Or.inr (Or.inl ⟨ew_beq h, ew_beq g⟩)
  · exact Or.inr (Or.inr (Or.inl ⟨ew_beq h, ew_beq g⟩))
  · exact Or.inr (Or.inr (Or.inr ⟨ew_beq h, ew_beq g⟩))
/-- what a place holds: the class's kind there, for telling places apart -/
theorem gl_kind_arr {c : Cell} {ty : FieldType} (h : s.isArrayOf c ty) : ∃ k, s.vm.classes[c.cls]? = some k ∧ ∃ comp, k.kind = .array comp ty := h.2
theorem gl_int (hK : va_K G vwCl [] s) (hC : vb_C ad (fun q => s.heap.size ≤ q) s s.heap) {i : Nat} (hi : i < 256) : ∃ c : Cell, s.heap[ad i]? = some c ∧ (c.vm ≠ .unknown ∧ c.vm.isStatics = false) ∧ c.cls = G.1 0 ∧ c.slots[G.2 0 0]? = some (.int (ei i - 128)) ∧ ∃ k, s.vm.classes[c.cls]? = some k ∧ k.kind = .ordinary := by
  obtain ⟨c, h1, h2, h3, -⟩ := hC.1 i hi
  obtain ⟨cf, kf, fi, f, c', g1, g2, g3, g4, g5, -⟩ := hC.2 i hi
  cases h1.symm.trans g3
  have hr : vwCl[0]? = some (vwCl[0]'(by decide)) := rfl
  obtain ⟨hS, hf, kC, hkC, hkind⟩ := hK.1 0 _ hr
  obtain ⟨cf', kf', fi', f', e1, e2⟩ := hS 0 (by decide)
  have hcls : c.cls = G.1 0 := Option.some.inj (h3.symm.trans hf)
  have ef : (cf, kf, fi, f) = (cf', kf', fi', f') := Option.some.inj (g1.symm.trans e1)
  cases ef
  exact ⟨c, h1, ⟨g4, h2⟩, hcls, by rw [← e2]; exact g5, kC, by rw [hcls]; exact hkC, hkind⟩
theorem gl_I (hK : va_K G vwCl [] s) (hA : ew_AT TY s) (hC : gl_cells s TY ad b tb te L xs) : ew_I G TY s.heap.size s.heap (gl_a0 ad b tb te) (cx_h0 xs L) s.heap := by
  obtain ⟨⟨c1, p1, p2, p3, p4, p5, p6⟩, ⟨c2, q1, q2, q3, q4, q5, q6⟩, ⟨c3, r1, r2, r3, r4, r5⟩, hI, hne⟩ := hC
  have lt : ∀ {a : Nat} {c : Cell}, s.heap[a]? = some c → a < s.heap.size := fun h => (Array.getElem?_eq_some_iff.mp h).1
  refine ⟨fun k i f => ?_, fun k i k' i' f f' e => ?_, fun k i p f => ?_, fun k i hc _ => ?_, Nat.le_refl _, fun _ _ => rfl⟩
  · rcases gl_f0 f with ⟨rfl, hi⟩ | ⟨rfl, rfl⟩ | ⟨rfl, rfl⟩ | ⟨rfl, rfl⟩
    · obtain ⟨c, h1, h2, h3, h4, -⟩ := gl_int hK hI hi
      refine ⟨⟨fun z => absurd z (by decide), fun _ => ⟨c, h1, h2, fun _ => ⟨_, rfl, h3, fun j hj => ?_⟩, fun z _ => absurd z (by decide)⟩⟩, lt h1, fun z => absurd z (by decide), by decide⟩
      have hj1 : j < 1 := hj
      obtain rfl : j = 0 := by omega
      exact h4
    · exact ⟨⟨fun z => absurd z (by decide), fun _ => ⟨c1, p1, ⟨p3, gl_ns p2⟩, fun z => absurd z (by decide), fun _ _ => ⟨p6, ⟨Nat.le_of_eq p4.symm, by rw [p4]; rfl⟩, fun j hj => p5 j hj⟩⟩⟩, lt p1, fun z => absurd z (by decide), by decide⟩
    · exact ⟨⟨fun z => absurd z (by decide), fun _ => ⟨c2, q1, ⟨q3, gl_ns q2⟩, fun z => absurd z (by decide), fun _ _ => ⟨q6, q4, fun j hj => q5 j hj⟩⟩⟩, lt q1, fun z => absurd z (by decide), by decide⟩
    · exact ⟨⟨fun z => absurd z (by decide), fun _ => ⟨c3, r1, ⟨r3, gl_ns r2⟩, fun z => absurd z (by decide), fun _ _ => ⟨r5, ⟨Nat.zero_le _, r4⟩, fun j hj => absurd hj (Nat.not_lt_zero j)⟩⟩⟩, lt r1, fun z => absurd z (by decide), by decide⟩
  · have no : ∀ {a : Nat} {c c' : Cell} {ty : FieldType}, s.heap[a]? = some c → s.heap[a]? = some c' → s.isArrayOf c' ty → (∃ k, s.vm.classes[c.cls]? = some k ∧ k.kind = .ordinary) → False := fun h h' ha ho => by
      cases h.symm.trans h'
      obtain ⟨-, k1, x1, comp, x2⟩ := ha
      obtain ⟨k2, y1, y2⟩ := ho
      cases x1.symm.trans y1
      rw [y2] at x2
      cases x2
    have nt : ∀ {a : Nat} {c c' : Cell} {C : String}, s.heap[a]? = some c → s.heap[a]? = some c' → s.isArrayOf c .int → s.isArrayOf c' (.object C) → False := fun h h' ha ho => by
      cases h.symm.trans h'
      obtain ⟨-, k1, x1, comp, x2⟩ := ha
      obtain ⟨-, k2, y1, comp', y2⟩ := ho
      cases x1.symm.trans y1
      rw [y2] at x2
      cases x2
    rcases gl_f0 f with ⟨rfl, hi⟩ | ⟨rfl, rfl⟩ | ⟨rfl, rfl⟩ | ⟨rfl, rfl⟩ <;> rcases gl_f0 f' with ⟨rfl, hi'⟩ | ⟨rfl, rfl⟩ | ⟨rfl, rfl⟩ | ⟨rfl, rfl⟩
    · refine ⟨rfl, ?_⟩
      have e : ad i = ad i' := e
      obtain ⟨c, h1, -, -, h4, -⟩ := gl_int hK hI hi
      obtain ⟨c', h1', -, -, h4', -⟩ := gl_int hK hI hi'
      rw [← e] at h1'
      cases h1.symm.trans h1'
      have e9 := Option.some.inj (h4.symm.trans h4')
      have e9 : ei i - 128 = ei i' - 128 := Value.int.inj e9
      have e9 : ei i = ei i' := by
        have := congrArg (· + 128) e9
        simpa using this
      exact (ei_inj (by omega) (by omega)).mp e9
    · have e : ad i = b := e
      obtain ⟨c, h1, -, -, -, h5⟩ := gl_int hK hI hi
      rw [e] at h1
      exact (no h1 p1 p2 h5).elim
    · have e : ad i = tb := e
      obtain ⟨c, h1, -, -, -, h5⟩ := gl_int hK hI hi
      rw [e] at h1
      exact (no h1 q1 q2 h5).elim
    · have e : ad i = te := e
      obtain ⟨c, h1, -, -, -, h5⟩ := gl_int hK hI hi
      rw [e] at h1
      exact (no h1 r1 r2 h5).elim
    · have e : b = ad i' := e
      obtain ⟨c, h1, -, -, -, h5⟩ := gl_int hK hI hi'
      rw [← e] at h1
      exact (no h1 p1 p2 h5).elim
    · exact ⟨rfl, rfl⟩
    · exact absurd (show b = tb from e) hne
    · have e : b = te := e
      rw [← e] at r1
      exact (nt p1 r1 p2 r2).elim
    · have e : tb = ad i' := e
      obtain ⟨c, h1, -, -, -, h5⟩ := gl_int hK hI hi'
      rw [← e] at h1
      exact (no h1 q1 q2 h5).elim
    · exact absurd (show b = tb from e.symm) hne
    · exact ⟨rfl, rfl⟩
    · have e : tb = te := e
      rw [← e] at r1
      exact (nt q1 r1 q2 r2).elim
    · have e : te = ad i' := e
      obtain ⟨c, h1, -, -, -, h5⟩ := gl_int hK hI hi'
      rw [← e] at h1
      exact (no h1 r1 r2 h5).elim
    · have e : te = b := e
      rw [e] at r1
      exact (nt p1 r1 p2 r2).elim
    · have e : te = tb := e
      rw [e] at r1
      exact (nt q1 r1 q2 r2).elim
    · exact ⟨rfl, rfl⟩
  · rcases gl_f0 f with ⟨rfl, hi⟩ | ⟨rfl, rfl⟩ | ⟨rfl, rfl⟩ | ⟨rfl, rfl⟩ <;> exact trivial
  · cases hf : (cx_h0 xs L).2.2.1 k i with
    | false => rfl
    | true =>
      have := cx_ctr_cst (cx_f0_cst (k := k) (i := i) hf)
      rw [hc] at this
      exact Bool.noConfusion this
end
