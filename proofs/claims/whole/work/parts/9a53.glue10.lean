/-! The glue to the machine: all that is told of the launch, but ArrayList.toArray. -/
section
variable {s : State} {A : Array Value} {l : Launch} {G : va_G} {TY : Nat → ClassId} {ad : Nat → Nat} {b tb te : Nat}
/-- ArrayList.toArray, as the small machine has it -/
def gl_T203 (l : Launch) (G : va_G) (TY : Nat → ClassId) (s : State) (CK : Nat → Nat → Option Nat) : Prop := ∀ (d k i kb ib : Nat) (n : Int32) (h : ew_H), h.1 k i 1 = ew_o kb ib → h.1 k i 2 = ew_i n → ew_ct k = 2 → ew_ct kb = 20 → ¬ n < 0 → n.toNatClampNeg ≤ ew_len h kb ib → ew_len h kb ib ≤ 1000 → (∀ j, j < n.toNatClampNeg → ew_fit 2 (h.1 kb ib j)) →
  ew_Mt l G TY s.heap.size s.heap CK (gl_Wd s) d 203 [ew_o k i] h (some (ew_o 244 (h.2.2.2.1 244))) (ew_mk h 244 (h.2.2.2.1 244) n.toNatClampNeg (fun s => bif Nat.blt s n.toNatClampNeg then h.1 kb ib s else ew_0))
theorem gl_In (hV : gl_V ad s.heap.size s s.heap) (h3 : gl_T203 l G TY s (gl_CK ad b tb te)) (d z : Nat) (as : List ew_V) (h : ew_H) (r : ew_R) (h' : ew_H) (g : ew_In z as h (fun r1 h1 => r1 = r ∧ h1 = h')) : et_wr z = false ∧ ∃ v, r = .inl v ∧ ew_Mt l G TY s.heap.size s.heap (gl_CK ad b tb te) (gl_Wd s) d z as h v h' := by
  unfold ew_In at g
  cases h1 : Nat.beq z 185 with
  | true =>
    rw [h1, cond_true] at g
    obtain rfl := ew_beq h1
    split at g
    · rename_i x
      obtain ⟨⟨g1, g2⟩, e1, e2⟩ := g
      subst e1; subst e2
      exact ⟨rfl, _, rfl, gl_185 hV g1 g2 d h⟩
    · exact g.elim
  | false =>
    rw [h1, cond_false] at g
    cases h2 : Nat.beq z 203 with
    | true =>
      rw [h2, cond_true] at g
      obtain rfl := ew_beq h2
      split at g
      · rename_i k i
        split at g
        · rename_i kb ib e1
          split at g
          · rename_i n e2
            obtain ⟨⟨g1, g2, g3, g4, g5, g6⟩, e3, e4⟩ := g
            subst e3; subst e4
            exact ⟨rfl, _, rfl, h3 d k i kb ib n h e1 e2 g1 g2 g3 g4 g5 g6⟩
          · exact g.elim
        · exact g.elim
      · exact g.elim
    | false =>
      rw [h2, cond_false] at g
      exact g.elim
theorem gl_Sf (hflags : l.flags = flags0) (hts : ∀ w ∈ lw_tbl, w.before A s = true) (hgv : (Jvm.Cond.and given_1 narrow_1).before A s = true) (hK : va_K G vwCl [] s) (hA : ew_AT TY s) (eB : gl_BE.eval A s none [] s = some (.ref tb)) (eE : gl_EM.eval A s none [] s = some (.ref te)) (eI : ∀ j : Nat, j < 256 → (Term.elem gl_IC (.int (Int32.ofNat j))).eval A s none [] s = some (.ref (ad j))) (h3 : gl_T203 l G TY s (gl_CK ad b tb te)) : ew_Sf l G TY s.heap.size s.heap (gl_CK ad b tb te) ev_NW (gl_Wd s) := by
  have hq := flat_of_before _ hgv
  refine ⟨gl_WP hts hK hA, gl_TabW hts, ?_, gl_ZP hts (hq _ (by decide +kernel)) (hq _ (by decide +kernel)) _, gl_SP hts eB eE, fun y pc x nx tg cv c h1 h2 h3 => gl_XP hts hgv h1 h2 h3, fun y pc x t h => gl_HPs hts hgv h, fun cl x z n c h hw => gl_YW h hw, fun d z as h r h' g => gl_In (gl_Vs hts hgv eI) h3 d z as h r h' g⟩
  unfold Launch.stackTraces
  rw [hflags]
  decide +kernel
end
