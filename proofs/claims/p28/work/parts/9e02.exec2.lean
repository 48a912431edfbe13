/-! Constructors by computing: each step is a step of the small machine. -/
def cx_JJ (n : ew_N) (h0 : ew_H) (S : List cx_U) (r : cx_C ⊕ Unit ⊕ (Nat × ew_V × List ew_V × Nat)) : Prop := match r with
  | .inl c => cx_J n (cx_c h0 c)
  | .inr (.inl _) => n = ewE True (.inl none) (cx_ap h0 S)
  | .inr (.inr (z, v, rest, nx)) => n = ewK z [v] rest nx
section
variable {h0 : ew_H} {y cl pc nx tg : Nat} {cv : Int32} {ls : List (Option ew_V)} {st : List ew_V} {S : List cx_U} {i : Instr} {r : cx_C ⊕ Unit ⊕ (Nat × ew_V × List ew_V × Nat)}
theorem cx_na_ok (hz : ∀ k, h0.2.2.2.1 k = 0) {k c : Nat} {n : Int32} {z : ew_V} (hc : ∀ p, cx_z c p = z) (e : cx_na k n c nx ls st S = some r) : cx_JJ (ew_newa k z ls (ew_i n :: st) (cx_ap h0 S) nx) h0 S r := by
  unfold cx_na at e
  cases hb : decide (¬ n < 0 ∧ n.toNatClampNeg ≤ 1000000 ∧ ew_sl k n.toNatClampNeg = n.toNatClampNeg) with
  | false => rw [hb, cond_false] at e; cases e
  | true =>
    rw [hb, cond_true] at e
    cases e
    refine Or.inr (Or.inl ⟨_, of_decide_eq_true hb, ?_⟩)
    show ewN _ (nx, ls, ew_o k ((cx_ap h0 S).2.2.2.1 k) :: st, ew_mk (cx_ap h0 S) k ((cx_ap h0 S).2.2.2.1 k) n.toNatClampNeg (fun _ => z)) = ewN _ (nx, ls, ew_o k (cx_cn S k) :: st, ew_mk (cx_ap h0 S) k (cx_cn S k) n.toNatClampNeg (cx_z c))
    rw [cx_cn_ok hz, show cx_z c = fun _ => z from funext hc]
theorem cx_st_ok (hz : ∀ k, h0.2.2.2.1 k = 0) (e : cx_st y cl i pc nx tg cv ls st S = some r) : cx_JJ (ew_st y cl i pc nx tg cv ls st (cx_ap h0 S)) h0 S r := by
  unfold cx_st at e
  cases hf : cx_fr i with
  | true =>
    rw [hf, cond_true] at e
    split at e
    · rename_i c hst
      cases e
      refine Or.inl ?_
      rw [cx_fr_ok (h := cx_ap h0 S) (h' := cx_hD) hf, hst]
      rfl
    · cases e
  | false =>
    rw [hf, cond_false] at e
    split at e
    · rename_i b a st0
      by_cases hb : b ≤ a
      · rw [decide_eq_true hb, cond_true] at e
        cases e
        exact Or.inr (Or.inr (Or.inl ⟨b ≤ a, _, hb, rfl⟩))
      · rw [decide_eq_false hb, cond_false] at e
        cases e
        exact Or.inr (Or.inr (Or.inr ⟨b ≤ a, _, hb, rfl⟩))
    · rename_i n k i st0
      split at e
      · rename_i c s t hfd
        cases hb : Nat.beq (ew_ct k) c with
        | false => rw [hb, cond_false] at e; cases e
        | true =>
          rw [hb, cond_true] at e
          split at e
          · rename_i v hv
            cases e
            refine Or.inl ?_
            simp only [ew_st]
            rw [hfd]
            dsimp only
            rw [hb, cond_true, cx_rd_some S hv]
            rfl
          · cases e
      · cases e
    · rename_i n v k i st0
      split at e
      · rename_i c s t hfd
        cases hb : (Nat.beq (ew_ct k) c && !et_fn cl n && !ew_cst k && (!et_fin c s || (et_ini y && Nat.beq cl c))) with
        | false => rw [hb, Bool.false_and, cond_false] at e; cases e
        | true =>
          rw [hb, Bool.true_and] at e
          cases hv : cx_fit t v with
          | false => rw [hv, cond_false] at e; cases e
          | true =>
            rw [hv, cond_true] at e
            cases e
            refine Or.inr (Or.inl ⟨ew_fit t v, cx_fit_ok hv, ?_⟩)
            simp only [ew_st]
            rw [hfd]
            dsimp only
            rw [hb, cond_true]
            rfl
      · cases e
    · rename_i k i st0
      cases hb : Nat.ble 17 (ew_ct k) && Nat.blt (ew_ct k) 25 with
      | false => rw [hb, cond_false] at e; cases e
      | true =>
        rw [hb, cond_true] at e
        split at e
        · rename_i N hN
          cases e
          refine Or.inl ?_
          simp only [ew_st]
          rw [hb, cond_true]
          show ewG (nx, ls, ew_i (Int32.ofNat (ew_sl k ((cx_ap h0 S).2.1 k i))) :: st0, cx_ap h0 S) = _
          rw [cx_ln_some S hN]
          rfl
        · cases e
    · rename_i v j k i st0
      split at e
      · rename_i N hN
        cases hb : !ew_cst k && (Nat.ble 20 (ew_ct k) && Nat.blt (ew_ct k) 25 && ew_asg k v) with
        | false => rw [hb, Bool.false_and, cond_false] at e; cases e
        | true =>
          rw [hb, Bool.true_and] at e
          cases hd : decide (¬ (j < 0 ∨ ew_sl k N ≤ j.toNatClampNeg)) with
          | false => rw [hd, Bool.false_and, cond_false] at e; cases e
          | true =>
            rw [hd, Bool.true_and] at e
            cases hv : cx_fit 2 v with
            | false => rw [hv, cond_false] at e; cases e
            | true =>
              rw [hv, cond_true] at e
              cases e
              refine Or.inr (Or.inl ⟨ew_ix j (ew_len (cx_ap h0 S) k i) ∧ ew_fit 2 v, ⟨?_, cx_fit_ok hv⟩, ?_⟩)
              · show ew_ix j (ew_sl k ((cx_ap h0 S).2.1 k i))
                rw [cx_ln_some S hN]
                exact (of_decide_eq_true hd : ¬ (j < 0 ∨ ew_sl k N ≤ j.toNatClampNeg))
              · simp only [ew_st, ew_ast]
                rw [show (bif Nat.beq 20 20 then Nat.ble 20 (ew_ct k) && Nat.blt (ew_ct k) 25 && ew_asg k v else Nat.beq (ew_ct k) 20) = (Nat.ble 20 (ew_ct k) && Nat.blt (ew_ct k) 25 && ew_asg k v) from rfl, hb, cond_true]
                rfl
      · cases e
    · rename_i n
      split at e
      · rename_i c hc
        cases hb : Nat.blt c 17 with
        | false => rw [hb, Bool.false_and, cond_false] at e; cases e
        | true =>
          rw [hb, Bool.true_and] at e
          cases hk : Nat.beq (ew_ct (et_si y pc)) c && ew_ctr (et_si y pc) with
          | false => rw [hk, cond_false] at e; cases e
          | true =>
            rw [hk, cond_true] at e
            cases e
            refine Or.inl ?_
            simp only [ew_st]
            rw [hc]
            dsimp only
            rw [hb, cond_true, hk, cond_true]
            show ewG (nx, ls, ew_o (et_si y pc) ((cx_ap h0 S).2.2.2.1 (et_si y pc)) :: st, ew_mk (cx_ap h0 S) (et_si y pc) ((cx_ap h0 S).2.2.2.1 (et_si y pc)) (et_N c) (et_dv c)) = ewG (nx, ls, ew_o (et_si y pc) (cx_cn S (et_si y pc)) :: st, ew_mk (cx_ap h0 S) (et_si y pc) (cx_cn S (et_si y pc)) (et_N c) (cx_z c))
            rw [cx_cn_ok hz, show cx_z c = et_dv c by unfold cx_z; rw [hb, cond_true]]
      · cases e
    · rename_i n st0
      cases hb : Nat.beq (ew_ct (ew_kn y (et_si y pc) ls)) 17 && ew_ctr (ew_kn y (et_si y pc) ls) with
      | false => rw [hb, cond_false] at e; cases e
      | true =>
        rw [hb, cond_true] at e
        simp only [ew_st]
        rw [hb, cond_true]
        exact cx_na_ok hz (fun _ => rfl) e
    · rename_i n st0
      cases hb : Nat.beq (ew_ct (et_si y pc)) 18 && ew_ctr (et_si y pc) with
      | false => rw [hb, cond_false] at e; cases e
      | true =>
        rw [hb, cond_true] at e
        simp only [ew_st]
        rw [hb, cond_true]
        exact cx_na_ok hz (fun _ => rfl) e
    · rename_i m n st0
      split at e
      · rename_i c hc
        cases hb : (Nat.ble 20 (ew_ct (et_si y pc)) && Nat.blt (ew_ct (et_si y pc)) 25 && Nat.beq c (ew_cl (ew_ct (et_si y pc)))) && ew_ctr (et_si y pc) with
        | false => rw [hb, cond_false] at e; cases e
        | true =>
          rw [hb, cond_true] at e
          simp only [ew_st]
          rw [hc]
          dsimp only
          rw [hb, cond_true]
          exact cx_na_ok hz (fun _ => rfl) e
      · cases e
    · rename_i n k i rest
      split at e
      · rename_i z a q hm
        cases ha : Nat.beq a 0 with
        | false => rw [ha, cond_false] at e; cases e
        | true =>
          rw [ha, cond_true] at e
          obtain rfl := ew_beq ha
          cases h9 : Nat.beq z 904 with
          | true =>
            rw [h9, cond_true] at e
            cases hr : Nat.ble (ew_cats rest) 8 with
            | false => rw [hr, cond_false] at e; cases e
            | true =>
              rw [hr, cond_true] at e
              cases e
              refine Or.inl ?_
              simp only [ew_st]
              rw [hm]
              simp only [List.drop_zero]
              rw [h9, cond_true, hr, cond_true]
              rfl
          | false =>
            rw [h9, cond_false] at e
            cases hr : Nat.beq (et_kd z) 2 && Nat.ble (ew_cats rest) 8 with
            | false => rw [hr, cond_false] at e; cases e
            | true =>
              rw [hr, cond_true] at e
              cases e
              show ew_st y cl (.invokespecial n) pc nx tg cv ls (.inr (k, i) :: rest) (cx_ap h0 S) = ewK z [.inr (k, i)] rest nx
              simp only [ew_st]
              rw [hm]
              simp only [List.drop_zero]
              rw [h9, cond_false, hr, cond_true]
              rfl
      · cases e
    · cases e
      rfl
    · cases e
end
/-! Runs. -/
def cx_go (call : Nat → ew_V → List cx_U → Option (List cx_U)) (sp : Nat → Bool) (y : Nat) : Nat → cx_C → Option (Bool × cx_C)
  | 0, _ => none
  | n + 1, c => bif sp c.1 then some (false, c) else match ew_pg y c.1 with
    | none => none
    | some (i, nx, tg, cv) => match cx_st y (et_cls y) i c.1 nx tg cv c.2.1 c.2.2.1 c.2.2.2 with
      | none => none
      | some (.inl c') => cx_go call sp y n c'
      | some (.inr (.inl _)) => some (true, c)
      | some (.inr (.inr (z, v, rest, nx'))) => match call z v c.2.2.2 with
        | none => none
        | some S' => cx_go call sp y n (nx', c.2.1, rest, S')
def cx_cl : Nat → Nat → ew_V → List cx_U → Option (List cx_U)
  | 0, _, _, _ => none
  | d + 1, z, v, S => match cx_go (cx_cl d) (fun _ => false) z 1000 ((ew_en z [v] cx_hD).1, (ew_en z [v] cx_hD).2.1, [], S) with
    | some (true, c) => some c.2.2.2
    | _ => none
section
variable {h0 : ew_H}
theorem cx_go_ok (hz : ∀ k, h0.2.2.2.1 k = 0) {d y : Nat} {call : Nat → ew_V → List cx_U → Option (List cx_U)} {sp : Nat → Bool} (hcall : ∀ z v S S', call z v S = some S' → ∀ K : ew_R → ew_H → Prop, K (.inl none) (cx_ap h0 S') → ew_Call d z [v] (cx_ap h0 S) K) {K : ew_R → ew_H → Prop} {Q : ew_C → Prop} (hQ : ∀ c, ew_G (ew_Call d) y Q K c → Q c) : ∀ (n : Nat) (c : cx_C) (b : Bool) (c' : cx_C), cx_go call sp y n c = some (b, c') → (b = true → K (.inl none) (cx_ap h0 c'.2.2.2)) → (b = false → Q (cx_c h0 c')) → Q (cx_c h0 c)
  | 0, c, b, c', e, _, _ => by cases e
  | n + 1, c, b, c', e, h1, h2 => by
    unfold cx_go at e
    cases hs : sp c.1 with
    | true =>
      rw [hs, cond_true] at e
      cases e
      exact h2 rfl
    | false =>
      rw [hs, cond_false] at e
      split at e
      · cases e
      · rename_i i nx tg cv hpg
        split at e
        · cases e
        · rename_i c1 hst
          have j := cx_st_ok hz hst
          exact hQ _ (cx_J.G hpg j (cx_go_ok hz hcall hQ n c1 b c' e h1 h2))
        · rename_i u hst
          have j := cx_st_ok hz hst
          have j : ew_st y (et_cls y) i c.1 nx tg cv c.2.1 c.2.2.1 (cx_ap h0 c.2.2.2) = ewE True (.inl none) (cx_ap h0 c.2.2.2) := j
          cases e
          refine hQ _ ?_
          unfold ew_G cx_c
          dsimp only
          rw [hpg]
          dsimp only
          rw [j]
          exact ⟨trivial, h1 rfl⟩
        · rename_i z v rest nx' hst
          have j := cx_st_ok hz hst
          have j : ew_st y (et_cls y) i c.1 nx tg cv c.2.1 c.2.2.1 (cx_ap h0 c.2.2.2) = ewK z [v] rest nx' := j
          split at e
          · cases e
          · rename_i S' hc
            have g := cx_go_ok hz hcall hQ n _ b c' e h1 h2
            refine hQ _ ?_
            unfold ew_G cx_c
            dsimp only
            rw [hpg]
            dsimp only
            rw [j]
            exact hcall z v _ S' hc _ g
theorem cx_cl_ok (hz : ∀ k, h0.2.2.2.1 k = 0) : ∀ (d z : Nat) (v : ew_V) (S S' : List cx_U), cx_cl d z v S = some S' → ∀ K : ew_R → ew_H → Prop, K (.inl none) (cx_ap h0 S') → ew_Call d z [v] (cx_ap h0 S) K
  | 0, _, _, _, _, e, _, _ => by cases e
  | d + 1, z, v, S, S', e, K, k => by
    unfold cx_cl at e
    split at e
    · rename_i c hgo
      cases e
      exact ew_call (cx_go_ok hz (cx_cl_ok hz d) (fun c g => ew_W.fold (ew_Call_mono d) g) 1000 _ true c hgo (fun _ => k) (fun w => Bool.noConfusion w))
    · cases e
end
