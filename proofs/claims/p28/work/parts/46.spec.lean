/-! The hour, as the class does it: sea q of the class's two, state by state. -/
def sp_w (q c : Nat) (s : ew_S) : Int32 := (if s 4 2 (c + 15 * q) ≤ 0 then s 4 0 (c + 15 * q) else s 4 0 (c + 15 * q) / 4) + 5 * s 4 1 (c + 15 * q)
def sp_give (i j : Nat) (s : ew_S) : ew_S := if s 4 3 j = 0 then ew_u (ew_u s 4 4 i (s 4 4 i - s 4 0 i / 10)) 4 4 j (ew_u s 4 4 i (s 4 4 i - s 4 0 i / 10) 4 4 j + s 4 0 i / 10) else s
def sp_g1 (q : Nat) (w : Int32) (c : Nat) (s : ew_S) : ew_S := if ef_nb c w = -1 then s else sp_give (c + 15 * q) ((ef_nb c w).toNatClampNeg + 15 * q) s
def sp_g (q : Nat) (w : Int32) (s : ew_S) : Nat → ew_S
  | 0 => s
  | j + 1 => sp_g1 q w j (sp_g q w s j)
def sp_s1 (i : Nat) (s : ew_S) : ew_S := ew_u (ew_u (ew_u s 4 0 i (s 4 0 i + s 4 4 i)) 4 1 i (ew_max 0 (s 4 4 i))) 4 4 i 0
def sp_s (q : Nat) (s : ew_S) : Nat → ew_S
  | 0 => s
  | j + 1 => sp_s1 (j + 15 * q) (sp_s q s j)
def sp_fa (x : Int32) (i : Nat) (s : ew_S) : Int32 := if s 4 3 i = 0 ∧ s 4 0 i < 300 then ew_min x (300 - s 4 0 i) else 0
def sp_fi (x : Int32) (i : Nat) (s : ew_S) : ew_S := if s 4 3 i = 0 ∧ s 4 0 i < 300 then ew_u s 4 0 i (s 4 0 i + ew_min x (300 - s 4 0 i)) else s
def sp_cl (i : Nat) (s : ew_S) : ew_S := ew_u s 4 2 i (ew_max 0 (s 4 2 i - if s 4 1 i < 3 then 1 else 3))
def sp_f1 (q : Nat) (x : Int32) (i : Nat) (s : ew_S) : ew_S := sp_cl i (ew_u (sp_fi x i s) 9 6 q (s 9 6 q + sp_fa x i s))
def sp_f (q : Nat) (x : Int32) (s : ew_S) : Nat → ew_S
  | 0 => s
  | j + 1 => sp_f1 q x (j + 15 * q) (sp_f q x s j)
def sp_en (i : Nat) (t c : Int32) (s : ew_S) : ew_S := ew_u (ef_sh (ew_u (ew_u (ew_u s 3 2 i (s 3 2 i - c)) 3 4 i (s 3 1 i)) 3 1 i t) 145 i (s 8 1 i).toNatClampNeg) 8 1 i (ei ((s 8 1 i).toNatClampNeg - 1))
def sp_mb (q B : Nat) (s : ew_S) : ew_S :=
  if s 8 1 B = 0 then ew_u s 3 4 B (-1)
  else if ef_far (s 3 1 B) (s 145 0 B) = 1 ∧ s 4 3 ((s 145 0 B).toNatClampNeg + 15 * q) = 0 then
    (if s 4 0 ((s 145 0 B).toNatClampNeg + 15 * q) + 5 * s 4 1 ((s 145 0 B).toNatClampNeg + 15 * q) ≤ 150 ∧ 3 + s 4 0 ((s 145 0 B).toNatClampNeg + 15 * q) / 30 ≤ s 3 2 B then
      ew_u (sp_en B (s 145 0 B) (3 + s 4 0 ((s 145 0 B).toNatClampNeg + 15 * q) / 30) (ew_u s 3 4 B (-1))) 4 2 ((s 145 0 B).toNatClampNeg + 15 * q) 12
    else ew_u (ew_u s 3 4 B (-1)) 3 3 B (s 3 3 B + 1))
  else ew_u (ew_u s 3 4 B (-1)) 8 1 B 0
def sp_b (q : Nat) (s : ew_S) : Nat → ew_S
  | 0 => s
  | b + 1 => sp_mb q (b + 2 * q) (sp_b q s b)
def sp_fr (i : Nat) (s : ew_S) : ew_S := ew_u (ew_u s 10 7 i 0) 10 8 i (-1)
def sp_gf (q J : Nat) (s : ew_S) : Int32 × ew_S :=
  if s 40 1 J = 0 then (0, s)
  else if ef_far (s 10 2 J) (s 593 0 J) = 1 ∧ s 4 3 ((s 593 0 J).toNatClampNeg + 15 * q) = 0 then
    (if ef_hind 1 (sp_w q (s 593 0 J).toNatClampNeg s) (s 10 5 J) (s 10 4 J) = -1 then
      (-1, ew_u (ef_sh (ew_u s 10 2 J (s 593 0 J)) 593 J (s 40 1 J).toNatClampNeg) 40 1 J (ei ((s 40 1 J).toNatClampNeg - 1)))
    else (ef_hind 1 (sp_w q (s 593 0 J).toNatClampNeg s) (s 10 5 J) (s 10 4 J), s))
  else (0, ew_u s 40 1 J 0)
def sp_gb (q J B : Nat) (s : ew_S) : Int32 × ew_S :=
  if s 3 4 B = s 10 2 J then
    (if ef_hind (if s 10 7 J = 2 then 0 else 1) (sp_w q (s 3 1 B).toNatClampNeg s) (s 10 5 J) (s 10 4 J) = -1 then
      (-1, ew_u (ew_u (ew_u s 10 2 J (s 3 1 B)) 40 1 J 0) 10 10 J (s 10 10 J + if s 10 7 J = 2 then 9 else 4))
    else (ef_hind (if s 10 7 J = 2 then 0 else 1) (sp_w q (s 3 1 B).toNatClampNeg s) (s 10 5 J) (s 10 4 J), sp_fr J s))
  else if s 3 4 B = -1 ∧ s 3 1 B = s 10 2 J then (4, s)
  else sp_gf q J (sp_fr J s)
def sp_go (q J : Nat) (s : ew_S) : Int32 × ew_S := if s 10 7 J = 0 then sp_gf q J s else sp_gb q J ((s 10 8 J).toNatClampNeg + 2 * q) s
def sp_wt (q J : Nat) (r : Int32) (s : ew_S) : ew_S := ew_u (ew_u s 177 r.toNatClampNeg J (s 177 r.toNatClampNeg J + 1)) 10 9 J (s 10 9 J + if s 4 1 ((s 10 2 J).toNatClampNeg + 15 * q) < 6 then 0 else 1)
def sp_ap (q J j p n : Nat) (r : Int32) (s : ew_S) : Int32 × ew_S :=
  if s 10 2 J = s 6 4 p then
    (if ef_least (fun r => s 113 r p) (fun r => s 81 r p) (s 9 5 q) n ≤ s 10 3 J ∨ s 18 j p ≠ 0 then
      (1, ew_u (ew_u (ew_u (ew_u s 10 7 J 3) 10 8 J (-1)) 40 1 J 0) 10 11 J (s 9 5 q))
    else (0, sp_wt q J 3 s))
  else if r = -1 then (0, s) else (0, sp_wt q J r s)
def sp_ar (q J j : Nat) (r : Int32) (s : ew_S) : Int32 × ew_S := sp_ap q J j (s 10 6 J).toNatClampNeg (s 6 3 (s 10 6 J).toNatClampNeg).toNatClampNeg r s
def sp_ms (q j : Nat) (s : ew_S) : Int32 × ew_S := if s 10 7 (j + 5 * q) = 3 then (0, s) else sp_ar q (j + 5 * q) j (sp_go q (j + 5 * q) s).1 (sp_go q (j + 5 * q) s).2
def sp_m (q : Nat) (s : ew_S) : Nat → Int32 × ew_S
  | 0 => (0, s)
  | j + 1 => ((sp_m q s j).1 + (sp_ms q j (sp_m q s j).2).1, (sp_ms q j (sp_m q s j).2).2)
/-- the sea before the ships go -/
def sp_h1 (q : Nat) (x w : Int32) (s : ew_S) : ew_S := sp_b q (sp_f q x (sp_s q (sp_g q w (ew_u s 9 5 q (s 9 5 q + 1)) 15) 15) 15) (s 9 3 q).toNatClampNeg
def sp_h (q : Nat) (x w : Int32) (s : ew_S) : Int32 × ew_S := sp_m q (sp_h1 q x w s) (s 9 4 q).toNatClampNeg
/-! What holds of an object's fields. -/
abbrev ea (s : ew_S) (i : Nat) : Nat → Nat → Int32 := fun k p => s k p i
def iv_c (f : Nat → Nat → Int32) : Prop := 0 ≤ f 4 2 ∧ (f 4 3 = 0 ∨ (f 4 3 = 1 ∧ f 4 0 = 0 ∧ f 4 1 = 0 ∧ f 4 2 = 0)) ∧ f 4 4 = 0
def iv_r (k kc : Nat) (f : Nat → Nat → Int32) : Prop := ∃ n, n ≤ 8 ∧ f k 1 = ei n ∧ ∀ r, r < n → ∃ c, c < 15 ∧ f kc r = ei c
def iv_b (f : Nat → Nat → Int32) : Prop := (∃ c, c < 15 ∧ f 3 1 = ei c) ∧ iv_r 8 145 f
def iv_s (nb np : Nat) (f : Nat → Nat → Int32) : Prop := (∃ c, c < 15 ∧ f 10 2 = ei c) ∧ iv_r 40 593 f ∧ (∃ p, p < np ∧ f 10 6 = ei p) ∧ (∃ r, r ≤ 4 ∧ f 10 3 = ei r ∧ f 10 4 = ef_bears (ei r)) ∧
  ((f 10 7 = 0 ∧ f 10 8 = -1) ∨ (f 10 7 = 3 ∧ f 10 8 = -1) ∨ ((f 10 7 = 1 ∨ f 10 7 = 2) ∧ ∃ b, b < nb ∧ f 10 8 = ei b))
def iv_p (f : Nat → Nat → Int32) : Prop := (∃ c, c < 15 ∧ f 6 4 = ei c) ∧ (∃ n, n ≤ 10 ∧ f 6 3 = ei n) ∧ ∀ j, j < 5 → f 18 j = 0 ∨ f 18 j = 1
def ef_sm (n : Nat → Nat) : Nat → Nat
  | 0 => 0
  | j + 1 => ef_sm n j + n j
/-- all ice, T at most -/
def iv_t (q T : Nat) (s : ew_S) : Prop := ∃ n : Nat → Nat, ef_sm n 15 ≤ T ∧ ∀ c, c < 15 → s 4 0 (c + 15 * q) = ei (n c)
/-- sea q: nb breakers, ns ships, np ports, ice of T at most -/
def Iv (q nb ns np T : Nat) (s : ew_S) : Prop := (nb ≤ 2 ∧ ns ≤ 5 ∧ np ≤ 3) ∧ (s 9 3 q = ei nb ∧ s 9 4 q = ei ns ∧ s 7 1 0 = ei np) ∧ (∀ c, c < 15 → iv_c (ea s (c + 15 * q))) ∧ (∀ b, b < nb → iv_b (ea s (b + 2 * q))) ∧ (∀ j, j < ns → iv_s nb np (ea s (j + 5 * q))) ∧ (∀ p, p < np → iv_p (ea s p)) ∧ iv_t q T s
theorem iv_t.to {q T : Nat} {s s' : ew_S} (h : iv_t q T s) (e : ∀ i, s' 4 0 i = s 4 0 i) : iv_t q T s' := by
  obtain ⟨n, h1, h2⟩ := h
  exact ⟨n, h1, fun c hc => (e _).trans (h2 c hc)⟩
