/-! What holds between the law's calls. -/
/-- a ship that has arrived is in its port, since an hour; another has no such hour -/
def xi_s (s : ew_S) (j : Nat) : Prop := (s 10 7 j = 3 ∧ 0 ≤ s 10 11 j ∧ s 10 2 j = s 6 4 (s 10 6 j).toNatClampNeg) ∨ (¬ s 10 7 j = 3 ∧ s 10 11 j = -1)
def Xi (s : ew_S) : Prop := (∀ c, c < 15 → ∃ n, n ≤ 12 ∧ s 4 2 c = ei n) ∧ (∀ c, c < 15 → 0 ≤ s 4 1 c) ∧ ∀ j, j < 5 → xi_s s j
def RU (ρ : Nat) (s : ew_S) : Prop := ∃ a b, a + b ≤ ρ ∧ s 6 3 0 = ei a ∧ s 6 3 1 = ei b
/-- no ship has more damage than hours went by -/
def DM (t : Nat) (s : ew_S) : Prop := ∀ j, j < 5 → ∃ n, n ≤ t ∧ s 10 9 j = ei n
/-- sea 0 of nb breakers, ns ships, np ports; ice of T at most, hour t, ρ rules at most, told: the ice that was told -/
def LI (nb ns np T t ρ : Nat) (told : Int32) (s : ew_S) : Prop := (Iv 0 nb ns np T s ∧ Un nb ns np s ∧ Lb nb ns s) ∧ Xi s ∧ s 9 5 0 = ei t ∧ sp_ice s = told + s 9 6 0 ∧ RU ρ s ∧ DM t s
theorem xi_s.cg {s s' : ew_S} {j : Nat} (h : xi_s s j) (e2 : s' 10 2 j = s 10 2 j) (e6 : s' 10 6 j = s 10 6 j) (e7 : s' 10 7 j = s 10 7 j) (e11 : s' 10 11 j = s 10 11 j) (e4 : ∀ p, s' 6 4 p = s 6 4 p) : xi_s s' j := by
  unfold xi_s at h ⊢
  rw [e2, e6, e7, e11, e4]
  exact h
theorem Xi.cg {s s' : ew_S} (h : Xi s) (f2 : ∀ c, s' 4 2 c = s 4 2 c) (f1 : ∀ c, s' 4 1 c = s 4 1 c) (k : ∀ j, j < 5 → xi_s s' j) : Xi s' :=
  ⟨fun c hc => by rw [f2]; exact h.1 c hc, fun c hc => by rw [f1]; exact h.2.1 c hc, k⟩
theorem sp_ice_cg {s s' : ew_S} (e : ∀ c, s' 4 0 c = s 4 0 c) : sp_ice s' = sp_ice s := ef_sum_cg _ _ 15 (fun c _ => e c)
theorem sp_ice_u {s : ew_S} {c : Nat} (hc : c < 15) (v : Int32) : sp_ice (ew_u s 4 0 c v) = sp_ice s + (v - s 4 0 c) := by
  have e := ef_sum_up (fun i => s 4 0 i) c (v - s 4 0 c) 15
  rw [if_pos hc] at e
  refine Eq.trans (ef_sum_cg _ _ 15 (fun i _ => ?_)) e
  show ew_u s 4 0 c v 4 0 i = if i = c then s 4 0 i + (v - s 4 0 c) else s 4 0 i
  by_cases h : i = c
  · subst h
    rw [ew_u_self, if_pos rfl, Int32.add_comm, Int32.sub_add_cancel]
  · rw [ew_u_ne _ _ (fun z => h z.2.2), if_neg h]
section
variable {nb ns np T t ρ : Nat} {told : Int32} {s : ew_S}
theorem LI.leT {T' : Nat} (h : LI nb ns np T t ρ told s) (hT : T ≤ T') : LI nb ns np T' t ρ told s := ⟨⟨h.1.1.leT hT, h.1.2⟩, h.2⟩
theorem LI.iv (h : LI nb ns np T t ρ told s) : Iv 0 nb ns np T s := h.1.1
theorem LI.ice (h : LI nb ns np T t ρ told s) {c v : Nat} (hc : c < 15) (hv : v ≤ 300) (hl : s 4 3 c = 0) : LI nb ns np (T + 300) t ρ (told + (ei v - s 4 0 c)) (ew_u s 4 0 c (ei v)) := by
  obtain ⟨⟨I, u, l⟩, x, h5, hi, hr⟩ := h
  have F : Fr (Pce c) s (ew_u s 4 0 c (ei v)) := (Fr.rf _ _).u _ ⟨rfl, rfl⟩
  refine ⟨⟨iv_ice I hc ⟨(ei_le (a := 0) (by decide) (by omega)).mpr (by omega), (ei_le (b := 300) (by omega) (by decide)).mpr hv⟩ hl, u.fr F (fun _ _ _ k p hk w => by have := w.1; omega) (fun _ _ _ k p hk w => by have := w.1; omega) (fun _ _ _ k p hk w => by have := w.1; omega), l.le (fun j _ => Or.inl ⟨rfl, rfl⟩)⟩, x.cg (fun _ => rfl) (fun _ => rfl) (fun j hj => (x.2.2 j hj).cg rfl rfl rfl rfl (fun _ => rfl)), h5, ?_, hr⟩
  rw [sp_ice_u hc, hi]
  show told + s 9 6 0 + (ei v - s 4 0 c) = told + (ei v - s 4 0 c) + s 9 6 0
  rw [Int32.add_assoc, Int32.add_comm (s 9 6 0), ← Int32.add_assoc]
theorem LI.port (h : LI nb 0 np T t ρ told s) (h3 : np < 3) {c : Nat} (hc : c < 15) : LI nb 0 (np + 1) T t ρ told (ew_u (ew_u s 7 1 0 (s 7 1 0 + 1)) 6 4 np (ei c)) := by
  obtain ⟨⟨I, u, l⟩, x, h5, hi, hr⟩ := h
  refine ⟨⟨iv_port I u h3 hc, un_port u _ _, l.le (fun j _ => Or.inl ⟨rfl, rfl⟩)⟩, x.cg (fun _ => rfl) (fun _ => rfl) (fun j hj => ?_), h5, (sp_ice_cg (fun _ => rfl)).trans hi, hr⟩
  obtain ⟨⟨k1, -, -, -, k5⟩, -⟩ := u.2.1 j (Nat.zero_le _) hj
  have k1 : s 10 7 j = 0 := k1
  exact Or.inr ⟨by show ¬ s 10 7 j = 3; rw [k1]; decide, k5⟩
theorem LI.brk (h : LI nb ns np T t ρ told s) (h2 : nb < 2) {c : Nat} (hc : c < 15) (f : Int32) : LI (nb + 1) ns np T t ρ told (ew_u (ew_u (ew_u s 9 3 0 (s 9 3 0 + 1)) 3 1 nb (ei c)) 3 2 nb f) := by
  obtain ⟨⟨I, u, l⟩, x, h5, hi, hr⟩ := h
  exact ⟨⟨iv_breaker I u h2 hc f, un_breaker u _ _ _, lb_breaker I l (fun j _ => Or.inl ⟨rfl, rfl⟩)⟩, x.cg (fun _ => rfl) (fun _ => rfl) (fun j hj => (x.2.2 j hj).cg rfl rfl rfl rfl (fun _ => rfl)), h5, (sp_ice_cg (fun _ => rfl)).trans hi, hr⟩
theorem LI.shp (h : LI nb ns np T t ρ told s) (h5' : ns < 5) {c r p : Nat} (hc : c < 15) (hr' : r ≤ 4) (hp : p < np) (w : Int32) : LI nb (ns + 1) np T t ρ told (sp_ns c r p w (ei (ns + 1)) ns s) := by
  obtain ⟨⟨I, u, l⟩, x, h5, hi, hr⟩ := h
  have F := sp_ns_F c r p w (ei (ns + 1)) ns s
  refine ⟨⟨iv_ship I u h5' hc hr' hp w, un_ship u c r p w _, lb_ship l u h5' c r p w _⟩, x.cg (fun _ => rfl) (fun _ => rfl) (fun j hj => ?_), h5, (sp_ice_cg (fun _ => rfl)).trans hi, hr⟩
  by_cases e : j = ns
  · subst e
    obtain ⟨⟨k1, -, -, -, k5⟩, -⟩ := u.2.1 j (Nat.le_refl _) hj
    have k1 : s 10 7 j = 0 := k1
    have e7 : sp_ns c r p w (ei (j + 1)) j s 10 7 j = s 10 7 j := rfl
    exact Or.inr ⟨by rw [e7, k1]; decide, k5⟩
  · exact (x.2.2 j hj).cg (F 10 2 j (fun z => by omega)) (F 10 6 j (fun z => by omega)) rfl rfl (fun _ => rfl)
theorem LI.steer (h : LI nb ns np T t ρ told s) {b n c : Nat} (hb : b < nb) (en : s 8 1 b = ei n) (hn : n < 8) (hc : c < 15) : LI nb ns np T t ρ told (ew_u (ew_u s 145 n b (ei c)) 8 1 b (ei (n + 1))) := by
  obtain ⟨⟨I, u, l⟩, x, h5, hi, hr⟩ := h
  obtain ⟨F, J⟩ := iv_steer I hb en hn hc
  exact ⟨⟨J, u.fr F (fun _ _ _ k p hk w => by have := w.1; omega) (fun _ _ _ k p hk w => by have := w.2; omega) (fun _ _ _ k p hk w => by have := w.2; omega), l.le (fun j _ => Or.inl ⟨rfl, rfl⟩)⟩, x.cg (fun _ => rfl) (fun _ => rfl) (fun j hj => (x.2.2 j hj).cg rfl rfl rfl rfl (fun _ => rfl)), h5, (sp_ice_cg (fun _ => rfl)).trans hi, hr⟩
theorem LI.sail (h : LI nb ns np T t ρ told s) {j n c : Nat} (hj : j < ns) (en : s 40 1 j = ei n) (hn : n < 8) (hc : c < 15) : LI nb ns np T t ρ told (ew_u (ew_u s 593 n j (ei c)) 40 1 j (ei (n + 1))) := by
  obtain ⟨⟨I, u, l⟩, x, h5, hi, hr⟩ := h
  obtain ⟨F, k⟩ := iv_sail I hj en hn hc
  exact ⟨⟨I.ship F k, u.fr F (fun _ _ _ k p hk w => by have := w.2; omega) (fun i h1 h2 k p hk w => by have := w.1; omega) (fun _ _ _ k p hk w => by have := w.2; omega), l.le (fun j _ => Or.inl ⟨rfl, rfl⟩)⟩, x.cg (fun _ => rfl) (fun _ => rfl) (fun j hj => (x.2.2 j hj).cg rfl rfl rfl rfl (fun _ => rfl)), h5, (sp_ice_cg (fun _ => rfl)).trans hi, hr⟩
theorem LI.bd (h : LI nb ns np T t ρ told s) {j b : Nat} (hj : j < ns) (hb : b < nb) (n3 : ¬ s 10 7 j = 3) {w : Int32} (hw : (w = 1 ∧ ef_cn (ef_bd s 1 (ei b)) ns < 2) ∨ (w = 2 ∧ ef_cn (ef_bd s 2 (ei b)) ns < 1)) : LI nb ns np T t ρ told (sp_bd w (ei b) j s) := by
  obtain ⟨⟨I, u, l⟩, x, h5, hi, hr⟩ := h
  have hw' : w = 1 ∨ w = 2 := hw.imp (fun z => z.1) (fun z => z.1)
  obtain ⟨F, k⟩ := iv_bd I hj hb hw'
  refine ⟨⟨I.ship F k, u.fr F (fun _ _ _ k p hk w => by have := w.2; omega) (fun i h1 h2 k p hk w => by have := w.1; omega) (fun _ _ _ k p hk w => by have := w.2; omega), lb_bd l I.1.1 hj hb hw⟩, x.cg (fun _ => rfl) (fun _ => rfl) (fun i hi' => ?_), h5, (sp_ice_cg (fun _ => rfl)).trans hi, hr⟩
  by_cases e : i = j
  · subst e
    refine Or.inr ⟨?_, ?_⟩
    · have e7 : sp_bd w (ei b) i s 10 7 i = w := (ew_u_ne _ _ (by omega)).trans (ew_u_self _ _ _ _ _)
      rw [e7]
      rcases hw' with rfl | rfl <;> decide
    · show s 10 11 i = -1
      rcases x.2.2 i hi' with q | q
      · exact absurd q.1 n3
      · exact q.2
  · refine (x.2.2 i hi').cg rfl rfl ?_ rfl (fun _ => rfl)
    exact (ew_u_ne _ _ (by omega)).trans (ew_u_ne _ _ (by omega))
theorem LI.rule (h : LI nb ns 2 T t ρ told s) {p n : Nat} (hρ : ρ ≤ 10) (hp : p < 2) (en : s 6 3 p = ei n) (hn : n < 10) (x y : Int32) : LI nb ns 2 T t (ρ + 1) told (ew_u (ew_u (ew_u s 81 n p x) 113 n p y) 6 3 p (ei (n + 1))) := by
  obtain ⟨⟨I, u, l⟩, xi, h5, hi, ⟨a, b, hab, ea, eb⟩, dm⟩ := h
  have F : Fr (fun k r i => (k = 81 ∨ k = 113 ∨ k = 6) ∧ i = p) s (ew_u (ew_u (ew_u s 81 n p x) 113 n p y) 6 3 p (ei (n + 1))) := (((Fr.rf _ _).u _ ⟨Or.inl rfl, rfl⟩).u _ ⟨Or.inr (Or.inl rfl), rfl⟩).u _ ⟨Or.inr (Or.inr rfl), rfl⟩
  have hn2 : n < 2147483648 := by omega
  have hA := I.2.2.2.2.2.1
  refine ⟨⟨iv_rule I hp hn x y, u.fr F (fun _ _ _ k p hk w => by have := w.1; omega) (fun _ _ _ k p hk w => by have := w.1; omega) (fun i h1 h2 k p hk w => by have := w.2; omega), l.le (fun j _ => Or.inl ⟨rfl, rfl⟩)⟩, xi.cg (fun _ => rfl) (fun _ => rfl) (fun j hj => (xi.2.2 j hj).cg rfl rfl rfl rfl (fun _ => rfl)), h5, (sp_ice_cg (fun _ => rfl)).trans hi, ?_, dm⟩
  have hp : p = 0 ∨ p = 1 := by omega
  rcases hp with rfl | rfl
  · have e : a = n := (ei_inj (by omega) (by omega)).mp (ea.symm.trans en)
    exact ⟨n + 1, b, by omega, ew_u_self _ 6 3 0 _, (ew_u_ne _ _ (by omega)).trans eb⟩
  · have e : b = n := (ei_inj (by omega) (by omega)).mp (eb.symm.trans en)
    exact ⟨a, n + 1, by omega, (ew_u_ne _ _ (by omega)).trans ea, ew_u_self _ 6 3 1 _⟩
theorem LI.hour (h : LI 2 5 np T t ρ told s) (hT : T ≤ 90000000) (ht : t ≤ 1000000) (x w : Int32) (hx : 0 ≤ x ∧ x ≤ 9) : LI 2 5 np (T + 135) (t + 1) ρ told (sp_h 0 x w s).2 := by
  obtain ⟨⟨I, u, l⟩, xi, h5, hi, ⟨a, b, hab, ea, eb⟩, dm⟩ := h
  obtain ⟨u', l', e5⟩ := un_h I (by omega) x w hx u l
  obtain ⟨-, ⟨A, -, hj⟩, ⟨y, y1, y2⟩, hc, hp, h6⟩ := hour_all I hT x w hx xi.1
  have e5' : (sp_h 0 x w s).2 9 5 0 = ei (t + 1) := by rw [e5, h5, ei_1]
  refine ⟨⟨(iv_h I (by omega) x w hx).2, u', l'⟩, ⟨hc, hp, fun j hj' => ?_⟩, e5', ?_, ⟨a, b, hab, (h6 3 0).trans ea, (h6 3 1).trans eb⟩, fun j hj' => ?_⟩
  · obtain ⟨k6, k⟩ := hj j hj'
    rcases k with ⟨a1, a2, a3, a4, a5, a6, a7, a8⟩ | ⟨a1, g, -, k⟩
    · rcases xi.2.2 j hj' with ⟨q1, q2, q3⟩ | ⟨q1, q2⟩
      · exact Or.inl ⟨a3, by rw [a7]; exact q2, by rw [a4, k6, h6]; exact q3⟩
      · exact absurd a1 q1
    · rcases k with ⟨-, b1, -, -, b4, -, -, b7⟩ | ⟨-, b1, b2, -⟩
      · refine Or.inl ⟨b1, ?_, b7⟩
        rw [b4, e5']
        exact (ei_le (a := 0) (by decide) (by omega)).mpr (by omega)
      · rcases xi.2.2 j hj' with ⟨q1, -⟩ | ⟨-, q2⟩
        · exact absurd q1 a1
        · exact Or.inr ⟨b1, b2.trans q2⟩
  · rw [y1, y2, hi, Int32.add_assoc]
  · obtain ⟨n, hn, en⟩ := dm j hj'
    obtain ⟨-, k⟩ := hj j hj'
    rcases k with ⟨-, -, -, -, -, a6, -⟩ | ⟨-, g, -, k⟩
    · exact ⟨n, by omega, a6.trans en⟩
    · rcases k with ⟨-, -, -, -, -, -, b6, -⟩ | ⟨-, -, -, k⟩
      · exact ⟨n, by omega, b6.trans en⟩
      · rcases k with ⟨-, -, b⟩ | ⟨r, -, -, -, -, b⟩
        · exact ⟨n, by omega, b.trans en⟩
        · rcases b with b | b
          · exact ⟨n, by omega, b.trans en⟩
          · exact ⟨n + 1, by omega, by rw [b, en, ei_1]⟩
end
