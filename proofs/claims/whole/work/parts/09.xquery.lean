/-! X's questions -/
section
variable {sd sc ec ll : Int32} {sz : Nat → Int32} {en mv : Nat → Int64} {lo : Nat → Int32} {re : Nat → Int64}
theorem xq_sa15 {post : Int64 → Prop} {x1 : Int64} {k n : Nat} (hk : k < 4) (hn : n ≤ 64)
    (h : ∀ r, (∀ t, mb_ r t ↔ ∃ s, s < n ∧ mb_ x1 s ∧ mb_ (mv (pl_ 8 s k)) t) → post r) :
    ∀ d i, i + d = n → ∀ r, (∀ t, mb_ r t ↔ ∃ s, s < i ∧ mb_ x1 s ∧ mb_ (mv (pl_ 8 s k)) t) → wX_statesAfter_15 post x1 (nI k) (nI n) sd sc ec ll sz en mv lo re (d + 1) r (nI i) := by
  intro d
  induction d with
  | zero =>
    intro i hi r g
    have : i = n := by omega
    subst this
    exact br_t (nI_le (Nat.le_refl _) (by omega)) (h r g)
  | succ d ih =>
    intro i hi r g
    have hs : i < 64 := by omega
    refine br_f (nI_ge (by omega) (by omega)) (mb_has hs (fun hb => ?_) (fun hb => ?_))
    · refine br_f (by decide) (pl_wp (z := 8) (by omega) hs hk ⟨pli (by omega) hs hk, nm_r (e' := r ||| mv (pl_ 8 i k)) (by rw [plc (by omega) hs hk]) (nm_r (nI_1 i) (ih (i + 1) (by omega) _ ?_))⟩)
      intro t
      rw [mb_or, g t]
      constructor
      · rintro (⟨s, a, b⟩ | a)
        · exact ⟨s, by omega, b⟩
        · exact ⟨i, by omega, hb, a⟩
      · rintro ⟨s, a, b, c⟩
        by_cases e : s = i
        · subst e; exact Or.inr c
        · exact Or.inl ⟨s, by omega, b, c⟩
    · refine br_t rfl (nm_r (nI_1 i) (ih (i + 1) (by omega) _ ?_))
      intro t
      rw [g t]
      constructor
      · rintro ⟨s, a, b⟩; exact ⟨s, by omega, b⟩
      · rintro ⟨s, a, b, c⟩
        by_cases e : s = i
        · subst e; exact absurd b hb
        · exact ⟨s, by omega, b, c⟩
theorem xq_sa {post : Int64 → Prop} {x1 : Int64} {k n : Nat} (hk : k < 4) (hn : n ≤ 64) (hz : sz 8 = nI n)
    (h : ∀ r, (∀ t, mb_ r t ↔ ∃ s, mb_ x1 s ∧ ma_D mv 8 n s k t) → post r) :
    wpX_statesAfter post (sd, sc, ec, ll, sz, en, mv, lo, re) x1 (nI k) := by
  refine nm_r hz ⟨n + 1, xq_sa15 hk hn (fun r g => h r (fun t => ?_)) n 0 (by omega) 0 (fun t => ⟨fun q => absurd q (mb_0 t), fun ⟨s, q, _⟩ => by omega⟩)⟩
  rw [g t]
  constructor
  · rintro ⟨s, a, b, c⟩; exact ⟨s, b, a, hk, c⟩
  · rintro ⟨s, b, a, _, c⟩; exact ⟨s, a, b, c⟩
theorem xq_wa6 {post : Int64 → Prop} {x1 : Int64} {B n : Nat} (hB : B < 16) (hn : n ≤ 64) (hz : sz 8 = nI n)
    (h : ∀ r, (∀ t, mb_ r t ↔ mb_ x1 t ∨ ∃ k, k < 4 ∧ B.testBit k = false ∧ ∃ s, mb_ x1 s ∧ ma_D mv 8 n s k t) → post r) :
    ∀ d i, i + d = 4 → ∀ r, (∀ t, mb_ r t ↔ mb_ x1 t ∨ ∃ k, k < i ∧ B.testBit k = false ∧ ∃ s, mb_ x1 s ∧ ma_D mv 8 n s k t) → wX_withStatesAfter_6 post x1 (nI B) sd sc ec ll sz en mv lo re (d + 1) r (nI i) := by
  intro d
  induction d with
  | zero =>
    intro i hi r g
    have : i = 4 := by omega
    subst this
    exact br_t (nI_le (a := 4) (b := 4) (by omega) (by decide)) (h r g)
  | succ d ih =>
    intro i hi r g
    have hk : i < 4 := by omega
    refine br_f (nI_ge (b := 4) hk (by decide)) ?_
    rw [nI_l (by omega)]
    refine mb_has (by omega) (fun hb => ?_) (fun hb => ?_)
    · rw [mb_lN (by omega)] at hb
      refine br_f (by decide) (nm_r (nI_1 i) (ih (i + 1) (by omega) _ ?_))
      intro t
      rw [g t]
      constructor
      · rintro (a | ⟨k, a, b⟩)
        · exact Or.inl a
        · exact Or.inr ⟨k, by omega, b⟩
      · rintro (a | ⟨k, a, b, c⟩)
        · exact Or.inl a
        · by_cases e : k = i
          · subst e; rw [hb] at b; exact absurd b (by decide)
          · exact Or.inr ⟨k, by omega, b, c⟩
    · rw [mb_lN (by omega), Bool.not_eq_true] at hb
      refine br_t rfl (xq_sa hk hn hz (fun q gq => nm_e (nm_r (nI_1 i) (ih (i + 1) (by omega) _ ?_))))
      intro t
      rw [mb_or, g t, gq t]
      constructor
      · rintro ((a | ⟨k, a, b⟩) | a)
        · exact Or.inl a
        · exact Or.inr ⟨k, by omega, b⟩
        · exact Or.inr ⟨i, by omega, hb, a⟩
      · rintro (a | ⟨k, a, b, c⟩)
        · exact Or.inl (Or.inl a)
        · by_cases e : k = i
          · subst e; exact Or.inr c
          · exact Or.inl (Or.inr ⟨k, by omega, b, c⟩)
theorem xq_wa {post : Int64 → Prop} {x1 : Int64} {B n : Nat} (hB : B < 16) (hn : n ≤ 64) (hz : sz 8 = nI n)
    (h : ∀ r, (∀ t, mb_ r t ↔ mb_ x1 t ∨ ∃ k, k < 4 ∧ B.testBit k = false ∧ ∃ s, mb_ x1 s ∧ ma_D mv 8 n s k t) → post r) :
    wpX_withStatesAfter post (sd, sc, ec, ll, sz, en, mv, lo, re) x1 (nI B) := by
  refine ⟨5, xq_wa6 hB hn hz h 4 0 (by omega) x1 (fun t => ⟨Or.inl, ?_⟩)⟩
  rintro (a | ⟨k, a, _⟩)
  · exact a
  · omega
/-- what is reached from R by at most c allowed moves -/
def rc_ (D : Nat → Nat → Nat → Prop) (R : Int64) (B c : Nat) : Nat → Prop := fun t =>
  ∃ r u, mb_ R r ∧ u.length ≤ c ∧ ct_ok B u ∧ au_run D r u t
theorem rc_0 {D : Nat → Nat → Nat → Prop} {R : Int64} {B t : Nat} : rc_ D R B 0 t ↔ mb_ R t := by
  constructor
  · rintro ⟨r, u, a, b, _, d⟩
    cases u with
    | nil => cases d; exact a
    | cons c u => exact absurd b (by simp)
  · intro h; exact ⟨t, [], h, Nat.le_refl _, ok_nil, rfl⟩
theorem rc_s {D : Nat → Nat → Nat → Prop} {R : Int64} {B c t : Nat} : rc_ D R B (c + 1) t ↔ rc_ D R B c t ∨ ∃ k, k < 4 ∧ B.testBit k = false ∧ ∃ s, rc_ D R B c s ∧ D s k t := by
  constructor
  · rintro ⟨r, u, a, b, o, d⟩
    by_cases e : u = []
    · subst e; exact Or.inl ⟨r, [], a, by simp, ok_nil, d⟩
    · obtain ⟨u', k, rfl⟩ : ∃ u' k, u = u' ++ [k] := ⟨u.dropLast, u.getLast e, (List.dropLast_concat_getLast e).symm⟩
      obtain ⟨o1, o2⟩ := ok_app.mp o
      obtain ⟨z, d1, d2⟩ := (au_app u' [k] r t).mp d
      obtain ⟨t', d3, d4⟩ := d2
      cases d4
      rw [List.length_append] at b
      have b : u'.length + 1 ≤ c + 1 := b
      have ok := o2 k List.mem_cons_self
      exact Or.inr ⟨k, ok.1, ok.2, z, ⟨r, u', a, by omega, o1, d1⟩, d3⟩
  · rintro (⟨r, u, a, b, o, d⟩ | ⟨k, hk, hb, s, ⟨r, u, a, b, o, d⟩, e⟩)
    · exact ⟨r, u, a, by omega, o, d⟩
    · refine ⟨r, u ++ [k], a, by rw [List.length_append]; show u.length + 1 ≤ _; omega, ok_app.mpr ⟨o, ?_⟩, (au_app u [k] r t).mpr ⟨s, d, t, e, rfl⟩⟩
      intro c' hc
      rw [List.mem_singleton.mp hc]; exact ⟨hk, hb⟩
theorem rc_can {n : Nat} {D : Nat → Nat → Nat → Prop} {E : Nat → Prop} {L : pl_L} {R : Int64} {B c : Nat} {w : List Nat} (o : au_ok n D E L) (hR : ∀ t, mb_ R t ↔ au_run D 0 w t) : (∃ t, rc_ D R B c t ∧ E t) ↔ ∃ m, m ≤ c ∧ ct_can L B w m := by
  constructor
  · rintro ⟨t, ⟨r, u, a, b, k, d⟩, e⟩
    exact ⟨u.length, b, u, rfl, k, (o.2.2.2.1 _).mpr ⟨t, (au_app w u 0 t).mpr ⟨r, (hR r).mp a, d⟩, e⟩⟩
  · rintro ⟨m, hm, u, a, k, l⟩
    obtain ⟨t, d, e⟩ := (o.2.2.2.1 _).mp l
    obtain ⟨r, d1, d2⟩ := (au_app w u 0 t).mp d
    exact ⟨t, ⟨r, u, (hR r).mpr d1, by omega, k, d2⟩, e⟩
theorem xq_le6 {post : Int32 → Prop} {R : Int64} {B n : Nat} {L : pl_L} {w : List Nat} (hB : B < 16) (hn : n ≤ 64) (hz : sz 8 = nI n) (o : au_ok n (ma_D mv 8 n) (fun t => mb_ (en 8) t) L) (hR : ∀ t, mb_ R t ↔ au_run (ma_D mv 8 n) 0 w t)
    (h1 : ∀ c, c < 64 → ct_can L B w c → (∀ m, m < c → ¬ ct_can L B w m) → post (nI c)) (h2 : (∀ m, m < 64 → ¬ ct_can L B w m) → post (-4)) :
    ∀ d i, i + d = 64 → (∀ m, m < i → ¬ ct_can L B w m) → ∀ r, (∀ t, mb_ r t ↔ rc_ (ma_D mv 8 n) R B i t) → wX_leastToEnd_6 post (nI B) sd sc ec ll sz en mv lo re (d + 1) r (nI i) := by
  intro d
  induction d with
  | zero =>
    intro i hi no r g
    have : i = 64 := by omega
    subst this
    exact br_t (nI_le (a := 64) (b := 64) (by omega) (by decide)) (h2 no)
  | succ d ih =>
    intro i hi no r g
    refine br_f (nI_ge (b := 64) (by omega) (by decide)) (br_c (fun q => ?_) (fun q => ?_))
    · refine xq_wa hB hn hz (fun r' g' => nm_r (nI_1 i) (ih (i + 1) (by omega) ?_ r' ?_))
      · intro m hm c
        obtain ⟨t, t1, t2⟩ := (rc_can o hR).mpr ⟨m, (by omega : m ≤ i), c⟩
        exact mb_z.mp q t ((mb_and _ _ _).mpr ⟨(g t).mpr t1, t2⟩)
      · intro t
        rw [g' t, g t, rc_s]
        constructor
        · rintro (a | ⟨k, a, b, s, c, c'⟩)
          · exact Or.inl a
          · exact Or.inr ⟨k, a, b, s, (g s).mp c, c'⟩
        · rintro (a | ⟨k, a, b, s, c, c'⟩)
          · exact Or.inl a
          · exact Or.inr ⟨k, a, b, s, (g s).mpr c, c'⟩
    · obtain ⟨t, ht⟩ := mb_nz.mp q
      obtain ⟨t1, t2⟩ := (mb_and _ _ _).mp ht
      obtain ⟨m, m1, m2⟩ := (rc_can o hR).mp ⟨t, (g t).mp t1, t2⟩
      have : m = i := by
        rcases Nat.lt_or_ge m i with z | z
        · exact absurd m2 (no m z)
        · omega
      subst this
      exact h1 m (by omega) m2 no
theorem xq_le {post : Int32 → Prop} {R : Int64} {B n : Nat} {L : pl_L} {w : List Nat} (hB : B < 16) (hn : n ≤ 64) (hz : sz 8 = nI n) (o : au_ok n (ma_D mv 8 n) (fun t => mb_ (en 8) t) L) (hR : ∀ t, mb_ R t ↔ au_run (ma_D mv 8 n) 0 w t)
    (h1 : ∀ c, c < 64 → ct_can L B w c → (∀ m, m < c → ¬ ct_can L B w m) → post (nI c)) (h2 : (∀ m, m < 64 → ¬ ct_can L B w m) → post (-4)) :
    wpX_leastToEnd post (sd, sc, ec, ll, sz, en, mv, lo, re) R (nI B) :=
  ⟨65, xq_le6 hB hn hz o hR h1 h2 64 0 (by omega) (fun m hm => by omega) R (fun t => rc_0.symm)⟩
end
