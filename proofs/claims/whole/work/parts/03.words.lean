/-! words of a subset of the log's positions -/
def sw_ (lg : Nat → Nat) (s : Nat) : Nat → List Nat
  | 0 => []
  | p + 1 => sw_ lg s p ++ (if s.testBit p then [lg p] else [])
def wd_ (lg : Nat → Nat) : Nat → List Nat
  | 0 => []
  | p + 1 => wd_ lg p ++ [lg p]
theorem sw_t {lg : Nat → Nat} {s p : Nat} (h : s.testBit p = true) : sw_ lg s (p + 1) = sw_ lg s p ++ [lg p] := by
  show _ ++ (if s.testBit p then [lg p] else []) = _
  rw [if_pos h]
theorem sw_f {lg : Nat → Nat} {s p : Nat} (h : s.testBit p = false) : sw_ lg s (p + 1) = sw_ lg s p := by
  show _ ++ (if s.testBit p then [lg p] else []) = _
  rw [h, if_neg (by decide), List.append_nil]
theorem sw_congr {lg : Nat → Nat} {a b : Nat} : ∀ P, (∀ i, i < P → a.testBit i = b.testBit i) → sw_ lg a P = sw_ lg b P := by
  intro P
  induction P with
  | zero => intro _; rfl
  | succ P ih =>
    intro h
    show _ ++ _ = _ ++ _
    rw [ih (fun i hi => h i (by omega)), h P (by omega)]
theorem sw_nil {lg : Nat → Nat} {s : Nat} : ∀ P, (∀ i, i < P → s.testBit i = false) → sw_ lg s P = [] := by
  intro P
  induction P with
  | zero => intro _; rfl
  | succ P ih =>
    intro h
    rw [sw_f (h P (by omega)), ih (fun i hi => h i (by omega))]
theorem sw_nil' {lg : Nat → Nat} {s : Nat} : ∀ P, sw_ lg s P = [] → ∀ i, i < P → s.testBit i = false := by
  intro P
  induction P with
  | zero => intro _ i hi; omega
  | succ P ih =>
    intro h i hi
    cases hb : s.testBit P with
    | true => rw [sw_t hb] at h; exact absurd h (by simp)
    | false =>
      rw [sw_f hb] at h
      rcases Nat.lt_or_ge i P with g | g
      · exact ih h i g
      · have : i = P := by omega
        rw [this]; exact hb
theorem tb_zero {s P : Nat} (hs : s < 2 ^ P) (h : ∀ i, i < P → s.testBit i = false) : s = 0 := by
  apply Nat.eq_of_testBit_eq
  intro i
  rw [Nat.zero_testBit]
  rcases Nat.lt_or_ge i P with g | g
  · exact h i g
  · exact Nat.testBit_lt_two_pow (Nat.lt_of_lt_of_le hs (Nat.pow_le_pow_right (by decide) g))
theorem sw_nil_iff {lg : Nat → Nat} {s P : Nat} (hs : s < 2 ^ P) : sw_ lg s P = [] ↔ s = 0 := by
  constructor
  · intro h; exact tb_zero hs (sw_nil' P h)
  · rintro rfl; exact sw_nil P (fun i _ => Nat.zero_testBit i)
theorem tb_mod (s p i : Nat) : (s % 2 ^ p).testBit i = (decide (i < p) && s.testBit i) := Nat.testBit_mod_two_pow s p i
theorem tb_hi (s p i : Nat) : (s - s % 2 ^ p).testBit i = (decide (p ≤ i) && s.testBit i) := by
  have e : s - s % 2 ^ p = s / 2 ^ p * 2 ^ p := by
    have := Nat.div_add_mod' s (2 ^ p)
    omega
  rw [e, Nat.testBit_mul_two_pow, Nat.testBit_div_two_pow]
  rcases Nat.lt_or_ge i p with g | g
  · simp [Nat.not_le.mpr g]
  · simp [g]
theorem sw_lo {lg : Nat → Nat} {s p P : Nat} (h : P ≤ p) : sw_ lg (s % 2 ^ p) P = sw_ lg s P := by
  apply sw_congr
  intro i hi
  rw [tb_mod, decide_eq_true (by omega), Bool.true_and]
theorem sw_hi0 {lg : Nat → Nat} {s p P : Nat} (h : P ≤ p) : sw_ lg (s - s % 2 ^ p) P = [] := by
  apply sw_nil
  intro i hi
  rw [tb_hi, decide_eq_false (by omega), Bool.false_and]
theorem sw_split {lg : Nat → Nat} {s p : Nat} : ∀ P, p ≤ P → sw_ lg s P = sw_ lg (s % 2 ^ p) P ++ sw_ lg (s - s % 2 ^ p) P := by
  intro P
  induction P with
  | zero => intro _; rfl
  | succ P ih =>
    intro h
    by_cases e : p ≤ P
    · have b1 : (s % 2 ^ p).testBit P = false := by rw [tb_mod, decide_eq_false (by omega), Bool.false_and]
      have b2 : (s - s % 2 ^ p).testBit P = s.testBit P := by rw [tb_hi, decide_eq_true e, Bool.true_and]
      rw [sw_f b1]
      show _ ++ _ = _ ++ (_ ++ _)
      rw [ih e, b2, List.append_assoc]
    · rw [sw_lo (by omega), sw_hi0 (by omega), List.append_nil]
theorem sw_cut {lg : Nat → Nat} {s : Nat} : ∀ (P : Nat) (u v : List Nat), sw_ lg s P = u ++ v → ∃ p, p ≤ P ∧ sw_ lg (s % 2 ^ p) P = u ∧ sw_ lg (s - s % 2 ^ p) P = v := by
  intro P
  induction P with
  | zero =>
    intro u v h
    have h : [] = u ++ v := h
    obtain ⟨rfl, rfl⟩ := List.append_eq_nil_iff.mp h.symm
    exact ⟨0, by omega, rfl, rfl⟩
  | succ P ih =>
    intro u v h
    cases hb : s.testBit P with
    | false =>
      rw [sw_f hb] at h
      obtain ⟨p, hp, a, b⟩ := ih u v h
      refine ⟨p, by omega, ?_, ?_⟩
      · rw [sw_f (by rw [tb_mod, decide_eq_false (by omega), Bool.false_and]), a]
      · rw [sw_f (by rw [tb_hi, hb, Bool.and_false]), b]
    | true =>
      by_cases hv : v = []
      · subst hv
        rw [List.append_nil] at h
        exact ⟨P + 1, by omega, by rw [sw_lo (by omega), h], sw_hi0 (by omega)⟩
      · rw [sw_t hb] at h
        obtain ⟨v', c, rfl⟩ : ∃ v' c, v = v' ++ [c] := ⟨v.dropLast, v.getLast hv, (List.dropLast_concat_getLast hv).symm⟩
        rw [← List.append_assoc] at h
        obtain ⟨h1, h2⟩ := List.append_inj' h rfl
        obtain ⟨p, hp, a, b⟩ := ih u v' h1
        refine ⟨p, by omega, ?_, ?_⟩
        · rw [sw_f (by rw [tb_mod, decide_eq_false (by omega), Bool.false_and]), a]
        · rw [sw_t (by rw [tb_hi, hb, decide_eq_true (by omega)]; rfl), b, h2]
theorem sw_full {lg : Nat → Nat} {P : Nat} : ∀ Q, Q ≤ P → sw_ lg (2 ^ P - 1) Q = wd_ lg Q := by
  intro Q
  induction Q with
  | zero => intro _; rfl
  | succ Q ih =>
    intro h
    rw [sw_t (by rw [Nat.testBit_two_pow_sub_one, decide_eq_true (by omega)]), ih (by omega)]
    rfl
theorem sw_pow {lg : Nat → Nat} {p : Nat} : ∀ P, p < P → sw_ lg (2 ^ p) P = [lg p] := by
  intro P
  induction P with
  | zero => intro h; omega
  | succ P ih =>
    intro h
    by_cases e : p = P
    · subst e
      rw [sw_t (Nat.testBit_two_pow_self), sw_nil p (fun i hi => Nat.testBit_two_pow_of_ne (by omega))]
      rfl
    · rw [sw_f (Nat.testBit_two_pow_of_ne e), ih (by omega)]
theorem sw_one {lg : Nat → Nat} {s k : Nat} : ∀ P, s < 2 ^ P → sw_ lg s P = [k] → ∃ p, p < P ∧ s = 2 ^ p ∧ lg p = k := by
  intro P
  induction P with
  | zero => intro _ h; exact absurd h (by show [] ≠ _; simp)
  | succ P ih =>
    intro hs h
    cases hb : s.testBit P with
    | true =>
      rw [sw_t hb] at h
      have h' : sw_ lg s P ++ [lg P] = [] ++ [k] := h
      obtain ⟨h1, h2⟩ := List.append_inj' h' rfl
      have z := sw_nil' P h1
      refine ⟨P, by omega, ?_, by simpa using h2⟩
      apply Nat.eq_of_testBit_eq
      intro i
      by_cases e : i = P
      · subst e; rw [hb, Nat.testBit_two_pow_self]
      · rw [Nat.testBit_two_pow_of_ne (by omega)]
        rcases Nat.lt_or_ge i P with g | g
        · exact z i g
        · exact Nat.testBit_lt_two_pow (Nat.lt_of_lt_of_le hs (Nat.pow_le_pow_right (by decide) (by omega)))
    | false =>
      rw [sw_f hb] at h
      have hs' : s < 2 ^ P := by
        apply Nat.lt_pow_two_of_testBit
        intro i hi
        by_cases e : i = P
        · subst e; exact hb
        · exact Nat.testBit_lt_two_pow (Nat.lt_of_lt_of_le hs (Nat.pow_le_pow_right (by decide) (by omega)))
      obtain ⟨p, a, b⟩ := ih hs' h
      exact ⟨p, by omega, b⟩
/-! subsets and shuffles -/
def sb_ (a s : Nat) : Prop := ∀ i, a.testBit i = true → s.testBit i = true
theorem sb_iff {a s : Nat} : a &&& s = a ↔ sb_ a s := by
  constructor
  · intro h i hi
    rw [← h, Nat.testBit_and, Bool.and_eq_true] at hi
    exact hi.2
  · intro h
    apply Nat.eq_of_testBit_eq
    intro i
    rw [Nat.testBit_and]
    cases hb : a.testBit i with
    | false => rfl
    | true => rw [h i hb]; rfl
theorem sb_le {a s : Nat} (h : sb_ a s) : a ≤ s := by
  rw [← sb_iff.mpr h]; exact Nat.and_le_right
theorem sb_half {a s : Nat} (h : sb_ a s) : sb_ (a / 2) (s / 2) := by
  intro i hi
  have := h (i + 1)
  rw [Nat.testBit_succ, Nat.testBit_succ] at this
  exact this hi
theorem sb_sub : ∀ (i a s : Nat), sb_ a s → (s - a).testBit i = (s.testBit i && !a.testBit i) := by
  intro i
  induction i with
  | zero =>
    intro a s h
    have l := sb_le h
    have h0 := h 0
    rw [Nat.testBit_zero, Nat.testBit_zero] at h0
    rw [Nat.testBit_zero, Nat.testBit_zero, Nat.testBit_zero]
    by_cases ha : a % 2 = 1
    · have hs : s % 2 = 1 := by simpa [ha] using h0
      have : (s - a) % 2 = 0 := by omega
      simp [ha, hs, this]
    · have : (s - a) % 2 = s % 2 := by omega
      simp [ha, this]
  | succ i ih =>
    intro a s h
    have l := sb_le h
    have h0 := h 0
    rw [Nat.testBit_zero, Nat.testBit_zero] at h0
    have g : a % 2 ≤ s % 2 := by
      by_cases ha : a % 2 = 1
      · have hs : s % 2 = 1 := by simpa [ha] using h0
        omega
      · omega
    have e : (s - a) / 2 = s / 2 - a / 2 := by omega
    rw [Nat.testBit_succ, Nat.testBit_succ, Nat.testBit_succ, e, ih _ _ (sb_half h)]
theorem sh_l {c : Nat} : ∀ (w u v : List Nat), la_sh u v w → la_sh (u ++ [c]) v (w ++ [c]) := by
  intro w
  induction w with
  | nil => rintro u v ⟨rfl, rfl⟩; exact Or.inl ⟨[], rfl, rfl, rfl⟩
  | cons d w ih =>
    rintro u v (⟨u', rfl, h⟩ | ⟨v', rfl, h⟩)
    · exact Or.inl ⟨u' ++ [c], rfl, ih _ _ h⟩
    · exact Or.inr ⟨v', rfl, ih _ _ h⟩
theorem sh_r {c : Nat} : ∀ (w u v : List Nat), la_sh u v w → la_sh u (v ++ [c]) (w ++ [c]) := by
  intro w
  induction w with
  | nil => rintro u v ⟨rfl, rfl⟩; exact Or.inr ⟨[], rfl, rfl, rfl⟩
  | cons d w ih =>
    rintro u v (⟨u', rfl, h⟩ | ⟨v', rfl, h⟩)
    · exact Or.inl ⟨u', rfl, ih _ _ h⟩
    · exact Or.inr ⟨v' ++ [c], rfl, ih _ _ h⟩
theorem sh_cut : ∀ (w z u v : List Nat), la_sh u v (w ++ z) → ∃ u1 u2 v1 v2, u = u1 ++ u2 ∧ v = v1 ++ v2 ∧ la_sh u1 v1 w ∧ la_sh u2 v2 z := by
  intro w
  induction w with
  | nil => intro z u v h; exact ⟨[], u, [], v, rfl, rfl, ⟨rfl, rfl⟩, h⟩
  | cons d w ih =>
    rintro z u v (⟨u', rfl, h⟩ | ⟨v', rfl, h⟩)
    · obtain ⟨u1, u2, v1, v2, rfl, rfl, a, b⟩ := ih z u' v h
      exact ⟨d :: u1, u2, v1, v2, rfl, rfl, Or.inl ⟨u1, rfl, a⟩, b⟩
    · obtain ⟨u1, u2, v1, v2, rfl, rfl, a, b⟩ := ih z u v' h
      exact ⟨u1, u2, d :: v1, v2, rfl, rfl, Or.inr ⟨v1, rfl, a⟩, b⟩
theorem sh_join : ∀ (w z u1 v1 u2 v2 : List Nat), la_sh u1 v1 w → la_sh u2 v2 z → la_sh (u1 ++ u2) (v1 ++ v2) (w ++ z) := by
  intro w
  induction w with
  | nil => rintro z u1 v1 u2 v2 ⟨rfl, rfl⟩ h; exact h
  | cons d w ih =>
    rintro z u1 v1 u2 v2 (⟨u', rfl, h⟩ | ⟨v', rfl, h⟩) g
    · exact Or.inl ⟨u' ++ u2, rfl, ih _ _ _ _ _ h g⟩
    · exact Or.inr ⟨v' ++ v2, rfl, ih _ _ _ _ _ h g⟩
theorem sh_len : ∀ (w u v : List Nat), la_sh u v w → u.length + v.length = w.length ∧ ∀ c, (c ∈ u ∨ c ∈ v) → c ∈ w := by
  intro w
  induction w with
  | nil => rintro u v ⟨rfl, rfl⟩; exact ⟨rfl, fun c h => by rcases h with h | h <;> exact h⟩
  | cons d w ih =>
    rintro u v (⟨u', rfl, h⟩ | ⟨v', rfl, h⟩)
    · obtain ⟨a, b⟩ := ih _ _ h
      refine ⟨by simp only [List.length_cons]; omega, ?_⟩
      rintro c (g | g)
      · rcases List.mem_cons.mp g with rfl | g
        · exact List.mem_cons_self
        · exact List.mem_cons_of_mem _ (b c (Or.inl g))
      · exact List.mem_cons_of_mem _ (b c (Or.inr g))
    · obtain ⟨a, b⟩ := ih _ _ h
      refine ⟨by simp only [List.length_cons]; omega, ?_⟩
      rintro c (g | g)
      · exact List.mem_cons_of_mem _ (b c (Or.inl g))
      · rcases List.mem_cons.mp g with rfl | g
        · exact List.mem_cons_self
        · exact List.mem_cons_of_mem _ (b c (Or.inr g))
theorem sh_one {c : Nat} {u v : List Nat} (h : la_sh u v [c]) : (u = [c] ∧ v = []) ∨ (u = [] ∧ v = [c]) := by
  rcases h with ⟨u', rfl, rfl, rfl⟩ | ⟨v', rfl, rfl, rfl⟩
  · exact Or.inl ⟨rfl, rfl⟩
  · exact Or.inr ⟨rfl, rfl⟩
theorem sh_sw {lg : Nat → Nat} {a s : Nat} (h : sb_ a s) : ∀ P, la_sh (sw_ lg a P) (sw_ lg (s - a) P) (sw_ lg s P) := by
  intro P
  induction P with
  | zero => exact ⟨rfl, rfl⟩
  | succ P ih =>
    have d := sb_sub P a s h
    cases hb : s.testBit P with
    | false =>
      have ha : a.testBit P = false := by
        cases g : a.testBit P with
        | false => rfl
        | true => rw [h P g] at hb; exact absurd hb (by decide)
      rw [hb, Bool.false_and] at d
      rw [sw_f hb, sw_f ha, sw_f d]
      exact ih
    | true =>
      cases ha : a.testBit P with
      | true =>
        rw [ha, Bool.not_true, Bool.and_false] at d
        rw [sw_t hb, sw_t ha, sw_f d]
        exact sh_l _ _ _ ih
      | false =>
        rw [ha, hb, Bool.not_false, Bool.and_true] at d
        rw [sw_t hb, sw_f ha, sw_t d]
        exact sh_r _ _ _ ih
theorem sh_all {lg : Nat → Nat} {s : Nat} : ∀ (P : Nat) (u v : List Nat), la_sh u v (sw_ lg s P) → ∃ a, a < 2 ^ P ∧ sb_ a s ∧ sw_ lg a P = u ∧ sw_ lg (s - a) P = v := by
  intro P
  induction P with
  | zero =>
    rintro u v ⟨rfl, rfl⟩
    exact ⟨0, by decide, fun i hi => by rw [Nat.zero_testBit] at hi; exact absurd hi (by decide), rfl, rfl⟩
  | succ P ih =>
    intro u v h
    have lt2 : ∀ {a : Nat}, a < 2 ^ P → a < 2 ^ (P + 1) := fun h => by rw [Nat.pow_succ]; omega
    cases hb : s.testBit P with
    | false =>
      rw [sw_f hb] at h
      obtain ⟨a, h1, h2, h3, h4⟩ := ih u v h
      have d := sb_sub P a s h2
      rw [hb, Bool.false_and] at d
      exact ⟨a, lt2 h1, h2, by rw [sw_f (Nat.testBit_lt_two_pow h1), h3], by rw [sw_f d, h4]⟩
    | true =>
      rw [sw_t hb] at h
      obtain ⟨u1, u2, v1, v2, rfl, rfl, g1, g2⟩ := sh_cut _ _ _ _ h
      obtain ⟨a, h1, h2, h3, h4⟩ := ih u1 v1 g1
      rcases sh_one g2 with ⟨rfl, rfl⟩ | ⟨rfl, rfl⟩
      · have bt : ∀ i, (2 ^ P + a).testBit i = (decide (i = P) || a.testBit i) := by
          intro i
          rcases Nat.lt_trichotomy i P with g | g | g
          · rw [Nat.testBit_two_pow_add_gt g, decide_eq_false (by omega), Bool.false_or]
          · subst g
            rw [Nat.testBit_two_pow_add_eq, Nat.testBit_lt_two_pow h1]; simp
          · rw [Nat.testBit_lt_two_pow (Nat.lt_of_lt_of_le (show 2 ^ P + a < 2 ^ (P + 1) by rw [Nat.pow_succ]; omega) (Nat.pow_le_pow_right (by decide) g)), Nat.testBit_lt_two_pow (Nat.lt_of_lt_of_le h1 (Nat.pow_le_pow_right (by decide) (by omega))), decide_eq_false (by omega)]
            rfl
        have sub : sb_ (2 ^ P + a) s := by
          intro i hi
          rw [bt] at hi
          by_cases e : i = P
          · subst e; exact hb
          · rw [decide_eq_false e, Bool.false_or] at hi; exact h2 i hi
        refine ⟨2 ^ P + a, by rw [Nat.pow_succ]; omega, sub, ?_, ?_⟩
        · rw [sw_t (by rw [bt]; simp), sw_congr P (b := a) (fun i hi => by rw [bt, decide_eq_false (by omega), Bool.false_or]), h3]
        · rw [sw_f (by rw [sb_sub P _ _ sub, bt]; simp), sw_congr P (b := s - a) (fun i hi => by rw [sb_sub i _ _ sub, sb_sub i _ _ h2, bt, decide_eq_false (by omega), Bool.false_or]), h4, List.append_nil]
      · refine ⟨a, lt2 h1, h2, by rw [sw_f (Nat.testBit_lt_two_pow h1), h3, List.append_nil], ?_⟩
        rw [sw_t (by rw [sb_sub P _ _ h2, hb, Nat.testBit_lt_two_pow h1]; rfl), h4]
