/-! costs: the least number of further events -/
def ct_ok (B : Nat) (u : List Nat) : Prop := ∀ c, c ∈ u → c < 4 ∧ B.testBit c = false
def ct_can (L : pl_L) (B : Nat) (w : List Nat) (m : Nat) : Prop := ∃ u, u.length = m ∧ ct_ok B u ∧ L (w ++ u)
def ct_C (e : Nat) (L : pl_L) (B : Nat) (w : List Nat) (c : Nat) : Prop :=
  c ≤ 100 ∧ (∀ m, ct_can L B w m → c ≤ m ∧ c ≤ e) ∧ (c < 100 → c ≤ e ∧ ct_can L B w c)
theorem ok_nil {B : Nat} : ct_ok B [] := fun c h => absurd h List.not_mem_nil
theorem ok_app {B : Nat} {u v : List Nat} : ct_ok B (u ++ v) ↔ ct_ok B u ∧ ct_ok B v := by
  constructor
  · intro h; exact ⟨fun c hc => h c (List.mem_append_left _ hc), fun c hc => h c (List.mem_append_right _ hc)⟩
  · rintro ⟨a, b⟩ c hc
    rcases List.mem_append.mp hc with g | g
    · exact a c g
    · exact b c g
theorem can_0 {L : pl_L} {B : Nat} {w : List Nat} : ct_can L B w 0 ↔ L w := by
  constructor
  · rintro ⟨u, h, _, g⟩
    rw [List.length_eq_zero_iff] at h
    subst h; rw [List.append_nil] at g; exact g
  · intro h; exact ⟨[], rfl, ok_nil, by rw [List.append_nil]; exact h⟩
theorem C_lo {e : Nat} {L : pl_L} {B : Nat} {w : List Nat} {c m : Nat} (h : ct_C e L B w c) (g : ct_can L B w m) : c ≤ m ∧ c ≤ e := h.2.1 m g
theorem C_at {e : Nat} {L : pl_L} {B : Nat} {w : List Nat} {c : Nat} (h : ct_C e L B w c) (g : c < 100) : c ≤ e ∧ ct_can L B w c := h.2.2 g
theorem C_0 {e : Nat} {L : pl_L} {B : Nat} {w : List Nat} {c : Nat} (h : ct_C e L B w c) : c = 0 ↔ L w := by
  constructor
  · rintro rfl; exact can_0.mp (C_at h (by omega)).2
  · intro g; have := (C_lo h (can_0.mpr g)).1; omega
theorem C_in {e : Nat} {L : pl_L} {B : Nat} {w : List Nat} {r : Nat} (he : e < 100) (h1 : ∀ m, ct_can L B w m → ∃ c, c ≤ m ∧ r ≤ c ∧ c ≤ e) (h2 : r < 100 → r ≤ e ∧ ct_can L B w r) : ct_C e L B w (min r 100) := by
  refine ⟨by omega, ?_, ?_⟩
  · intro m hm
    obtain ⟨c, a, b, d⟩ := h1 m hm
    omega
  · intro h
    have e1 : min r 100 = r := by omega
    rw [e1]
    exact h2 (by omega)
theorem C_no {e : Nat} {L : pl_L} {B : Nat} {w : List Nat} (h : ∀ m, ¬ ct_can L B w m) : ct_C e L B w 100 :=
  ⟨by omega, fun m hm => absurd hm (h m), fun g => by omega⟩
theorem C_z {e : Nat} {L : pl_L} {B : Nat} {w : List Nat} (h : L w) : ct_C e L B w 0 :=
  ⟨by omega, fun m _ => by omega, fun _ => ⟨by omega, can_0.mpr h⟩⟩
theorem cc_skip {B : Nat} {w : List Nat} (h : w ≠ []) : ct_C 0 la_skip B w 100 := by
  apply C_no
  rintro m ⟨u, _, _, g⟩
  exact h (List.append_eq_nil_iff.mp g).1
theorem cc_ev0 {B k : Nat} (hb : B.testBit k = true) : ct_C 1 (la_ev k) B [] 100 := by
  apply C_no
  rintro m ⟨u, _, b, g⟩
  have g : u = [k] := g
  subst g
  have := (b k List.mem_cons_self).2
  rw [hb] at this; exact absurd this (by decide)
theorem cc_ev1 {B k : Nat} (hk : k < 4) (hb : B.testBit k = false) : ct_C 1 (la_ev k) B [] 1 := by
  refine ⟨by omega, ?_, fun _ => ⟨by omega, [k], rfl, ?_, rfl⟩⟩
  · rintro m ⟨u, a, b, g⟩
    have g : u = [k] := g
    subst g
    have a : 1 = m := a
    omega
  · intro c hc
    rw [List.mem_singleton.mp hc]; exact ⟨hk, hb⟩
theorem cc_ev2 {B k : Nat} {w : List Nat} (h0 : w ≠ []) (h1 : w ≠ [k]) : ct_C 1 (la_ev k) B w 100 := by
  apply C_no
  rintro m ⟨u, _, b, g⟩
  have g : w ++ u = [k] := g
  cases w with
  | nil => exact h0 rfl
  | cons c w =>
    injection g with g1 g2
    obtain ⟨rfl, rfl⟩ := List.append_eq_nil_iff.mp g2
    exact h1 (by rw [g1])
theorem cc_seq {e1 e2 : Nat} {A A' : pl_L} {B P s r : Nat} {lg cx cy : Nat → Nat} (he : e1 + e2 < 100) (hs : s < 2 ^ P)
    (hx : ∀ s, s < 2 ^ P → ct_C e1 A B (sw_ lg s P) (cx s)) (hy : ∀ s, s < 2 ^ P → ct_C e2 A' B (sw_ lg s P) (cy s))
    (l0 : r ≤ cx s + cy 0) (l1 : ∀ p, p ≤ P → cx (s % 2 ^ p) = 0 → r ≤ cy (s - s % 2 ^ p))
    (at_ : r = cx s + cy 0 ∨ ∃ p, p ≤ P ∧ cx (s % 2 ^ p) = 0 ∧ r = cy (s - s % 2 ^ p)) : ct_C (e1 + e2) (la_seq A A') B (sw_ lg s P) (min r 100) := by
  have nil0 : sw_ lg 0 P = [] := sw_nil P (fun i _ => Nat.zero_testBit i)
  have z0 := hy 0 (Nat.two_pow_pos P)
  rw [nil0] at z0
  have lt1 : ∀ p, s % 2 ^ p < 2 ^ P := fun p => Nat.lt_of_le_of_lt (Nat.mod_le _ _) hs
  have lt2 : ∀ p, s - s % 2 ^ p < 2 ^ P := fun p => Nat.lt_of_le_of_lt (Nat.sub_le _ _) hs
  apply C_in he
  · rintro m ⟨z, hz, oz, a, b, e, ha, hb⟩
    rcases List.append_eq_append_iff.mp e with ⟨z1, e3, e4⟩ | ⟨b1, e3, e4⟩
    · subst e3 e4
      obtain ⟨o1, o2⟩ := ok_app.mp oz
      have c1 := C_lo (hx s hs) (m := z1.length) ⟨z1, rfl, o1, ha⟩
      have c2 := C_lo z0 (m := b.length) ⟨b, rfl, o2, hb⟩
      rw [List.length_append] at hz
      exact ⟨cx s + cy 0, by omega, l0, by omega⟩
    · obtain ⟨p, hp, q1, q2⟩ := sw_cut P a b1 e3
      have c1 : cx (s % 2 ^ p) = 0 := (C_0 (hx _ (lt1 p))).mpr (by rw [q1]; exact ha)
      have c2 := C_lo (hy _ (lt2 p)) (m := m) ⟨z, hz, oz, by rw [q2, ← e4]; exact hb⟩
      exact ⟨cy (s - s % 2 ^ p), c2.1, l1 p hp c1, by omega⟩
  · intro hr
    rcases at_ with e | ⟨p, hp, c1, e⟩
    · obtain ⟨a1, z1, n1, o1, g1⟩ := C_at (hx s hs) (by omega)
      obtain ⟨a2, z2, n2, o2, g2⟩ := C_at z0 (by omega)
      refine ⟨by omega, z1 ++ z2, by rw [List.length_append]; omega, ok_app.mpr ⟨o1, o2⟩, sw_ lg s P ++ z1, z2, by rw [List.append_assoc], g1, g2⟩
    · obtain ⟨a2, z2, n2, o2, g2⟩ := C_at (hy _ (lt2 p)) (by omega)
      have g1 := (C_0 (hx _ (lt1 p))).mp c1
      refine ⟨by omega, z2, by omega, o2, _, _, ?_, g1, g2⟩
      rw [← List.append_assoc, ← sw_split P hp]
theorem cc_cho {e1 e2 : Nat} {A A' : pl_L} {B : Nat} {w : List Nat} {cx cy : Nat} (hx : ct_C e1 A B w cx) (hy : ct_C e2 A' B w cy) : ct_C (e1 + e2) (la_cho A A') B w (min cx cy) := by
  refine ⟨by have := hx.1; omega, ?_, ?_⟩
  · rintro m ⟨z, hz, oz, g | g⟩
    · have := C_lo hx ⟨z, hz, oz, g⟩; omega
    · have := C_lo hy ⟨z, hz, oz, g⟩; omega
  · intro h
    by_cases q : cx ≤ cy
    · have e : min cx cy = cx := by omega
      rw [e]
      obtain ⟨a, z, n, o, g⟩ := C_at hx (by omega)
      exact ⟨by omega, z, n, o, Or.inl g⟩
    · have e : min cx cy = cy := by omega
      rw [e]
      obtain ⟨a, z, n, o, g⟩ := C_at hy (by omega)
      exact ⟨by omega, z, n, o, Or.inr g⟩
theorem cc_both {e1 e2 : Nat} {A A' : pl_L} {B P s r : Nat} {lg cx cy : Nat → Nat} (he : e1 + e2 < 100) (hs : s < 2 ^ P)
    (hx : ∀ s, s < 2 ^ P → ct_C e1 A B (sw_ lg s P) (cx s)) (hy : ∀ s, s < 2 ^ P → ct_C e2 A' B (sw_ lg s P) (cy s))
    (l1 : ∀ a, sb_ a s → r ≤ cx a + cy (s - a))
    (at_ : r = 100 ∨ ∃ a, sb_ a s ∧ r = cx a + cy (s - a)) : ct_C (e1 + e2) (la_both A A') B (sw_ lg s P) (min r 100) := by
  have lt1 : ∀ a, sb_ a s → a < 2 ^ P := fun a h => Nat.lt_of_le_of_lt (sb_le h) hs
  have lt2 : ∀ a, s - a < 2 ^ P := fun a => Nat.lt_of_le_of_lt (Nat.sub_le _ _) hs
  apply C_in he
  · rintro m ⟨z, hz, oz, u, v, hsh, hu, hv⟩
    obtain ⟨u1, u2, v1, v2, rfl, rfl, g1, g2⟩ := sh_cut _ _ _ _ hsh
    obtain ⟨a, h1, h2, h3, h4⟩ := sh_all P u1 v1 g1
    obtain ⟨n, mem⟩ := sh_len _ _ _ g2
    have c1 := C_lo (hx a (lt1 a h2)) (m := u2.length) ⟨u2, rfl, fun c hc => oz c (mem c (Or.inl hc)), by rw [h3]; exact hu⟩
    have c2 := C_lo (hy (s - a) (lt2 a)) (m := v2.length) ⟨v2, rfl, fun c hc => oz c (mem c (Or.inr hc)), by rw [h4]; exact hv⟩
    exact ⟨cx a + cy (s - a), by omega, l1 a h2, by omega⟩
  · intro hr
    rcases at_ with e | ⟨a, h2, e⟩
    · omega
    · obtain ⟨a1, z1, n1, o1, g1⟩ := C_at (hx a (lt1 a h2)) (by omega)
      obtain ⟨a2, z2, n2, o2, g2⟩ := C_at (hy _ (lt2 a)) (by omega)
      refine ⟨by omega, z1 ++ z2, by rw [List.length_append]; omega, ok_app.mpr ⟨o1, o2⟩, _, _, sh_join _ _ _ _ _ _ (sh_sw h2 P) (sh_app z1 z2), g1, g2⟩
theorem lo_split {A : pl_L} {z : List Nat} {w : List Nat} (hw : w ≠ []) : ∀ ws : List (List Nat), w ++ z = ws.flatten → (∀ x, x ∈ ws → A x) →
    (∃ a b, z = a ++ b ∧ A (w ++ a)) ∨ (∃ u v, w = u ++ v ∧ u ≠ [] ∧ v ≠ [] ∧ A u ∧ la_loop A (v ++ z)) := by
  intro ws
  induction ws with
  | nil => intro e _; exact absurd (List.append_eq_nil_iff.mp e).1 hw
  | cons x ws ih =>
    intro e h
    rw [List.flatten_cons] at e
    by_cases hx : x = []
    · subst hx
      exact ih e (fun y hy => h y (List.mem_cons_of_mem _ hy))
    · have hA := h x List.mem_cons_self
      rcases List.append_eq_append_iff.mp e with ⟨z1, e3, e4⟩ | ⟨b1, e3, e4⟩
      · exact Or.inl ⟨z1, ws.flatten, e4, by rw [← e3]; exact hA⟩
      · by_cases hb : b1 = []
        · subst hb
          rw [List.append_nil] at e3
          exact Or.inl ⟨[], z, rfl, by rw [List.append_nil, e3]; exact hA⟩
        · exact Or.inr ⟨x, b1, e3, hx, hb, hA, ws, e4.symm, fun y hy => h y (List.mem_cons_of_mem _ hy)⟩
theorem lo_one {A : pl_L} {w : List Nat} (h : A w) : la_loop A w := ⟨[w], by simp, by simpa using h⟩
theorem lo_cons {A : pl_L} {u v : List Nat} (h : A u) (g : la_loop A v) : la_loop A (u ++ v) := by
  obtain ⟨ws, e, q⟩ := g
  refine ⟨u :: ws, by rw [List.flatten_cons, e], ?_⟩
  intro x hx
  rcases List.mem_cons.mp hx with rfl | hx
  · exact h
  · exact q x hx
theorem lo_nil {A : pl_L} : la_loop A [] := ⟨[], rfl, by simp⟩
theorem cc_loop {e1 : Nat} {A : pl_L} {B P s r : Nat} {lg cx cn : Nat → Nat} (hs : s < 2 ^ P) (h0 : s ≠ 0)
    (hx : ∀ s, s < 2 ^ P → ct_C e1 A B (sw_ lg s P) (cx s)) (hy : ∀ t, t < s → ct_C e1 (la_loop A) B (sw_ lg t P) (cn t))
    (l0 : r ≤ cx s) (l1 : ∀ p, p ≤ P → s % 2 ^ p ≠ 0 → s % 2 ^ p ≠ s → cx (s % 2 ^ p) = 0 → r ≤ cn (s - s % 2 ^ p))
    (at_ : r = cx s ∨ ∃ p, p ≤ P ∧ s % 2 ^ p ≠ 0 ∧ s % 2 ^ p ≠ s ∧ cx (s % 2 ^ p) = 0 ∧ r = cn (s - s % 2 ^ p)) : ct_C e1 (la_loop A) B (sw_ lg s P) r := by
  have lt1 : ∀ p, s % 2 ^ p < 2 ^ P := fun p => Nat.lt_of_le_of_lt (Nat.mod_le _ _) hs
  have hw : sw_ lg s P ≠ [] := fun h => h0 ((sw_nil_iff hs).mp h)
  refine ⟨by have := (hx s hs).1; omega, ?_, ?_⟩
  · rintro m ⟨z, hz, oz, ws, e, hA⟩
    rcases lo_split hw ws e hA with ⟨a, b, rfl, g⟩ | ⟨u, v, e, nu, nv, g, g'⟩
    · have := C_lo (hx s hs) (m := a.length) ⟨a, rfl, (ok_app.mp oz).1, g⟩
      rw [List.length_append] at hz
      omega
    · obtain ⟨p, hp, q1, q2⟩ := sw_cut P u v e
      have n0 : s % 2 ^ p ≠ 0 := fun h => nu (by rw [← q1, h]; exact sw_nil P (fun i _ => Nat.zero_testBit i))
      have n1 : s % 2 ^ p ≠ s := fun h => nv (by rw [← q2, h, Nat.sub_self]; exact sw_nil P (fun i _ => Nat.zero_testBit i))
      have c1 : cx (s % 2 ^ p) = 0 := (C_0 (hx _ (lt1 p))).mpr (by rw [q1]; exact g)
      have c2 := C_lo (hy (s - s % 2 ^ p) (by omega)) (m := m) ⟨z, hz, oz, by rw [q2]; exact g'⟩
      have := l1 p hp n0 n1 c1
      omega
  · intro hr
    rcases at_ with e | ⟨p, hp, n0, n1, c1, e⟩
    · obtain ⟨a1, z1, m1, o1, g1⟩ := C_at (hx s hs) (by omega)
      exact ⟨by omega, z1, by omega, o1, lo_one g1⟩
    · obtain ⟨a2, z2, m2, o2, g2⟩ := C_at (hy (s - s % 2 ^ p) (by omega)) (by omega)
      have g1 := (C_0 (hx _ (lt1 p))).mp c1
      refine ⟨by omega, z2, by omega, o2, ?_⟩
      rw [sw_split P hp, List.append_assoc]
      exact lo_cons g1 g2
theorem cc_opt {e1 : Nat} {A : pl_L} {B : Nat} {w : List Nat} {cx : Nat} (hw : w ≠ []) (hx : ct_C e1 A B w cx) : ct_C e1 (la_opt A) B w cx := by
  have e : ∀ m, ct_can (la_opt A) B w m ↔ ct_can A B w m := by
    intro m
    constructor
    · rintro ⟨z, a, b, g | g⟩
      · exact absurd (List.append_eq_nil_iff.mp g).1 hw
      · exact ⟨z, a, b, g⟩
    · rintro ⟨z, a, b, g⟩; exact ⟨z, a, b, Or.inr g⟩
  refine ⟨hx.1, fun m hm => hx.2.1 m ((e m).mp hm), fun h => ?_⟩
  have := hx.2.2 h
  exact ⟨this.1, (e cx).mpr this.2⟩
