/-! the postfix code read as a stack of languages -/
abbrev st_T : Type := Nat × (Nat → Nat) × (Nat → pl_L)
def st_put {α : Type} (f : Nat → α) (k : Nat) (v : α) : Nat → α := fun j => if j = k then v else f j
theorem pt_s {α : Type} {f : Nat → α} {k : Nat} {v : α} : st_put f k v k = v := if_pos rfl
theorem pt_n {α : Type} {f : Nat → α} {k j : Nat} {v : α} (h : j ≠ k) : st_put f k v j = f j := if_neg h
def la_bin (op : Nat) (A B : pl_L) : pl_L := if op = 5 then la_seq A B else if op = 6 then la_cho A B else la_both A B
def la_un (op : Nat) (A : pl_L) : pl_L := if op = 8 then la_loop A else la_opt A
def st_step (g : st_T) (op : Nat) : st_T :=
  if op < 4 then (g.1 + 1, st_put g.2.1 g.1 1, st_put g.2.2 g.1 (la_ev op))
  else if op = 4 then (g.1 + 1, st_put g.2.1 g.1 0, st_put g.2.2 g.1 la_skip)
  else if op < 8 then (g.1 - 1, st_put g.2.1 (g.1 - 2) (g.2.1 (g.1 - 2) + g.2.1 (g.1 - 1)), st_put g.2.2 (g.1 - 2) (la_bin op (g.2.2 (g.1 - 2)) (g.2.2 (g.1 - 1))))
  else (g.1, g.2.1, st_put g.2.2 (g.1 - 1) (la_un op (g.2.2 (g.1 - 1))))
theorem ss_ev {g : st_T} {op : Nat} (h : op < 4) : st_step g op = (g.1 + 1, st_put g.2.1 g.1 1, st_put g.2.2 g.1 (la_ev op)) := if_pos h
theorem ss_sk {g : st_T} : st_step g 4 = (g.1 + 1, st_put g.2.1 g.1 0, st_put g.2.2 g.1 la_skip) := rfl
theorem ss_bi {g : st_T} {op : Nat} (h : 5 ≤ op) (h' : op < 8) : st_step g op = (g.1 - 1, st_put g.2.1 (g.1 - 2) (g.2.1 (g.1 - 2) + g.2.1 (g.1 - 1)), st_put g.2.2 (g.1 - 2) (la_bin op (g.2.2 (g.1 - 2)) (g.2.2 (g.1 - 1)))) := by
  unfold st_step
  rw [if_neg (by omega), if_neg (by omega), if_pos h']
theorem ss_un {g : st_T} {op : Nat} (h : 8 ≤ op) : st_step g op = (g.1, g.2.1, st_put g.2.2 (g.1 - 1) (la_un op (g.2.2 (g.1 - 1)))) := by
  unfold st_step
  rw [if_neg (by omega), if_neg (by omega), if_neg (by omega)]
def st_run (c : List Nat) : st_T := c.foldl st_step (0, fun _ => 0, fun _ => la_skip)
theorem sr_snoc (c : List Nat) (op : Nat) : st_run (c ++ [op]) = st_step (st_run c) op := by
  unfold st_run; rw [List.foldl_append]; rfl
def st_v (d op : Nat) : Prop := op ≤ 9 ∧ (5 ≤ op → op < 8 → 2 ≤ d) ∧ (8 ≤ op → 1 ≤ d)
def st_ok (c : List Nat) : Prop := ∀ i, i < c.length → st_v (st_run (c.take i)).1 (c.getD i 0)
theorem sk_nil : st_ok [] := fun i hi => absurd hi (by simp)
theorem sk_snoc {c : List Nat} {op : Nat} (h : st_ok c) (g : st_v (st_run c).1 op) : st_ok (c ++ [op]) := by
  intro i hi
  rw [List.length_append] at hi
  have hi : i < c.length + 1 := hi
  by_cases e : i < c.length
  · have q := h i e
    rw [List.take_append_of_le_length (by omega)]
    have : (c ++ [op]).getD i 0 = c.getD i 0 := by
      simp only [List.getD_eq_getElem?_getD]
      rw [List.getElem?_append_left e]
    rw [this]; exact q
  · have e : i = c.length := by omega
    subst e
    have : (c ++ [op]).getD c.length 0 = op := by
      simp only [List.getD_eq_getElem?_getD]
      rw [List.getElem?_append_right (Nat.le_refl _)]
      simp
    rw [this, List.take_append_of_le_length (Nat.le_refl _), List.take_length]
    exact g
theorem tk_s {c : List Nat} {i : Nat} (h : i < c.length) : c.take (i + 1) = c.take i ++ [c.getD i 0] := by
  rw [List.take_add_one, List.getD_eq_getElem?_getD, List.getElem?_eq_getElem h]
  rfl
def st_sum (E : Nat → Nat) : Nat → Nat
  | 0 => 0
  | d + 1 => st_sum E d + E d
theorem sm_put {E : Nat → Nat} {k v : Nat} : ∀ d, d ≤ k → st_sum (st_put E k v) d = st_sum E d := by
  intro d
  induction d with
  | zero => intro _; rfl
  | succ d ih =>
    intro h
    show st_sum _ d + st_put E k v d = st_sum E d + E d
    rw [ih (by omega), pt_n (by omega)]
theorem sm_le {E : Nat → Nat} : ∀ d i, i < d → E i ≤ st_sum E d := by
  intro d
  induction d with
  | zero => intro i h; omega
  | succ d ih =>
    intro i h
    show _ ≤ st_sum E d + E d
    by_cases e : i = d
    · subst e; omega
    · have := ih i (by omega); omega
theorem sm_le2 {E : Nat → Nat} {d : Nat} (h : 2 ≤ d) : E (d - 2) + E (d - 1) ≤ st_sum E d := by
  obtain ⟨k, rfl⟩ : ∃ k, d = k + 2 := ⟨d - 2, by omega⟩
  show E k + E (k + 1) ≤ st_sum E k + E k + E (k + 1)
  omega
theorem sm_push {E : Nat → Nat} {d v : Nat} : st_sum (st_put E d v) (d + 1) = st_sum E d + v := by
  show st_sum (st_put E d v) d + st_put E d v d = _
  rw [sm_put d (Nat.le_refl _), pt_s]
theorem sm_bin {E : Nat → Nat} {d : Nat} (h : 2 ≤ d) : st_sum (st_put E (d - 2) (E (d - 2) + E (d - 1))) (d - 1) = st_sum E d := by
  obtain ⟨k, rfl⟩ : ∃ k, d = k + 2 := ⟨d - 2, by omega⟩
  show st_sum (st_put E k (E k + E (k + 1))) (k + 1) = st_sum E k + E k + E (k + 1)
  rw [sm_push, Nat.add_assoc]
theorem sr_bound {c : List Nat} (h : st_ok c) : ∀ i, i ≤ c.length → (st_run (c.take i)).1 ≤ i ∧ st_sum (st_run (c.take i)).2.1 (st_run (c.take i)).1 ≤ i := by
  intro i
  induction i with
  | zero => intro _; rw [List.take_zero]; exact ⟨Nat.le_refl _, Nat.le_refl _⟩
  | succ i ih =>
    intro hi
    obtain ⟨a, b⟩ := ih (by omega)
    obtain ⟨v1, v2, v3⟩ := h i (by omega)
    rw [tk_s (by omega), sr_snoc]
    generalize st_run (c.take i) = g at *
    generalize c.getD i 0 = op at *
    by_cases h4 : op < 4
    · rw [ss_ev h4]
      refine ⟨by show g.1 + 1 ≤ _; omega, ?_⟩
      show st_sum (st_put g.2.1 g.1 1) (g.1 + 1) ≤ _
      rw [sm_push]; omega
    · by_cases e4 : op = 4
      · subst e4
        rw [ss_sk]
        refine ⟨by show g.1 + 1 ≤ _; omega, ?_⟩
        show st_sum (st_put g.2.1 g.1 0) (g.1 + 1) ≤ _
        rw [sm_push]; omega
      · by_cases h8 : op < 8
        · rw [ss_bi (by omega) h8]
          refine ⟨by show g.1 - 1 ≤ _; omega, ?_⟩
          show st_sum (st_put g.2.1 (g.1 - 2) _) (g.1 - 1) ≤ _
          rw [sm_bin (v2 (by omega) h8)]; omega
        · rw [ss_un (by omega)]
          exact ⟨by show g.1 ≤ _; omega, by show st_sum g.2.1 g.1 ≤ _; omega⟩
/-! a machine in the arrays -/
def ma_D (mv : Nat → Int64) (x n : Nat) : Nat → Nat → Nat → Prop := fun s k t => s < n ∧ k < 4 ∧ mb_ (mv (pl_ x s k)) t
def ma_ (sz : Nat → Int32) (en mv : Nat → Int64) (x e : Nat) (L : pl_L) : Prop :=
  ∃ n, sz x = nI n ∧ n ≤ 2 ^ e ∧ au_ok n (ma_D mv x n) (fun t => mb_ (en x) t) L
theorem p6 {e : Nat} (h : e ≤ 6) : 2 ^ e ≤ 64 := Nat.pow_le_pow_right (n := 2) (by decide) h
theorem ma_fr {sz sz' : Nat → Int32} {en en' mv mv' : Nat → Int64} {x x' e : Nat} {L : pl_L} (he : e ≤ 6) (h : ma_ sz en mv x e L) (h1 : sz' x' = sz x) (h2 : en' x' = en x) (h3 : ∀ n, sz x = nI n → n ≤ 64 → ∀ s k, s < n → k < 4 → mv' (pl_ x' s k) = mv (pl_ x s k)) : ma_ sz' en' mv' x' e L := by
  obtain ⟨n, a, b, c⟩ := h
  have n64 : n ≤ 64 := Nat.le_trans b (p6 he)
  refine ⟨n, by rw [h1, a], b, au_congr ?_ (fun t => by show mb_ (en' x') t ↔ mb_ (en x) t; rw [h2]) c⟩
  intro s k t
  constructor
  · rintro ⟨p, q, r⟩; rw [h3 n a n64 s k p q] at r; exact ⟨p, q, r⟩
  · rintro ⟨p, q, r⟩; rw [← h3 n a n64 s k p q] at r; exact ⟨p, q, r⟩
/-- everything but machine x and the spare stays -/
def fr_ (x : Nat) (sz : Nat → Int32) (en mv : Nat → Int64) (sz' : Nat → Int32) (en' mv' : Nat → Int64) : Prop :=
  ∀ z, z ≠ x → z ≠ 9 → sz' z = sz z ∧ en' z = en z ∧ ∀ s k, s < 64 → k < 4 → mv' (pl_ z s k) = mv (pl_ z s k)
theorem fr_ma {x : Nat} {sz sz' : Nat → Int32} {en mv en' mv' : Nat → Int64} (h : fr_ x sz en mv sz' en' mv') {z e : Nat} {L : pl_L} (hz : z ≠ x) (h9 : z ≠ 9) (he : e ≤ 6) (g : ma_ sz en mv z e L) : ma_ sz' en' mv' z e L := by
  obtain ⟨a, b, c⟩ := h z hz h9
  exact ma_fr he g a b (fun n _ hn s k hs hk => c s k (by omega) hk)
