/-! the relation -/
def rl_D (dc : List Nat) (dr sz : Nat → Int32) (en mv : Nat → Int64) : Prop :=
  st_ok dc ∧ dc.length ≤ 16 ∧ (st_run dc).1 ≤ 8 ∧ st_sum (st_run dc).2.1 (st_run dc).1 ≤ 6 ∧ (∀ i, i < dc.length → dr i = nI (dc.getD i 0)) ∧
  ∀ i, i < (st_run dc).1 → ma_ sz en mv i ((st_run dc).2.1 i) ((st_run dc).2.2 i)
def rl_M (pc : List Nat) (n : Nat) (lg : Nat → Nat) (sz : Nat → Int32) (en mv re : Nat → Int64) : Prop :=
  ∃ N, sz 8 = nI N ∧ N ≤ 64 ∧ au_ok N (ma_D mv 8 N) (fun t => mb_ (en 8) t) ((st_run pc).2.2 0) ∧
    ∀ m, m ≤ n → (∀ t, mb_ (re m) t ↔ au_run (ma_D mv 8 N) 0 (wd_ lg m) t) ∧ ∃ t, mb_ (re m) t
def rl_P (pc : List Nat) (pr : Nat → Int32) : Prop :=
  st_ok pc ∧ 0 < pc.length ∧ pc.length ≤ 16 ∧ (st_run pc).1 = 1 ∧ (st_run pc).2.1 0 < 64 ∧ (∀ i, i < pc.length → pr i = nI (pc.getD i 0))
def rl_L (n : Nat) (lg : Nat → Nat) (lo yl : Nat → Int32) : Prop :=
  n ≤ 7 ∧ ∀ i, i < n → lo i = nI (lg i) ∧ yl i = nI (lg i) ∧ lg i < 4
def i_Rel (_k : Nat) (u : SX) (v : SY) : Prop :=
  ∃ (dc pc : List Nat) (d s n : Nat) (lg : Nat → Nat) (sz : Nat → Int32) (en mv : Nat → Int64) (lo : Nat → Int32) (re : Nat → Int64) (dr pr yl co op : Nat → Int32),
    u = (nI d, nI dc.length, nI s, nI n, sz, en, mv, lo, re) ∧
    v = (nI dc.length, nI d, nI s, nI pc.length, nI n, dr, pr, yl, co, op) ∧
    (st_run dc).1 = d ∧ st_sum (st_run dc).2.1 (st_run dc).1 = s ∧
    rl_D dc dr sz en mv ∧ rl_P pc pr ∧ rl_M pc n lg sz en mv re ∧ rl_L n lg lo yl
theorem i_up {k : Nat} {u : SX} {v : SY} (h : i_Rel k u v) : i_Rel (k + 2) u v := h
theorem D_fr {mv mv' : Nat → Int64} {x x' N : Nat} (h : ∀ s k, s < N → k < 4 → mv' (pl_ x' s k) = mv (pl_ x s k)) : ma_D mv' x' N = ma_D mv x N := by
  funext s k t
  apply propext
  constructor
  · rintro ⟨p, q, r⟩; rw [h s k p q] at r; exact ⟨p, q, r⟩
  · rintro ⟨p, q, r⟩; rw [← h s k p q] at r; exact ⟨p, q, r⟩
theorem M_fr {pc : List Nat} {n x : Nat} {lg : Nat → Nat} {sz sz' : Nat → Int32} {en mv en' mv' re : Nat → Int64} (hx : x < 8) (h : rl_M pc n lg sz en mv re) (f : fr_ x sz en mv sz' en' mv') : rl_M pc n lg sz' en' mv' re := by
  obtain ⟨N, a, b, c, d⟩ := h
  obtain ⟨f1, f2, f3⟩ := f 8 (by omega) (by omega)
  refine ⟨N, by rw [f1, a], b, ?_, ?_⟩
  · rw [D_fr (fun s k hs hk => f3 s k (by omega) hk), f2]; exact c
  · rw [D_fr (fun s k hs hk => f3 s k (by omega) hk)]; exact d
theorem gd_app {c : List Nat} {op i : Nat} (h : i < c.length) : (c ++ [op]).getD i 0 = c.getD i 0 := by
  simp only [List.getD_eq_getElem?_getD]
  rw [List.getElem?_append_left h]
theorem gd_last {c : List Nat} {op : Nat} : (c ++ [op]).getD c.length 0 = op := by
  simp only [List.getD_eq_getElem?_getD]
  rw [List.getElem?_append_right (Nat.le_refl _)]
  simp
theorem D_step {dc : List Nat} {op d' e' : Nat} {L' : pl_L} {g' : st_T} {dr sz sz' : Nat → Int32} {en mv en' mv' : Nat → Int64} (h : rl_D dc dr sz en mv) (hv : st_v (st_run dc).1 op) (hl : dc.length < 16) (hg : st_step (st_run dc) op = g')
    (h1 : g'.1 = d') (p0 : 0 < d') (p8 : d' ≤ 8) (hs : st_sum g'.2.1 d' ≤ 6) (h2 : g'.2.1 (d' - 1) = e') (h3 : g'.2.2 (d' - 1) = L') (h4 : ∀ i, i < d' - 1 → i < (st_run dc).1 ∧ g'.2.1 i = (st_run dc).2.1 i ∧ g'.2.2 i = (st_run dc).2.2 i)
    (f : fr_ (d' - 1) sz en mv sz' en' mv') (m : ma_ sz' en' mv' (d' - 1) e' L') : rl_D (dc ++ [op]) (upd dr dc.length (nI op)) sz' en' mv' := by
  obtain ⟨a1, a2, a3, a4, a5, a6⟩ := h
  have er : st_run (dc ++ [op]) = g' := by rw [sr_snoc, hg]
  refine ⟨sk_snoc a1 hv, by rw [List.length_append]; show dc.length + 1 ≤ _; omega, by rw [er, h1]; exact p8, by rw [er, h1]; exact hs, ?_, ?_⟩
  · intro i hi
    rw [List.length_append] at hi
    have hi : i < dc.length + 1 := hi
    by_cases e : i = dc.length
    · subst e; rw [pk_us, gd_last]
    · rw [pk_un e, gd_app (by omega)]; exact a5 i (by omega)
  · rw [er, h1]
    intro i hi
    by_cases e : i = d' - 1
    · subst e; rw [h2, h3]; exact m
    · obtain ⟨b1, b2, b3⟩ := h4 i (by omega)
      rw [b2, b3]
      have le := sm_le (E := (st_run dc).2.1) _ i b1
      exact fr_ma f e (by omega) (by omega) (a6 i b1)
theorem len_s {dc : List Nat} {op : Nat} : (dc ++ [op]).length = dc.length + 1 := by rw [List.length_append]; rfl
/-! small walks of X -/
theorem xm_nf {post : Int32 → Prop} {x : Int32} (h : x < 0 ∨ nI 4 ≤ x) (hp : post 0) : wpX_isName post x := by
  rcases h with h | h
  · exact br_t h hp
  · exact br_c (fun _ => hp) (fun _ => br_t h hp)
theorem xm_nt {post : Int32 → Prop} {j : Nat} (hj : j < 4) (hp : post 1) : wpX_isName post (nI j) :=
  br_f (nI_pos (by omega)) (br_f (nI_ge (b := 4) hj (by decide)) hp)
theorem n_lt4 {x : Int32} (h : nI 4 ≤ x) : ¬ x < 0 ∧ ¬ x ≤ 3 := by
  have h4 : (nI 4).toInt = 4 := by decide
  have h0 : (0 : Int32).toInt = 0 := by decide
  have h3 : (3 : Int32).toInt = 3 := by decide
  rw [Int32.le_iff_toInt_le, h4] at h
  rw [Int32.lt_iff_toInt_lt, Int32.le_iff_toInt_le, h0, h3]
  omega
theorem n_lt16 {x : Int32} (h : nI 16 ≤ x) : ¬ x < 0 ∧ ¬ x ≤ 15 ∧ ¬ x < 16 := by
  have h4 : (nI 16).toInt = 16 := by decide
  have h0 : (0 : Int32).toInt = 0 := by decide
  have h3 : (15 : Int32).toInt = 15 := by decide
  have h5 : (16 : Int32).toInt = 16 := by decide
  rw [Int32.le_iff_toInt_le, h4] at h
  rw [Int32.lt_iff_toInt_lt, Int32.le_iff_toInt_le, Int32.lt_iff_toInt_lt, h0, h3, h5]
  omega
