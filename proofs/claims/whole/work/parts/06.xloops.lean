/-! X's private loops, each with a general post -/
section
variable {sd sc ec ll : Int32} {sz : Nat → Int32} {en mv : Nat → Int64} {lo : Nat → Int32} {re : Nat → Int64}
theorem plb {z s k : Nat} (hz : z < 10) (hs : s < 64) (hk : k < 4) : pl_ z s k < 2 ^ 31 := Nat.lt_of_lt_of_le (pl_lt hz hs hk) (by decide)
theorem pli {z s k : Nat} (hz : z < 10) (hs : s < 64) (hk : k < 4) : vp_in (nI (pl_ z s k)) 2560 := vp_in_nI (pl_lt hz hs hk) (by decide)
theorem plc {z s k : Nat} (hz : z < 10) (hs : s < 64) (hk : k < 4) : (nI (pl_ z s k)).toNatClampNeg = pl_ z s k := nI_clamp (plb hz hs hk)
theorem z10 {x : Nat} (hx : x < 10) : vp_in (nI x) 10 := vp_in_nI hx (by decide)
theorem z10c {x : Nat} (hx : x < 10) : (nI x).toNatClampNeg = x := nI_clamp (by omega)
/- clearMoves -/
theorem xw_cl17 {post : SX → Prop} {J : Int32 → (Nat → Int32) → (Nat → Int64) → (Nat → Int64) → (Nat → Int32) → (Nat → Int64) → Prop} {x s : Nat} {x2 : Int32} (hx : x < 10) (hs : s < 64)
    (h : ∀ mv', gx_ mv mv' x (fun s' _ => s' < s + 1) (fun _ _ v => v = 0) → J (nI (s + 1)) sz en mv' lo re) :
    ∀ d j, j + d = 4 → ∀ mv', gx_ mv mv' x (fun s' k' => s' < s ∨ (s' = s ∧ k' < j)) (fun _ _ v => v = 0) → wX_clearMoves_17 post J (nI x) x2 (nI s) sd sc ec ll (d + 1) (nI j) sz en mv' lo re := by
  intro d
  induction d with
  | zero =>
    intro j hj mv' g
    have : j = 4 := by omega
    subst this
    exact br_t (nI_le (a := 4) (b := 4) (by omega) (by decide)) (nm_r (nI_1 s) (h mv' (gx_c g (fun s' k' _ hk' => by omega))))
  | succ d ih =>
    intro j hj mv' g
    have hk : j < 4 := by omega
    refine br_f (nI_ge (b := 4) hk (by decide)) (pl_wp hx hs hk ⟨pli hx hs hk, ?_⟩)
    refine nm_r (e' := vp_updL mv' (pl_ x s j) 0) (by rw [plc hx hs hk]) (nm_r (nI_1 j) (ih (j + 1) (by omega) _ ?_))
    exact gx_s g hs hk rfl (fun s' k' _ => by omega)
theorem xw_cl9 {post : SX → Prop} {x n : Nat} (hx : x < 10) (hn : n ≤ 64)
    (h : ∀ mv', gx_ mv mv' x (fun s' _ => s' < n) (fun _ _ v => v = 0) → post (sd, sc, ec, ll, sz, en, mv', lo, re)) :
    ∀ d s, s + d = n → ∀ mv', gx_ mv mv' x (fun s' _ => s' < s) (fun _ _ v => v = 0) → wX_clearMoves_9 post (nI x) (nI n) sd sc ec ll (d + 1) (nI s) sz en mv' lo re := by
  intro d
  induction d with
  | zero =>
    intro s hs mv' g
    have : s = n := by omega
    subst this
    exact br_t (nI_le (Nat.le_refl _) (by omega)) (h mv' g)
  | succ d ih =>
    intro s hs mv' g
    refine br_f (nI_ge (by omega) (by omega)) ⟨5, xw_cl17 (mv := mv) hx (by omega) (fun mv'' g' => ih (s + 1) (by omega) mv'' g') 4 0 (by omega) mv' ?_⟩
    exact gx_c g (fun s' k' _ _ => by omega)
theorem xw_clear {post : SX → Prop} {x n : Nat} (hx : x < 10) (hn : n ≤ 64) (hz : sz x = nI n)
    (h : ∀ mv', gx_ mv mv' x (fun s' _ => s' < n) (fun _ _ v => v = 0) → post (sd, sc, ec, ll, sz, en, mv', lo, re)) :
    wpX_clearMoves post (sd, sc, ec, ll, sz, en, mv, lo, re) (nI x) := by
  refine ⟨z10 hx, nm_r (e' := nI n) (by rw [z10c hx, hz]) ⟨n + 1, ?_⟩⟩
  exact xw_cl9 (mv := mv) hx hn h n 0 (by omega) mv (gx_0 (fun s k _ => by omega))
/- copyMachine -/
theorem xw_cp38 {post : SX → Prop} {J : Int32 → (Nat → Int32) → (Nat → Int64) → (Nat → Int64) → (Nat → Int32) → (Nat → Int64) → Prop} {y x s : Nat} {x3 : Int32} (hy : y < 10) (hx : x < 10) (hyx : y ≠ x) (hs : s < 64)
    (h : ∀ mv', gx_ mv mv' x (fun s' _ => s' < s + 1) (fun s' k' v => v = mv (pl_ y s' k')) → J (nI (s + 1)) sz en mv' lo re) :
    ∀ d j, j + d = 4 → ∀ mv', gx_ mv mv' x (fun s' k' => s' < s ∨ (s' = s ∧ k' < j)) (fun s' k' v => v = mv (pl_ y s' k')) → wX_copyMachine_38 post J (nI y) (nI x) x3 (nI s) sd sc ec ll (d + 1) (nI j) sz en mv' lo re := by
  intro d
  induction d with
  | zero =>
    intro j hj mv' g
    have : j = 4 := by omega
    subst this
    exact br_t (nI_le (a := 4) (b := 4) (by omega) (by decide)) (nm_r (nI_1 s) (h mv' (gx_c g (fun s' k' _ hk' => by omega))))
  | succ d ih =>
    intro j hj mv' g
    have hk : j < 4 := by omega
    refine br_f (nI_ge (b := 4) hk (by decide)) (pl_wp hx hs hk (pl_wp hy hs hk ⟨pli hy hs hk, pli hx hs hk, ?_⟩))
    refine nm_r (e' := vp_updL mv' (pl_ x s j) (mv' (pl_ y s j))) (by rw [plc hx hs hk, plc hy hs hk]) (nm_r (nI_1 j) (ih (j + 1) (by omega) _ ?_))
    exact gx_s g hs hk ((g y s j hs hk).2 (fun q => hyx q.1)) (fun s' k' _ => by omega)
theorem xw_cp29 {post : SX → Prop} {y x n : Nat} (hy : y < 10) (hx : x < 10) (hyx : y ≠ x) (hn : n ≤ 64)
    (h : ∀ mv', gx_ mv mv' x (fun s' _ => s' < n) (fun s' k' v => v = mv (pl_ y s' k')) → post (sd, sc, ec, ll, sz, en, mv', lo, re)) :
    ∀ d s, s + d = n → ∀ mv', gx_ mv mv' x (fun s' _ => s' < s) (fun s' k' v => v = mv (pl_ y s' k')) → wX_copyMachine_29 post (nI y) (nI x) (nI n) sd sc ec ll (d + 1) (nI s) sz en mv' lo re := by
  intro d
  induction d with
  | zero =>
    intro s hs mv' g
    have : s = n := by omega
    subst this
    exact br_t (nI_le (Nat.le_refl _) (by omega)) (h mv' g)
  | succ d ih =>
    intro s hs mv' g
    refine br_f (nI_ge (by omega) (by omega)) ⟨5, xw_cp38 (mv := mv) hy hx hyx (by omega) (fun mv'' g' => ih (s + 1) (by omega) mv'' g') 4 0 (by omega) mv' ?_⟩
    exact gx_c g (fun s' k' _ _ => by omega)
theorem xw_copy {post : SX → Prop} {y x n : Nat} (hy : y < 10) (hx : x < 10) (hyx : y ≠ x) (hn : n ≤ 64) (hz : sz y = nI n)
    (h : ∀ mv', gx_ mv mv' x (fun s' _ => s' < n) (fun s' k' v => v = mv (pl_ y s' k')) → post (sd, sc, ec, ll, upd sz x (nI n), vp_updL en x (en y), mv', lo, re)) :
    wpX_copyMachine post (sd, sc, ec, ll, sz, en, mv, lo, re) (nI y) (nI x) := by
  refine ⟨z10 hy, nm_r (e' := nI n) (by rw [z10c hy, hz]) ⟨z10 hx, nm_r (e' := upd sz x (nI n)) (by rw [z10c hx]) ⟨z10 hy, z10 hx, nm_r (e' := vp_updL en x (en y)) (by rw [z10c hx, z10c hy]) ⟨n + 1, ?_⟩⟩⟩⟩
  exact xw_cp29 (mv := mv) hy hx hyx hn h n 0 (by omega) mv (gx_0 (fun s k _ => by omega))
/- addMoves -/
theorem xw_ad11 {post : SX → Prop} {x n k : Nat} {fs tg : Int64} (hx : x < 10) (hk : k < 4) (hn : n ≤ 64)
    (h : ∀ mv', gx_ mv mv' x (fun s' k' => s' < n ∧ k' = k ∧ mb_ fs s') (fun s' k' v => v = mv (pl_ x s' k') ||| tg) → post (sd, sc, ec, ll, sz, en, mv', lo, re)) :
    ∀ d i, i + d = n → ∀ mv', gx_ mv mv' x (fun s' k' => s' < i ∧ k' = k ∧ mb_ fs s') (fun s' k' v => v = mv (pl_ x s' k') ||| tg) → wX_addMoves_11 post (nI x) fs (nI k) tg (nI n) sd sc ec ll (d + 1) (nI i) sz en mv' lo re := by
  intro d
  induction d with
  | zero =>
    intro i hi mv' g
    have : i = n := by omega
    subst this
    exact br_t (nI_le (Nat.le_refl _) (by omega)) (h mv' g)
  | succ d ih =>
    intro i hi mv' g
    have hs : i < 64 := by omega
    refine br_f (nI_ge (by omega) (by omega)) (mb_has hs (fun hb => ?_) (fun hb => ?_))
    · refine br_f (by decide) (pl_wp hx hs hk ⟨pli hx hs hk, pli hx hs hk, ?_⟩)
      refine nm_r (e' := vp_updL mv' (pl_ x i k) (mv (pl_ x i k) ||| tg)) (by rw [plc hx hs hk, (g x i k hs hk).2 (fun q => by omega)]) (nm_r (nI_1 i) (ih (i + 1) (by omega) _ ?_))
      refine gx_s g hs hk rfl (fun s' k' _ => ?_)
      constructor
      · rintro ⟨a, b, c⟩
        by_cases e : s' = i
        · exact Or.inr ⟨e, b⟩
        · exact Or.inl ⟨by omega, b, c⟩
      · rintro (⟨a, b, c⟩ | ⟨rfl, b⟩)
        · exact ⟨by omega, b, c⟩
        · exact ⟨by omega, b, hb⟩
    · refine br_t rfl (nm_r (nI_1 i) (ih (i + 1) (by omega) _ (gx_c g (fun s' k' _ _ => ?_))))
      constructor
      · rintro ⟨a, b, c⟩
        refine ⟨?_, b, c⟩
        rcases Nat.lt_or_ge s' i with q | q
        · exact q
        · have : s' = i := by omega
          subst this; exact absurd c hb
      · rintro ⟨a, b, c⟩; exact ⟨by omega, b, c⟩
theorem xw_add {post : SX → Prop} {x n k : Nat} {fs tg : Int64} (hx : x < 10) (hk : k < 4) (hn : n ≤ 64) (hz : sz x = nI n)
    (h : ∀ mv', gx_ mv mv' x (fun s' k' => s' < n ∧ k' = k ∧ mb_ fs s') (fun s' k' v => v = mv (pl_ x s' k') ||| tg) → post (sd, sc, ec, ll, sz, en, mv', lo, re)) :
    wpX_addMoves post (sd, sc, ec, ll, sz, en, mv, lo, re) (nI x) fs (nI k) tg := by
  refine ⟨z10 hx, nm_r (e' := nI n) (by rw [z10c hx, hz]) ⟨n + 1, ?_⟩⟩
  exact xw_ad11 (mv := mv) hx hk hn h n 0 (by omega) mv (gx_0 (fun s k _ => by omega))
/- appendStates -/
def ap_R (mv : Nat → Int64) (x y nx : Nat) (fs : Int64) : Nat → Nat → Int64 → Prop := fun s k v =>
  ∀ t, t < 64 → (mb_ v t ↔ (s < nx ∧ (mb_ (mv (pl_ x s k)) t ∨ (mb_ fs s ∧ nx - 1 ≤ t ∧ mb_ (mv (pl_ y 0 k)) (t - (nx - 1))))) ∨ (nx ≤ s ∧ nx - 1 ≤ t ∧ mb_ (mv (pl_ y (s - (nx - 1)) k)) (t - (nx - 1))))
theorem xw_ap57 {post : SX → Prop} {J : Int32 → Int32 → Int32 → Int32 → Int32 → (Nat → Int32) → (Nat → Int64) → (Nat → Int64) → (Nat → Int32) → (Nat → Int64) → Prop} {x y nx ny k : Nat} {fs : Int64} (hx : x < 10) (hy : y < 10) (hyx : y ≠ x) (hk : k < 4) (px : 0 < nx) (hN : nx + ny - 1 ≤ 64)
    (h : ∀ mv', gx_ mv mv' x (fun s' k' => k' < k + 1 ∧ s' < nx + ny - 1) (ap_R mv x y nx fs) → J (nI (k + 1)) sd sc ec ll sz en mv' lo re) :
    ∀ d s, s + d = ny → 1 ≤ s → ∀ mv', gx_ mv mv' x (fun s' k' => (k' < k ∧ s' < nx + ny - 1) ∨ (k' = k ∧ s' < nx - 1 + s)) (ap_R mv x y nx fs) → wX_appendStates_57 post J (nI x) (nI y) fs (nI (nx - 1)) (nI ny) (nI k) sd sc ec ll (d + 1) (nI s) sz en mv' lo re := by
  intro d
  induction d with
  | zero =>
    intro s hs h1 mv' g
    have : s = ny := by omega
    subst this
    exact br_t (nI_le (Nat.le_refl _) (by omega)) (nm_r (nI_1 k) (h mv' (gx_c g (fun s' k' _ _ => by omega))))
  | succ d ih =>
    intro s hs h1 mv' g
    have a1 : nx - 1 + s < 64 := by omega
    have a2 : s < 64 := by omega
    refine br_f (nI_ge (by omega) (by omega)) ?_
    rw [nI_add]
    refine pl_wp hx a1 hk (pl_wp hy a2 hk ⟨pli hy a2 hk, pli hx a1 hk, ?_⟩)
    refine nm_r (e' := vp_updL mv' (pl_ x (nx - 1 + s) k) (mv (pl_ y s k) <<< ((nI (nx - 1)).toInt64 &&& 63))) (by rw [plc hx a1 hk, plc hy a2 hk, (g y s k a2 hk).2 (fun q => hyx q.1)]) (nm_r (nI_1 s) (ih (s + 1) (by omega) (by omega) _ ?_))
    refine gx_s g a1 hk ?_ (fun s' k' _ => by omega)
    intro t ht
    rw [mb_shl (by omega) _ ht, show nx - 1 + s - (nx - 1) = s by omega]
    constructor
    · intro q; exact Or.inr ⟨by omega, q⟩
    · rintro (q | q)
      · omega
      · exact q.2
theorem xw_ap21 {post : SX → Prop} {x y nx ny : Nat} {fs : Int64} (hx : x < 10) (hy : y < 10) (hyx : y ≠ x) (px : 0 < nx) (py : 0 < ny) (hN : nx + ny - 1 ≤ 64) (hzx : sz x = nI nx)
    (h : ∀ mv', gx_ mv mv' x (fun s' _ => s' < nx + ny - 1) (ap_R mv x y nx fs) → post (sd, sc, ec, ll, upd sz x (nI (nx + ny - 1)), en, mv', lo, re)) :
    ∀ d k, k + d = 4 → ∀ mv', gx_ mv mv' x (fun s' k' => k' < k ∧ s' < nx + ny - 1) (ap_R mv x y nx fs) → wX_appendStates_21 post (nI x) (nI y) fs (nI (nx - 1)) (nI ny) (d + 1) (nI k) sd sc ec ll sz en mv' lo re := by
  intro d
  induction d with
  | zero =>
    intro k hk mv' g
    have : k = 4 := by omega
    subst this
    refine br_t (nI_le (a := 4) (b := 4) (by omega) (by decide)) ⟨z10 hx, z10 hx, nm_r (e' := upd sz x (nI (nx + ny - 1))) ?_ (h mv' (gx_c g (fun s' k' _ _ => by omega)))⟩
    have e1 : nI ny - 1 = nI (ny - 1) := by
      have := pk_sub (a := ny) (b := 1) (by omega)
      exact this
    rw [z10c hx, hzx, e1, nI_add, show nx + (ny - 1) = nx + ny - 1 by omega]
  | succ d ih =>
    intro k hk' mv' g
    have hk : k < 4 := by omega
    refine br_f (nI_ge (b := 4) hk (by decide)) ?_
    refine pl_wp (s := 0) hy (by omega) hk ⟨pli hy (by omega) hk, nm_r (e' := mv (pl_ y 0 k) <<< ((nI (nx - 1)).toInt64 &&& 63)) (by rw [plc hy (by omega) hk, (g y 0 k (by omega) hk).2 (fun q => hyx q.1)]) ?_⟩
    refine xw_add hx hk (n := nx) (by omega) hzx (fun mv'' g'' => ⟨ny - 1 + 1, ?_⟩)
    refine xw_ap57 (mv := mv) hx hy hyx hk px hN (fun mv3 g3 => ih (k + 1) (by omega) mv3 g3) (ny - 1) 1 (by omega) (by omega) mv'' ?_
    intro z s k' hs hk'
    have q1 := g z s k' hs hk'
    have q2 := g'' z s k' hs hk'
    constructor
    · rintro ⟨rfl, a | a⟩
      · rw [q2.2 (fun b => by omega)]
        exact q1.1 ⟨rfl, a⟩
      · obtain ⟨rfl, a⟩ := a
        have q3 := q1.2 (fun b => by omega)
        by_cases hb : mb_ fs s
        · have q4 := q2.1 ⟨rfl, by omega, rfl, hb⟩
          rw [q4, q3]
          intro t ht
          rw [mb_or, mb_shl (by omega) _ ht]
          constructor
          · rintro (c | c)
            · exact Or.inl ⟨by omega, Or.inl c⟩
            · exact Or.inl ⟨by omega, Or.inr ⟨hb, c⟩⟩
          · rintro (⟨_, c | c⟩ | c)
            · exact Or.inl c
            · exact Or.inr c.2
            · omega
        · have q4 := q2.2 (fun b => hb b.2.2.2)
          rw [q4, q3]
          intro t ht
          constructor
          · intro c; exact Or.inl ⟨by omega, Or.inl c⟩
          · rintro (⟨_, c | c⟩ | c)
            · exact c
            · exact absurd c.1 hb
            · omega
    · intro n
      rw [q2.2 (fun b => n ⟨b.1, by omega⟩), q1.2 (fun b => n ⟨b.1, Or.inl b.2⟩)]
theorem xw_append {post : SX → Prop} {x y nx ny : Nat} {fs : Int64} (hx : x < 10) (hy : y < 10) (hyx : y ≠ x) (px : 0 < nx) (py : 0 < ny) (hN : nx + ny - 1 ≤ 64) (hzx : sz x = nI nx) (hzy : sz y = nI ny)
    (h : ∀ mv', gx_ mv mv' x (fun s' _ => s' < nx + ny - 1) (ap_R mv x y nx fs) → post (sd, sc, ec, ll, upd sz x (nI (nx + ny - 1)), en, mv', lo, re)) :
    wpX_appendStates post (sd, sc, ec, ll, sz, en, mv, lo, re) (nI x) (nI y) fs := by
  refine ⟨z10 hx, nm_r (e' := nI (nx - 1)) ?_ ⟨z10 hy, nm_r (e' := nI ny) (by rw [z10c hy, hzy]) ⟨5, ?_⟩⟩⟩
  · rw [z10c hx, hzx]
    exact pk_sub (a := nx) (b := 1) (by omega)
  · exact xw_ap21 (mv := mv) hx hy hyx px py hN hzx h 4 0 (by omega) mv (gx_0 (fun s k _ => by omega))
/- makeLoop -/
def lo_R (mv : Nat → Int64) (x : Nat) (E : Int64) : Nat → Nat → Int64 → Prop := fun s k v =>
  ∀ t, mb_ v t ↔ mb_ (mv (pl_ x s k)) t ∨ (mb_ E s ∧ mb_ (mv (pl_ x 0 k)) t)
theorem xw_lo2 {post : SX → Prop} {x n : Nat} (hx : x < 10) (hn : n ≤ 64) (hz : sz x = nI n)
    (h : ∀ mv', gx_ mv mv' x (fun s' _ => s' < n) (lo_R mv x (en x)) → post (sd, sc, ec, ll, sz, vp_updL en x (en x ||| 1), mv', lo, re)) :
    ∀ d k, k + d = 4 → ∀ mv', gx_ mv mv' x (fun s' k' => k' < k ∧ s' < n) (lo_R mv x (en x)) → wX_makeLoop_2 post (nI x) (d + 1) (nI k) sd sc ec ll sz en mv' lo re := by
  intro d
  induction d with
  | zero =>
    intro k hk mv' g
    have : k = 4 := by omega
    subst this
    exact br_t (nI_le (a := 4) (b := 4) (by omega) (by decide)) ⟨z10 hx, z10 hx, nm_r (e' := vp_updL en x (en x ||| 1)) (by rw [z10c hx]) (h mv' (gx_c g (fun s' k' _ _ => by omega)))⟩
  | succ d ih =>
    intro k hk' mv' g
    have hk : k < 4 := by omega
    refine br_f (nI_ge (b := 4) hk (by decide)) ?_
    refine pl_wp (s := 0) hx (by omega) hk ⟨pli hx (by omega) hk, nm_r (e' := mv (pl_ x 0 k)) (by rw [plc hx (by omega) hk, (g x 0 k (by omega) hk).2 (fun q => by omega)]) ⟨z10 hx, ?_⟩⟩
    rw [z10c hx]
    refine xw_add hx hk hn hz (fun mv'' g'' => nm_r (nI_1 k) (ih (k + 1) (by omega) mv'' ?_))
    intro z s k' hs hk'
    have q1 := g z s k' hs hk'
    have q2 := g'' z s k' hs hk'
    constructor
    · rintro ⟨rfl, a1, a2⟩
      by_cases e : k' = k
      · subst e
        have q3 := q1.2 (fun b => by omega)
        by_cases hb : mb_ (en z) s
        · have q4 := q2.1 ⟨rfl, a2, rfl, hb⟩
          rw [q4, q3]
          intro t
          rw [mb_or]
          exact ⟨fun c => c.elim Or.inl (fun c => Or.inr ⟨hb, c⟩), fun c => c.elim Or.inl (fun c => Or.inr c.2)⟩
        · have q4 := q2.2 (fun b => hb b.2.2.2)
          rw [q4, q3]
          intro t
          exact ⟨Or.inl, fun c => c.elim id (fun c => absurd c.1 hb)⟩
      · rw [q2.2 (fun b => e b.2.2.1)]
        exact q1.1 ⟨rfl, by omega, a2⟩
    · intro n'
      rw [q2.2 (fun b => n' ⟨b.1, by omega, b.2.1⟩), q1.2 (fun b => n' ⟨b.1, by omega, b.2.2⟩)]
theorem xw_loop {post : SX → Prop} {x n : Nat} (hx : x < 10) (hn : n ≤ 64) (hz : sz x = nI n)
    (h : ∀ mv', gx_ mv mv' x (fun s' _ => s' < n) (lo_R mv x (en x)) → post (sd, sc, ec, ll, sz, vp_updL en x (en x ||| 1), mv', lo, re)) :
    wpX_makeLoop post (sd, sc, ec, ll, sz, en, mv, lo, re) (nI x) :=
  ⟨5, xw_lo2 (mv := mv) hx hn hz h 4 0 (by omega) mv (gx_0 (fun s k _ => by omega))⟩
end
