/-! X: pairMoves and makeBoth -/
section
variable {sd sc ec ll : Int32} {sz : Nat → Int32} {en mv : Nat → Int64} {lo : Nat → Int32} {re : Nat → Int64}
def bo_T (mv : Nat → Int64) (y nx ny a b k : Nat) : Nat → Int64 → Prop := fun i v =>
  ∀ t, t < 64 → (mb_ v t ↔ (a * ny ≤ t ∧ mb_ (mv (pl_ y b k)) (t - a * ny)) ∨ ∃ c, c < i ∧ mb_ (mv (pl_ 9 a k)) c ∧ t = c * ny + b)
def bo_R (mv : Nat → Int64) (y nx ny : Nat) : Nat → Nat → Int64 → Prop := fun s k v =>
  ∀ a b, a < nx → b < ny → s = a * ny + b → bo_T mv y nx ny a b k nx v
theorem xw_pm68 {post : SX → Prop} {J : Int32 → (Nat → Int32) → (Nat → Int64) → (Nat → Int64) → (Nat → Int32) → (Nat → Int64) → Prop} {x y nx ny a b k : Nat} {mv' : Nat → Int64} {x3 : Int32} (hx : x < 9) (ha : a < nx) (hb : b < ny) (hN : nx * ny ≤ 64) (hk : k < 4) (hnx : nx ≤ 64)
    (g : gx_ mv mv' x (fun s' k' => s' < a * ny + b ∨ (s' = a * ny + b ∧ k' < k)) (bo_R mv y nx ny))
    (h : ∀ mv'', gx_ mv mv'' x (fun s' k' => s' < a * ny + b ∨ (s' = a * ny + b ∧ k' < k + 1)) (bo_R mv y nx ny) → J (nI (k + 1)) sz en mv'' lo re) :
    ∀ d i, i + d = nx → ∀ v, bo_T mv y nx ny a b k i v → wX_pairMoves_68 post J (nI x) (nI y) x3 (nI b) (nI nx) (nI ny) (nI (a * ny)) (nI k) (mv (pl_ 9 a k)) sd sc ec ll sz en mv' lo re (d + 1) v (nI i) := by
  have hab := bo_lt ha hb
  intro d
  induction d with
  | zero =>
    intro i hi v hv
    have : i = nx := by omega
    subst this
    refine br_t (nI_le (Nat.le_refl _) (by omega)) ?_
    rw [nI_add]
    have q : a * ny + b < 64 := by omega
    refine pl_wp (by omega) q hk ⟨pli (by omega) q hk, nm_r (e' := vp_updL mv' (pl_ x (a * ny + b) k) v) (by rw [plc (by omega) q hk]) (nm_r (nI_1 k) (h _ (gx_s g q hk ?_ (fun s' k' _ => by omega))))⟩
    intro a' b' ha' hb' e
    obtain ⟨rfl, rfl⟩ := bo_inj hb hb' e
    exact hv
  | succ d ih =>
    intro i hi v hv
    have hin : i < nx := by omega
    have hib := bo_lt hin hb
    refine br_f (nI_ge (by omega) (by omega)) (mb_has (by omega) (fun hm => ?_) (fun hm => ?_))
    · refine br_f (by decide) ?_
      rw [pk_mul, nI_add]
      refine nm_e (nm_r (nI_1 i) (ih (i + 1) (by omega) _ ?_))
      intro t ht
      rw [mb_or, mb_bit (by omega), hv t ht]
      constructor
      · rintro ((q | ⟨c, q1, q2⟩) | q)
        · exact Or.inl q
        · exact Or.inr ⟨c, by omega, q2⟩
        · exact Or.inr ⟨i, by omega, hm, q⟩
      · rintro (q | ⟨c, q1, q2, q3⟩)
        · exact Or.inl (Or.inl q)
        · by_cases e : c = i
          · subst e; exact Or.inr q3
          · exact Or.inl (Or.inr ⟨c, by omega, q2, q3⟩)
    · refine br_t rfl (nm_r (nI_1 i) (ih (i + 1) (by omega) _ ?_))
      intro t ht
      rw [hv t ht]
      constructor
      · rintro (q | ⟨c, q1, q2⟩)
        · exact Or.inl q
        · exact Or.inr ⟨c, by omega, q2⟩
      · rintro (q | ⟨c, q1, q2, q3⟩)
        · exact Or.inl q
        · by_cases e : c = i
          · subst e; exact absurd q2 hm
          · exact Or.inr ⟨c, by omega, q2, q3⟩
theorem xw_pm26 {post : SX → Prop} {x y nx ny a b : Nat} (hx : x < 9) (hy : y < 9) (hyx : y ≠ x) (ha : a < nx) (hb : b < ny) (hN : nx * ny ≤ 64) (hnx : nx ≤ 64) (hny : ny ≤ 64)
    (h : ∀ mv'', gx_ mv mv'' x (fun s' _ => s' < a * ny + (b + 1)) (bo_R mv y nx ny) → post (sd, sc, ec, ll, sz, en, mv'', lo, re)) :
    ∀ d k, k + d = 4 → ∀ mv', gx_ mv mv' x (fun s' k' => s' < a * ny + b ∨ (s' = a * ny + b ∧ k' < k)) (bo_R mv y nx ny) → wX_pairMoves_26 post (nI x) (nI y) (nI a) (nI b) (nI nx) (nI ny) (nI (a * ny)) sd sc ec ll (d + 1) (nI k) sz en mv' lo re := by
  have hab := bo_lt ha hb
  intro d
  induction d with
  | zero =>
    intro k hk mv' g
    have : k = 4 := by omega
    subst this
    exact br_t (nI_le (a := 4) (b := 4) (by omega) (by decide)) (h mv' (gx_c g (fun s' k' _ _ => by omega)))
  | succ d ih =>
    intro k hk' mv' g
    have hk : k < 4 := by omega
    refine br_f (nI_ge (b := 4) hk (by decide)) ?_
    refine pl_wp (z := 9) (by omega) (by omega) hk ⟨pli (by omega) (by omega) hk, nm_r (e' := mv (pl_ 9 a k)) (by rw [plc (by omega) (by omega) hk, (g 9 a k (by omega) hk).2 (fun q => by omega)]) ?_⟩
    refine pl_wp (by omega) (by omega) hk ⟨pli (by omega) (by omega) hk, nm_r (e' := mv (pl_ y b k) <<< ((nI (a * ny)).toInt64 &&& 63)) (by rw [plc (by omega) (by omega) hk, (g y b k (by omega) hk).2 (fun q => hyx q.1)]) ⟨nx + 1, ?_⟩⟩
    refine xw_pm68 (mv := mv) hx ha hb hN hk hnx g (fun mv'' g'' => ih (k + 1) (by omega) mv'' g'') nx 0 (by omega) _ ?_
    intro t ht
    rw [mb_shl (by omega) _ ht]
    constructor
    · intro q; exact Or.inl q
    · rintro (q | ⟨c, q1, _⟩)
      · exact q
      · omega
theorem xw_pair {post : SX → Prop} {x y nx ny a b : Nat} {mv' : Nat → Int64} (hx : x < 9) (hy : y < 9) (hyx : y ≠ x) (ha : a < nx) (hb : b < ny) (hN : nx * ny ≤ 64) (hnx : nx ≤ 64) (hny : ny ≤ 64) (h9 : sz 9 = nI nx) (hzy : sz y = nI ny)
    (g : gx_ mv mv' x (fun s' _ => s' < a * ny + b) (bo_R mv y nx ny))
    (h : ∀ mv'', gx_ mv mv'' x (fun s' _ => s' < a * ny + (b + 1)) (bo_R mv y nx ny) → post (sd, sc, ec, ll, sz, en, mv'', lo, re)) :
    wpX_pairMoves post (sd, sc, ec, ll, sz, en, mv', lo, re) (nI x) (nI y) (nI a) (nI b) := by
  refine nm_r h9 ⟨z10 (by omega), nm_r (e' := nI ny) (by rw [z10c (by omega), hzy]) (nm_r (pk_mul a ny) ⟨5, ?_⟩)⟩
  exact xw_pm26 (mv := mv) hx hy hyx ha hb hN hnx hny h 4 0 (by omega) mv' (gx_c g (fun s' k' _ _ => by omega))
/-- the ends after a rows -/
def bo_E (en : Nat → Int64) (x y ny a : Nat) (en' : Nat → Int64) : Prop :=
  (∀ z, z ≠ x → en' z = en z) ∧ ∀ t, t < 64 → (mb_ (en' x) t ↔ ∃ c, c < a ∧ mb_ (en 9) c ∧ c * ny ≤ t ∧ mb_ (en y) (t - c * ny))
theorem xw_mb42 {post : SX → Prop} {J : Int32 → Int32 → Int32 → Int32 → Int32 → (Nat → Int32) → (Nat → Int64) → (Nat → Int64) → (Nat → Int32) → (Nat → Int64) → Prop} {x y nx ny a : Nat} {en' : Nat → Int64} (hx : x < 9) (hy : y < 9) (hyx : y ≠ x) (ha : a < nx) (py : 0 < ny) (hN : nx * ny ≤ 64) (hnx : nx ≤ 64) (hny : ny ≤ 64) (h9 : sz 9 = nI nx) (hzy : sz y = nI ny) (hE : bo_E en x y ny a en')
    (h : ∀ mv'' en'', gx_ mv mv'' x (fun s' _ => s' < (a + 1) * ny) (bo_R mv y nx ny) → bo_E en x y ny (a + 1) en'' → J (nI (a + 1)) sd sc ec ll sz en'' mv'' lo re) :
    ∀ d b, b + d = ny → ∀ mv', gx_ mv mv' x (fun s' _ => s' < a * ny + b) (bo_R mv y nx ny) → wX_makeBoth_42 post J (nI x) (nI y) (nI nx) (nI ny) (nI a) (d + 1) (nI b) sd sc ec ll sz en' mv' lo re := by
  have hab := bo_lt ha py
  have e1 : (a + 1) * ny = a * ny + ny := by rw [Nat.add_mul, Nat.one_mul]
  intro d
  induction d with
  | zero =>
    intro b hb mv' g
    have : b = ny := by omega
    subst this
    have g' : gx_ mv mv' x (fun s' _ => s' < (a + 1) * b) (bo_R mv y nx b) := gx_c g (fun s' k' _ _ => by rw [e1])
    refine br_t (nI_le (Nat.le_refl _) (by omega)) ?_
    rw [hE.1 9 (by omega)]
    refine mb_has (by omega) (fun hm => ?_) (fun hm => ?_)
    · refine br_f (by decide) ⟨z10 (by omega), z10 (by omega), z10 (by omega), ?_⟩
      rw [pk_mul, z10c (by omega), z10c (by omega), hE.1 y hyx]
      refine nm_e (nm_r (nI_1 a) (h _ _ g' ⟨fun z hz => ?_, fun t ht => ?_⟩))
      · rw [pk_uLn hz]; exact hE.1 z hz
      · rw [pk_uLs, mb_or, hE.2 t ht, mb_shl (by omega) _ ht]
        constructor
        · rintro (⟨c, q1, q2⟩ | q)
          · exact ⟨c, by omega, q2⟩
          · exact ⟨a, by omega, hm, q⟩
        · rintro ⟨c, q1, q2, q3⟩
          by_cases e : c = a
          · subst e; exact Or.inr q3
          · exact Or.inl ⟨c, by omega, q2, q3⟩
    · refine br_t rfl (nm_r (nI_1 a) (h _ _ g' ⟨hE.1, fun t ht => ?_⟩))
      rw [hE.2 t ht]
      constructor
      · rintro ⟨c, q1, q2⟩
        exact ⟨c, by omega, q2⟩
      · rintro ⟨c, q1, q2, q3⟩
        by_cases e : c = a
        · subst e; exact absurd q2 hm
        · exact ⟨c, by omega, q2, q3⟩
  | succ d ih =>
    intro b hb mv' g
    refine br_f (nI_ge (by omega) (by omega)) ?_
    refine xw_pair (mv := mv) hx hy hyx ha (by omega) hN hnx hny h9 hzy g (fun mv'' g'' => nm_r (nI_1 b) (ih (b + 1) (by omega) mv'' g''))
theorem xw_mb33 {post : SX → Prop} {x y nx ny : Nat} (hx : x < 9) (hy : y < 9) (hyx : y ≠ x) (px : 0 < nx) (py : 0 < ny) (hN : nx * ny ≤ 64) (hnx : nx ≤ 64) (hny : ny ≤ 64) (h9 : sz 9 = nI nx) (hzy : sz y = nI ny)
    (h : ∀ mv'' en'', gx_ mv mv'' x (fun s' _ => s' < nx * ny) (bo_R mv y nx ny) → bo_E en x y ny nx en'' → post (sd, sc, ec, ll, upd sz x (nI (nx * ny)), en'', mv'', lo, re)) :
    ∀ d a, a + d = nx → ∀ mv' en', gx_ mv mv' x (fun s' _ => s' < a * ny) (bo_R mv y nx ny) → bo_E en x y ny a en' → wX_makeBoth_33 post (nI x) (nI y) (nI nx) (nI ny) (d + 1) (nI a) sd sc ec ll sz en' mv' lo re := by
  intro d
  induction d with
  | zero =>
    intro a ha mv' en' g gE
    have : a = nx := by omega
    subst this
    exact br_t (nI_le (Nat.le_refl _) (by omega)) ⟨z10 (by omega), nm_r (e' := upd sz x (nI (a * ny))) (by rw [z10c (by omega), pk_mul]) (h _ _ g gE)⟩
  | succ d ih =>
    intro a ha mv' en' g gE
    refine br_f (nI_ge (by omega) (by omega)) ⟨ny + 1, ?_⟩
    exact xw_mb42 (mv := mv) (en := en) hx hy hyx (by omega) py hN hnx hny h9 hzy gE (fun mv'' en'' g'' gE'' => ih (a + 1) (by omega) mv'' en'' g'' gE'') ny 0 (by omega) mv' (gx_c g (fun s' k' _ _ => by omega))
theorem xw_both {post : SX → Prop} {x y nx ny : Nat} (hx : x < 9) (hy : y < 9) (hyx : y ≠ x) (px : 0 < nx) (py : 0 < ny) (hN : nx * ny ≤ 64) (hnx : nx ≤ 64) (hny : ny ≤ 64) (hzx : sz x = nI nx) (hzy : sz y = nI ny)
    (h : ∀ mv1 mv'' en'', gx_ mv mv1 9 (fun s' _ => s' < nx) (fun s' k' v => v = mv (pl_ x s' k')) → gx_ mv1 mv'' x (fun s' _ => s' < nx * ny) (bo_R mv1 y nx ny) → bo_E (vp_updL en 9 (en x)) x y ny nx en'' → post (sd, sc, ec, ll, upd (upd sz 9 (nI nx)) x (nI (nx * ny)), en'', mv'', lo, re)) :
    wpX_makeBoth post (sd, sc, ec, ll, sz, en, mv, lo, re) (nI x) (nI y) := by
  refine xw_copy (x := 9) (y := x) (n := nx) (by omega) (by omega) (by omega) hnx hzx (fun mv1 g1 => ?_)
  refine nm_r (e' := nI nx) (pk_us) ⟨z10 (by omega), nm_r (e' := nI ny) (by rw [z10c (by omega), pk_un (by omega), hzy]) ⟨z10 (by omega), nm_r (e' := vp_updL (vp_updL en 9 (en x)) x 0) (by rw [z10c (by omega)]) ⟨nx + 1, ?_⟩⟩⟩
  refine xw_mb33 (mv := mv1) (en := vp_updL en 9 (en x)) hx hy hyx px py hN hnx hny pk_us (by rw [pk_un (by omega), hzy]) (fun mv'' en'' g gE => h mv1 mv'' en'' g1 g gE) nx 0 (by omega) mv1 _ (gx_0 (fun s k _ => by omega)) ⟨fun z hz => pk_uLn hz, fun t ht => ?_⟩
  rw [pk_uLs]
  exact ⟨fun q => absurd q (mb_0 t), fun ⟨c, q, _⟩ => by omega⟩
end
