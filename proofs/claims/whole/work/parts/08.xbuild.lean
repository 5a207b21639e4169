/-! X's builders: what machine x holds afterwards -/
section
variable {sd sc ec ll : Int32} {sz : Nat → Int32} {en mv : Nat → Int64} {lo : Nat → Int32} {re : Nat → Int64}
theorem xb_skip {post : SX → Prop} {x : Nat} (hx : x < 10)
    (h : ∀ sz' en' mv', fr_ x sz en mv sz' en' mv' → ma_ sz' en' mv' x 0 la_skip → post (sd, sc, ec, ll, sz', en', mv', lo, re)) :
    wpX_makeSkip post (sd, sc, ec, ll, sz, en, mv, lo, re) (nI x) := by
  refine ⟨z10 hx, nm_r (e' := upd sz x (nI 1)) (by rw [z10c hx]; rfl) ⟨z10 hx, nm_r (e' := vp_updL en x 1) (by rw [z10c hx]) ?_⟩⟩
  refine xw_clear (n := 1) hx (by omega) pk_us (fun mv' g => h _ _ _ ?_ ?_)
  · intro z hz _
    exact ⟨pk_un hz, pk_uLn hz, fun s k hs hk => (g z s k hs hk).2 (fun q => hz q.1)⟩
  · refine ⟨1, pk_us, Nat.le_refl _, au_skip ?_ ?_⟩
    · rintro s k t ⟨a, b, c⟩
      rw [(g x s k (by omega) b).1 ⟨rfl, a⟩] at c
      exact mb_0 t c
    · intro t; rw [pk_uLs]; exact mb_1 t
theorem xb_event {post : SX → Prop} {x k : Nat} (hx : x < 10) (hk : k < 4)
    (h : ∀ sz' en' mv', fr_ x sz en mv sz' en' mv' → ma_ sz' en' mv' x 1 (la_ev k) → post (sd, sc, ec, ll, sz', en', mv', lo, re)) :
    wpX_makeEvent post (sd, sc, ec, ll, sz, en, mv, lo, re) (nI x) (nI k) := by
  refine ⟨z10 hx, nm_r (e' := upd sz x (nI 2)) (by rw [z10c hx]; rfl) ⟨z10 hx, nm_r (e' := vp_updL en x 2) (by rw [z10c hx]) ?_⟩⟩
  refine xw_clear (n := 2) hx (by omega) pk_us (fun mv' g => ?_)
  have h0 : (0 : Nat) < 64 := by omega
  refine pl_wp (s := 0) hx h0 hk ⟨pli hx h0 hk, nm_r (e' := vp_updL mv' (pl_ x 0 k) 2) (by rw [plc hx h0 hk]) (h _ _ _ ?_ ?_)⟩
  · intro z hz _
    refine ⟨pk_un hz, pk_uLn hz, fun s j hs hj => ?_⟩
    rw [pk_uLn (fun q => hz (pl_inj hs hj h0 hk q).1)]
    exact (g z s j hs hj).2 (fun q => hz q.1)
  · refine ⟨2, pk_us, Nat.le_refl _, au_ev hk ?_ ?_⟩
    · intro s j t
      constructor
      · rintro ⟨a, b, c⟩
        by_cases e : s = 0 ∧ j = k
        · obtain ⟨rfl, rfl⟩ := e
          rw [pk_uLs, mb_2] at c
          exact ⟨rfl, rfl, c⟩
        · rw [pk_uLn (fun q => e (pl_inj (by omega) b h0 hk q).2), (g x s j (by omega) b).1 ⟨rfl, a⟩] at c
          exact absurd c (mb_0 t)
      · rintro ⟨rfl, rfl, rfl⟩
        refine ⟨by omega, hk, ?_⟩
        rw [pk_uLs, mb_2]
    · intro t; rw [pk_uLs]; exact mb_2 t
theorem pw_sum {a b e1 e2 : Nat} (ha : a ≤ 2 ^ e1) (hb : b ≤ 2 ^ e2) (pa : 0 < a) (pb : 0 < b) : a + b - 1 ≤ 2 ^ (e1 + e2) := by
  rw [Nat.pow_add]
  generalize 2 ^ e1 = X at *
  generalize 2 ^ e2 = Y at *
  obtain ⟨X', rfl⟩ : ∃ X', X = X' + 1 := ⟨X - 1, by omega⟩
  obtain ⟨Y', rfl⟩ : ∃ Y', Y = Y' + 1 := ⟨Y - 1, by omega⟩
  rw [Nat.add_mul, Nat.mul_add]
  generalize X' * Y' = Z
  omega
theorem ma_app {mv' : Nat → Int64} {x y nx ny : Nat} {fs : Int64} {Z : Nat → Prop} (px : 0 < nx) (py : 0 < ny) (hN : nx + ny - 1 ≤ 64) (i1 : au_in nx (ma_D mv x nx)) (i2 : au_in ny (ma_D mv y ny)) (hZ : ∀ s, mb_ fs s ↔ Z s) (hZn : ∀ s, Z s → s < nx)
    (g : gx_ mv mv' x (fun s' _ => s' < nx + ny - 1) (ap_R mv x y nx fs)) :
    ∀ s k t, ma_D mv' x (nx + ny - 1) s k t ↔ au_ap (ma_D mv x nx) (ma_D mv y ny) Z (nx - 1) s k t := by
  intro s k t
  constructor
  · rintro ⟨a, b, c⟩
    have R := (g x s k (by omega) b).1 ⟨rfl, a⟩ t (mb_big c)
    rcases R.mp c with ⟨q1, q2 | ⟨q2, q3, q4⟩⟩ | ⟨q1, q2, q3⟩
    · exact Or.inl ⟨q1, b, q2⟩
    · exact Or.inr (Or.inl ⟨(hZ s).mp q2, t - (nx - 1), ⟨py, b, q4⟩, by omega⟩)
    · exact Or.inr (Or.inr ⟨s - (nx - 1), t - (nx - 1), by omega, by omega, ⟨by omega, b, q3⟩, by omega⟩)
  · rintro (q | ⟨q1, t', q2, rfl⟩ | ⟨s', t', q1, rfl, q2, rfl⟩)
    · obtain ⟨a, b, c⟩ := q
      refine ⟨by omega, b, ?_⟩
      exact ((g x s k (by omega) b).1 ⟨rfl, by omega⟩ t (mb_big c)).mpr (Or.inl ⟨a, Or.inl c⟩)
    · have lt := i2 _ _ _ q2
      have hs := hZn s q1
      refine ⟨by omega, q2.2.1, ?_⟩
      refine ((g x s k (by omega) q2.2.1).1 ⟨rfl, by omega⟩ _ (by omega)).mpr (Or.inl ⟨hs, Or.inr ⟨(hZ s).mpr q1, by omega, ?_⟩⟩)
      rw [show nx - 1 + t' - (nx - 1) = t' by omega]
      exact q2.2.2
    · have lt := i2 _ _ _ q2
      refine ⟨by omega, q2.2.1, ?_⟩
      refine ((g x _ k (by omega) q2.2.1).1 ⟨rfl, by omega⟩ _ (by omega)).mpr (Or.inr ⟨by omega, by omega, ?_⟩)
      rw [show nx - 1 + t' - (nx - 1) = t' by omega, show nx - 1 + s' - (nx - 1) = s' by omega]
      exact q2.2.2
theorem mb_up {E : Int64} {m : Nat} (hm : m < 64) (t : Nat) (hE : ∀ t, mb_ E t → m + t < 64) : mb_ ((E &&& (-2)) <<< ((nI m).toInt64 &&& 63)) t ↔ ∃ t', 0 < t' ∧ t = m + t' ∧ mb_ E t' := by
  constructor
  · intro h
    have lt := mb_big h
    rw [mb_shl hm _ lt, mb_and, mb_m2 _ (by omega)] at h
    exact ⟨t - m, by omega, by omega, h.2.1⟩
  · rintro ⟨t', a, rfl, c⟩
    have lt := hE t' c
    rw [mb_shl hm _ lt, mb_and, show m + t' - m = t' by omega, mb_m2 _ (by omega)]
    exact ⟨by omega, c, a⟩
theorem xb_seq {post : SX → Prop} {x y e1 e2 : Nat} {A A' : pl_L} (hx : x < 9) (hy : y < 9) (hyx : y ≠ x) (he : e1 + e2 ≤ 6) (m1 : ma_ sz en mv x e1 A) (m2 : ma_ sz en mv y e2 A')
    (h : ∀ sz' en' mv', fr_ x sz en mv sz' en' mv' → ma_ sz' en' mv' x (e1 + e2) (la_seq A A') → post (sd, sc, ec, ll, sz', en', mv', lo, re)) :
    wpX_makeSeq post (sd, sc, ec, ll, sz, en, mv, lo, re) (nI x) (nI y) := by
  obtain ⟨nx, z1, b1, o1⟩ := m1
  obtain ⟨ny, z2, b2, o2⟩ := m2
  have px := o1.1
  have py := o2.1
  have hN := pw_sum b1 b2 px py
  have hN6 : nx + ny - 1 ≤ 64 := Nat.le_trans hN (p6 he)
  have es : sz (nI x).toNatClampNeg - 1 = nI (nx - 1) := by
    rw [z10c (by omega), z1]
    exact pk_sub (a := nx) (b := 1) (by omega)
  refine ⟨z10 (by omega), nm_r es ⟨z10 (by omega), nm_r (e' := en x) (by rw [z10c (by omega)]) ?_⟩⟩
  refine xw_append (by omega) (by omega) hyx px py hN6 z1 z2 (fun mv' g => ?_)
  refine ⟨z10 (by omega), z10 (by omega), nm_r (e' := vp_updL en x ((en y &&& (-2)) <<< ((nI (nx - 1)).toInt64 &&& 63))) (by rw [z10c (by omega), z10c (by omega)]) ⟨z10 (by omega), ?_⟩⟩
  rw [z10c (by omega : y < 10), pk_uLn hyx]
  have fr : ∀ E, fr_ x sz en mv (upd sz x (nI (nx + ny - 1))) (vp_updL en x E) mv' := by
    intro E z hz _
    exact ⟨pk_un hz, pk_uLn hz, fun s k hs hk => (g z s k hs hk).2 (fun q => hz q.1)⟩
  have D := ma_app (Z := fun s => mb_ (en x) s) px py hN6 o1.2.1 o2.2.1 (fun s => Iff.rfl) o1.2.2.1 g
  have up := fun t => mb_up (E := en y) (m := nx - 1) (by omega) t (fun t' ht => by have := o2.2.2.1 t' ht; omega)
  refine mb_has (k := 0) (by omega) (fun hb => ?_) (fun hb => ?_)
  · refine br_f (by decide) ⟨z10 (by omega), z10 (by omega), nm_r (e' := vp_updL en x (((en y &&& (-2)) <<< ((nI (nx - 1)).toInt64 &&& 63)) ||| en x)) ?_ (h _ _ _ (fr _) ⟨_, pk_us, hN, au_congr D (fun t => Iff.rfl) (au_seq o1 o2 ?_)⟩)⟩
    · rw [z10c (by omega), pk_uLs]
      funext z
      by_cases e : z = x
      · subst e; rw [pk_uLs, pk_uLs]
      · rw [pk_uLn e, pk_uLn e, pk_uLn e]
    · intro t
      show mb_ (vp_updL en x _ x) t ↔ _
      rw [pk_uLs, mb_or, up t]
      exact ⟨fun c => c.elim Or.inl (fun c => Or.inr ⟨hb, c⟩), fun c => c.elim Or.inl (fun c => Or.inr c.2)⟩
  · refine br_t rfl (h _ _ _ (fr _) ⟨_, pk_us, hN, au_congr D (fun t => Iff.rfl) (au_seq o1 o2 ?_)⟩)
    intro t
    show mb_ (vp_updL en x _ x) t ↔ _
    rw [pk_uLs, up t]
    exact ⟨Or.inl, fun c => c.elim id (fun c => absurd c.1 hb)⟩
theorem xb_cho {post : SX → Prop} {x y e1 e2 : Nat} {A A' : pl_L} (hx : x < 9) (hy : y < 9) (hyx : y ≠ x) (he : e1 + e2 ≤ 6) (m1 : ma_ sz en mv x e1 A) (m2 : ma_ sz en mv y e2 A')
    (h : ∀ sz' en' mv', fr_ x sz en mv sz' en' mv' → ma_ sz' en' mv' x (e1 + e2) (la_cho A A') → post (sd, sc, ec, ll, sz', en', mv', lo, re)) :
    wpX_makeChoice post (sd, sc, ec, ll, sz, en, mv, lo, re) (nI x) (nI y) := by
  obtain ⟨nx, z1, b1, o1⟩ := m1
  obtain ⟨ny, z2, b2, o2⟩ := m2
  have px := o1.1
  have py := o2.1
  have hN := pw_sum b1 b2 px py
  have hN6 : nx + ny - 1 ≤ 64 := Nat.le_trans hN (p6 he)
  have es : sz (nI x).toNatClampNeg - 1 = nI (nx - 1) := by
    rw [z10c (by omega), z1]
    exact pk_sub (a := nx) (b := 1) (by omega)
  refine ⟨z10 (by omega), nm_r es ?_⟩
  refine xw_append (by omega) (by omega) hyx px py hN6 z1 z2 (fun mv' g => ?_)
  have fr : ∀ E, fr_ x sz en mv (upd sz x (nI (nx + ny - 1))) (vp_updL en x E) mv' := by
    intro E z hz _
    exact ⟨pk_un hz, pk_uLn hz, fun s k hs hk => (g z s k hs hk).2 (fun q => hz q.1)⟩
  have D := ma_app (Z := fun s => s = 0) px py hN6 o1.2.1 o2.2.1 mb_1 (fun s q => by omega) g
  have up := fun t => mb_up (E := en y) (m := nx - 1) (by omega) t (fun t' ht => by have := o2.2.2.1 t' ht; omega)
  refine ⟨z10 (by omega), z10 (by omega), z10 (by omega), nm_r (e' := vp_updL en x (en x ||| ((en y &&& (-2)) <<< ((nI (nx - 1)).toInt64 &&& 63)))) (by rw [z10c (by omega), z10c (by omega)]) ⟨z10 (by omega), z10 (by omega), z10 (by omega), ?_⟩⟩
  refine nm_r (e' := vp_updL en x ((en x ||| ((en y &&& (-2)) <<< ((nI (nx - 1)).toInt64 &&& 63))) ||| (en y &&& 1))) ?_ (h _ _ _ (fr _) ⟨_, pk_us, hN, au_congr D (fun t => Iff.rfl) (au_cho o1 o2 ?_)⟩)
  · rw [z10c (by omega), z10c (by omega), pk_uLs, pk_uLn hyx]
    funext z
    by_cases e : z = x
    · subst e; rw [pk_uLs, pk_uLs]
    · rw [pk_uLn e, pk_uLn e, pk_uLn e]
  · intro t
    show mb_ (vp_updL en x _ x) t ↔ _
    rw [pk_uLs, mb_or, mb_or, up t, mb_and, mb_1]
    constructor
    · rintro ((q | q) | ⟨q, rfl⟩)
      · exact Or.inl q
      · exact Or.inr (Or.inl q)
      · exact Or.inr (Or.inr ⟨rfl, q⟩)
    · rintro (q | q | ⟨rfl, q⟩)
      · exact Or.inl (Or.inl q)
      · exact Or.inl (Or.inr q)
      · exact Or.inr ⟨q, rfl⟩
theorem xb_loop {post : SX → Prop} {x e1 : Nat} {A : pl_L} (hx : x < 9) (he : e1 ≤ 6) (m1 : ma_ sz en mv x e1 A)
    (h : ∀ sz' en' mv', fr_ x sz en mv sz' en' mv' → ma_ sz' en' mv' x e1 (la_loop A) → post (sd, sc, ec, ll, sz', en', mv', lo, re)) :
    wpX_makeLoop post (sd, sc, ec, ll, sz, en, mv, lo, re) (nI x) := by
  obtain ⟨n, z1, b1, o1⟩ := m1
  have n64 : n ≤ 64 := Nat.le_trans b1 (p6 he)
  have px := o1.1
  refine xw_loop (by omega) n64 z1 (fun mv' g => h _ _ _ ?_ ⟨n, z1, b1, au_congr ?_ (fun t => Iff.rfl) (au_loop o1 ?_)⟩)
  · intro z hz _
    exact ⟨rfl, pk_uLn hz, fun s k hs hk => (g z s k hs hk).2 (fun q => hz q.1)⟩
  · intro s k t
    constructor
    · rintro ⟨a, b, c⟩
      rcases ((g x s k (by omega) b).1 ⟨rfl, a⟩ t).mp c with q | ⟨q1, q2⟩
      · exact Or.inl ⟨a, b, q⟩
      · exact Or.inr ⟨q1, px, b, q2⟩
    · rintro (⟨a, b, c⟩ | ⟨q1, a, b, c⟩)
      · exact ⟨a, b, ((g x s k (by omega) b).1 ⟨rfl, a⟩ t).mpr (Or.inl c)⟩
      · have hs := o1.2.2.1 s q1
        exact ⟨hs, b, ((g x s k (by omega) b).1 ⟨rfl, hs⟩ t).mpr (Or.inr ⟨q1, c⟩)⟩
  · intro t
    show mb_ (vp_updL en x _ x) t ↔ _
    rw [pk_uLs, mb_or, mb_1]
theorem xb_opt {x e1 : Nat} {A : pl_L} (m1 : ma_ sz en mv x e1 A) : fr_ x sz en mv sz (vp_updL en x (en x ||| 1)) mv ∧ ma_ sz (vp_updL en x (en x ||| 1)) mv x e1 (la_opt A) := by
  obtain ⟨n, z1, b1, o1⟩ := m1
  refine ⟨fun z hz _ => ⟨rfl, pk_uLn hz, fun s k _ _ => rfl⟩, n, z1, b1, au_opt o1 ?_⟩
  intro t
  show mb_ (vp_updL en x _ x) t ↔ _
  rw [pk_uLs, mb_or, mb_1]
theorem xb_both {post : SX → Prop} {x y e1 e2 : Nat} {A A' : pl_L} (hx : x < 9) (hy : y < 9) (hyx : y ≠ x) (he : e1 + e2 ≤ 6) (m1 : ma_ sz en mv x e1 A) (m2 : ma_ sz en mv y e2 A')
    (h : ∀ sz' en' mv', fr_ x sz en mv sz' en' mv' → ma_ sz' en' mv' x (e1 + e2) (la_both A A') → post (sd, sc, ec, ll, sz', en', mv', lo, re)) :
    wpX_makeBoth post (sd, sc, ec, ll, sz, en, mv, lo, re) (nI x) (nI y) := by
  obtain ⟨nx, z1, b1, o1⟩ := m1
  obtain ⟨ny, z2, b2, o2⟩ := m2
  have px := o1.1
  have py := o2.1
  have hN : nx * ny ≤ 2 ^ (e1 + e2) := by rw [Nat.pow_add]; exact Nat.mul_le_mul b1 b2
  have hN6 : nx * ny ≤ 64 := Nat.le_trans hN (p6 he)
  have nx6 : nx ≤ 64 := Nat.le_trans b1 (p6 (by omega))
  have ny6 : ny ≤ 64 := Nat.le_trans b2 (p6 (by omega))
  refine xw_both hx hy hyx px py hN6 nx6 ny6 z1 z2 (fun mv1 mv' en' g1 g gE => h _ _ _ ?_ ⟨_, pk_us, hN, au_congr ?_ (fun t => Iff.rfl) (au_both o1 o2 ?_)⟩)
  · intro z hz h9
    refine ⟨by rw [pk_un hz, pk_un h9], by rw [gE.1 z hz, pk_uLn h9], fun s k hs hk => ?_⟩
    rw [(g z s k hs hk).2 (fun q => hz q.1), (g1 z s k hs hk).2 (fun q => h9 q.1)]
  · have ey : ∀ s k, s < 64 → k < 4 → mv1 (pl_ y s k) = mv (pl_ y s k) := fun s k hs hk => (g1 y s k hs hk).2 (fun q => by omega)
    have e9 : ∀ s k, s < nx → k < 4 → mv1 (pl_ 9 s k) = mv (pl_ x s k) := fun s k hs hk => (g1 9 s k (by omega) hk).1 ⟨rfl, hs⟩
    intro s k t
    constructor
    · rintro ⟨a, b, c⟩
      have es : s = s / ny * ny + s % ny := by rw [Nat.mul_comm]; exact (Nat.div_add_mod s ny).symm
      have ha : s / ny < nx := (Nat.div_lt_iff_lt_mul py).mpr a
      have hb := Nat.mod_lt s py
      refine ⟨s / ny, s % ny, ha, hb, es, ?_⟩
      rcases ((g x s k (by omega) b).1 ⟨rfl, a⟩ _ _ ha hb es t (mb_big c)).mp c with ⟨q1, q2⟩ | ⟨d, q1, q2, q3⟩
      · rw [ey _ _ (by omega) b] at q2
        exact Or.inl ⟨t - s / ny * ny, ⟨hb, b, q2⟩, by omega⟩
      · rw [e9 _ _ ha b] at q2
        exact Or.inr ⟨d, ⟨ha, b, q2⟩, q3⟩
    · rintro ⟨a, b, ha, hb, rfl, q⟩
      have lab := bo_lt ha hb
      rcases q with ⟨b', q, rfl⟩ | ⟨a', q, rfl⟩
      · have hb' := (o2.2.1 _ _ _ q).2.2.2
        have lab' := bo_lt ha hb'
        refine ⟨lab, q.2.1, ((g x _ k (by omega) q.2.1).1 ⟨rfl, lab⟩ a b ha hb rfl _ (by omega)).mpr (Or.inl ⟨by omega, ?_⟩)⟩
        rw [ey _ _ (by omega) q.2.1, show a * ny + b' - a * ny = b' by omega]
        exact q.2.2
      · have ha' := (o1.2.1 _ _ _ q).2.2.2
        have lab' := bo_lt ha' hb
        refine ⟨lab, q.2.1, ((g x _ k (by omega) q.2.1).1 ⟨rfl, lab⟩ a b ha hb rfl _ (by omega)).mpr (Or.inr ⟨a', ha', ?_, rfl⟩)⟩
        rw [e9 _ _ ha q.2.1]
        exact q.2.2
  · intro t
    constructor
    · intro q
      obtain ⟨c, q1, q2, q3, q4⟩ := (gE.2 t (mb_big q)).mp q
      rw [pk_uLs] at q2
      rw [pk_uLn (by omega)] at q4
      exact ⟨c, t - c * ny, q2, q4, by omega⟩
    · rintro ⟨a, b, q1, q2, rfl⟩
      have la := o1.2.2.1 _ q1
      have lb := o2.2.2.1 _ q2
      have lab := bo_lt la lb
      refine (gE.2 _ (by omega)).mpr ⟨a, la, ?_, by omega, ?_⟩
      · rw [pk_uLs]; exact q1
      · rw [pk_uLn (by omega), show a * ny + b - a * ny = b by omega]; exact q2
end
