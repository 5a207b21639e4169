/-! next, advice, needed -/
noncomputable def bv_ (Q : Nat → Prop) : Nat → Nat
  | 0 => 0
  | k + 1 => bv_ Q k + @ite Nat (Q k) (Classical.propDecidable _) (2 ^ k) 0
theorem bv_t {Q : Nat → Prop} {k : Nat} (h : Q k) : bv_ Q (k + 1) = bv_ Q k + 2 ^ k := by
  show _ + @ite Nat (Q k) (Classical.propDecidable _) (2 ^ k) 0 = _
  rw [if_pos h]
theorem bv_f {Q : Nat → Prop} {k : Nat} (h : ¬ Q k) : bv_ Q (k + 1) = bv_ Q k := by
  show _ + @ite Nat (Q k) (Classical.propDecidable _) (2 ^ k) 0 = _
  rw [if_neg h, Nat.add_zero]
theorem bv_lt {Q : Nat → Prop} : ∀ k, bv_ Q k < 2 ^ k := by
  intro k
  induction k with
  | zero => exact Nat.lt_succ_self 0
  | succ k ih =>
    have p := Nat.two_pow_pos k
    rw [Nat.pow_succ]
    by_cases h : Q k
    · rw [bv_t h]; omega
    · rw [bv_f h]; omega
theorem n_or : ∀ k, k < 4 → ∀ v, v < 8 → v < 2 ^ k → nI v ||| nI (2 ^ k) = nI (v + 2 ^ k) := by decide +kernel
theorem pw_8 {k : Nat} (h : k < 4) : 2 ^ k ≤ 8 := by
  have := Nat.pow_le_pow_right (n := 2) (by decide) (show k ≤ 3 by omega)
  exact this
theorem bv_or {Q : Nat → Prop} {k : Nat} (hk : k < 4) (h : Q k) : nI (bv_ Q k) ||| ((1 : Int32) <<< (nI k &&& 31)) = nI (bv_ Q (k + 1)) := by
  have l := bv_lt (Q := Q) k
  have l2 : 2 ^ k ≤ 8 := pw_8 hk
  rw [y_one (by omega), n_or k hk _ (by omega) l, bv_t h]
theorem bv_add {Q : Nat → Prop} {k : Nat} (hk : k < 4) (h : Q k) : nI (bv_ Q k) + ((1 : Int32) <<< (nI k &&& 31)) = nI (bv_ Q (k + 1)) := by
  rw [y_one (by omega), nI_add, bv_t h]
def lc_ (L : pl_L) (B : Nat) (w : List Nat) (c : Nat) : Prop := ct_can L B w c ∧ ∀ m, m < c → ¬ ct_can L B w m
theorem lc_u {L : pl_L} {B : Nat} {w : List Nat} {c c' : Nat} (h : lc_ L B w c) (g : lc_ L B w c') : c = c' := by
  rcases Nat.lt_trichotomy c c' with q | q | q
  · exact absurd h.1 (g.2 c q)
  · exact q
  · exact absurd g.1 (h.2 c' q)
theorem C_lc1 {e : Nat} {L : pl_L} {B : Nat} {w : List Nat} {c : Nat} (h : ct_C e L B w c) (g : c < 100) : lc_ L B w c :=
  ⟨(C_at h g).2, fun m hm q => by have := (C_lo h q).1; omega⟩
theorem C_lc2 {e : Nat} {L : pl_L} {B : Nat} {w : List Nat} {c c' : Nat} (he : e < 64) (h : ct_C e L B w c) (g : lc_ L B w c') : c = c' := by
  have l := C_lo h g.1
  exact lc_u (C_lc1 h (by omega)) g
section
variable {sd sc ec : Int32} {sz : Nat → Int32} {en mv : Nat → Int64} {lo : Nat → Int32} {re : Nat → Int64}
theorem xn_next {post : Int32 → Prop} {n N : Nat} {lg : Nat → Nat} (hn : n ≤ 7) (N6 : N ≤ 64) (z : sz 8 = nI N) (Rn : ∀ t, mb_ (re n) t ↔ au_run (ma_D mv 8 N) 0 (wd_ lg n) t)
    (h : post (nI (bv_ (fun k => ∃ t, au_run (ma_D mv 8 N) 0 (wd_ lg n ++ [k]) t) 4))) :
    ∀ d k, k + d = 4 → wX_next_4 post sd sc ec (nI n) sz en mv lo re (d + 1) (nI (bv_ (fun k => ∃ t, au_run (ma_D mv 8 N) 0 (wd_ lg n ++ [k]) t) k)) (nI k) := by
  intro d
  induction d with
  | zero =>
    intro k hk
    have : k = 4 := by omega
    subst this
    exact br_t (nI_le (a := 4) (b := 4) (by omega) (by decide)) h
  | succ d ih =>
    intro k hk'
    have hk : k < 4 := by omega
    have IH := ih (k + 1) (by omega)
    refine br_f (nI_ge (b := 4) hk (by decide)) ⟨vp_in_nI (by omega) (by decide), ?_⟩
    rw [nI_clamp (by omega)]
    refine xq_sa hk N6 z (fun r g => ?_)
    have gr : ∀ t, mb_ r t ↔ au_run (ma_D mv 8 N) 0 (wd_ lg n ++ [k]) t := by
      intro t
      rw [g t, au_app]
      constructor
      · rintro ⟨s, q1, q2⟩; exact ⟨s, (Rn s).mp q1, t, q2, rfl⟩
      · rintro ⟨s, q1, t', q2, rfl⟩; exact ⟨s, (Rn s).mpr q1, q2⟩
    refine br_c (fun r0 => ?_) (fun r0 => ?_)
    · rw [bv_f (fun ⟨t, ht⟩ => mb_z.mp r0 t ((gr t).mpr ht))] at IH
      exact nm_r (nI_1 k) IH
    · obtain ⟨t0, ht0⟩ := mb_nz.mp r0
      exact nm_r (bv_or hk ⟨t0, (gr t0).mp ht0⟩) (nm_r (nI_1 k) IH)
theorem xn_needed {post : Int32 → Prop} {n N : Nat} {L : pl_L} {lg : Nat → Nat} (hn : n ≤ 7) (N6 : N ≤ 64) (z : sz 8 = nI N) (ok : au_ok N (ma_D mv 8 N) (fun t => mb_ (en 8) t) L) (Rn : ∀ t, mb_ (re n) t ↔ au_run (ma_D mv 8 N) 0 (wd_ lg n) t)
    (h : post (nI (bv_ (fun k => ∀ m, m < 64 → ¬ ct_can L (2 ^ k) (wd_ lg n) m) 4))) :
    ∀ d k, k + d = 4 → wX_needed_4 post sd sc ec (nI n) sz en mv lo re (d + 1) (nI (bv_ (fun k => ∀ m, m < 64 → ¬ ct_can L (2 ^ k) (wd_ lg n) m) k)) (nI k) := by
  intro d
  induction d with
  | zero =>
    intro k hk
    have : k = 4 := by omega
    subst this
    exact br_t (nI_le (a := 4) (b := 4) (by omega) (by decide)) h
  | succ d ih =>
    intro k hk'
    have hk : k < 4 := by omega
    have IH := ih (k + 1) (by omega)
    have l2 : 2 ^ k ≤ 8 := pw_8 hk
    refine br_f (nI_ge (b := 4) hk (by decide)) ⟨vp_in_nI (by omega) (by decide), ?_⟩
    have e1 : (1 : Int32) <<< (nI k &&& 31) = nI (2 ^ k) := y_one (by omega)
    have X : ∀ p : Int32 → Prop, (∀ c, c < 64 → ct_can L (2 ^ k) (wd_ lg n) c → (∀ m, m < c → ¬ ct_can L (2 ^ k) (wd_ lg n) m) → p (nI c)) → ((∀ m, m < 64 → ¬ ct_can L (2 ^ k) (wd_ lg n) m) → p (-4)) → wpX_leastToEnd p (sd, sc, ec, nI n, sz, en, mv, lo, re) (re (nI n).toNatClampNeg) ((1 : Int32) <<< (nI k &&& 31)) := by
      intro p h1 h2
      rw [e1, nI_clamp (by omega)]
      exact xq_le (by omega) N6 z ok Rn h1 h2
    refine X _ (fun c hc can no => ?_) (fun no => ?_)
    · have ne : ¬ nI c = -4 := by
        intro e
        have h1 := congrArg Int32.toInt e
        rw [nI_toInt (by omega), show (-4 : Int32).toInt = -4 by decide] at h1
        omega
      rw [bv_f (fun q => q c hc can)] at IH
      exact br_f ne (nm_r (nI_1 k) IH)
    · exact br_t rfl (nm_r (bv_or hk no) (nm_r (nI_1 k) IH))
theorem xa_24 {post : Int32 → Prop} {n N : Nat} {L : pl_L} {lg : Nat → Nat} {Q : Nat → Prop} {x1 : Int32} (hn : n ≤ 7) (N6 : N ≤ 64) (z : sz 8 = nI N) (ok : au_ok N (ma_D mv 8 N) (fun t => mb_ (en 8) t) L) (Rn : ∀ t, mb_ (re n) t ↔ au_run (ma_D mv 8 N) 0 (wd_ lg n) t)
    (A1 : ∀ k, k < 4 → ∀ c, c < 64 → lc_ L 0 (wd_ lg n ++ [k]) c → (nI c = x1 - 1 ↔ Q k)) (A2 : ∀ k, k < 4 → (∀ m, m < 64 → ¬ ct_can L 0 (wd_ lg n ++ [k]) m) → ((-4 : Int32) = x1 - 1 ↔ Q k))
    (h1 : ∀ k, k < 4 → Q k → (∀ k', k' < k → ¬ Q k') → post (nI k)) (h2 : (∀ k, k < 4 → ¬ Q k) → post (-4)) :
    ∀ d k, k + d = 4 → (∀ k', k' < k → ¬ Q k') → wX_advice_24 post x1 sd sc ec (nI n) sz en mv lo re (d + 1) (nI k) := by
  intro d
  induction d with
  | zero =>
    intro k hk no
    have : k = 4 := by omega
    subst this
    exact br_t (nI_le (a := 4) (b := 4) (by omega) (by decide)) (h2 no)
  | succ d ih =>
    intro k hk' no
    have hk : k < 4 := by omega
    refine br_f (nI_ge (b := 4) hk (by decide)) ⟨vp_in_nI (by omega) (by decide), ?_⟩
    rw [nI_clamp (by omega)]
    refine xq_sa hk N6 z (fun r g => ?_)
    have gr : ∀ t, mb_ r t ↔ au_run (ma_D mv 8 N) 0 (wd_ lg n ++ [k]) t := by
      intro t
      rw [g t, au_app]
      constructor
      · rintro ⟨s, q1, q2⟩; exact ⟨s, (Rn s).mp q1, t, q2, rfl⟩
      · rintro ⟨s, q1, t', q2, rfl⟩; exact ⟨s, (Rn s).mpr q1, q2⟩
    have step : ∀ r25 : Int32, (r25 = x1 - 1 ↔ Q k) → ((r25 = (x1 - 1) → (post (nI k))) ∧ (¬ r25 = (x1 - 1) → (∀ x2_36 : Int32, x2_36 = nI k + 1 → (wX_advice_24 post x1 sd sc ec (nI n) sz en mv lo re (d + 1) x2_36)))) := by
      intro r25 e
      refine br_c (fun q => h1 k hk (e.mp q) no) (fun q => nm_r (nI_1 k) (ih (k + 1) (by omega) (fun k' h' qk => ?_)))
      by_cases e' : k' = k
      · subst e'; exact q (e.mpr qk)
      · exact no k' (by omega) qk
    exact xq_le (B := 0) (by omega) N6 z ok gr (fun c hc can no' => step (nI c) (A1 k hk c hc ⟨can, no'⟩)) (fun no' => step (-4) (A2 k hk no'))
end
section
variable {st dp ev : Int32} {dr pr : Nat → Int32}
theorem yn_next {post : Int32 → SY → Prop} {n : Nat} {lg : Nat → Nat} {pc : List Nat} {lo : Nat → Int32} {Q : Nat → Prop} (hP : rl_P pc pr)
    (hQ : ∀ k c, k < 4 → ct_C ((st_run pc).2.1 0) ((st_run pc).2.2 0) 0 (wd_ lg n ++ [k]) c → (c = 100 ↔ ¬ Q k))
    (h : ∀ yl co op, rl_L n lg lo yl → post (nI (bv_ Q 4)) (st, dp, ev, nI pc.length, nI n, dr, pr, yl, co, op)) :
    ∀ d k, k + d = 4 → ∀ yl co op, rl_L n lg lo yl → wY_next_4 post (d + 1) (nI (bv_ Q k)) (nI k) st dp ev (nI pc.length) (nI n) dr pr yl co op := by
  intro d
  induction d with
  | zero =>
    intro k hk yl co op hL
    have : k = 4 := by omega
    subst this
    exact br_t (nI_le (a := 4) (b := 4) (by omega) (by decide)) (h yl co op hL)
  | succ d ih =>
    intro k hk' yl co op hL
    have hk : k < 4 := by omega
    refine br_f (nI_ge (b := 4) hk (by decide)) ?_
    refine yl_af hk hP hL (fun c co' op' C => ?_)
    have IH := ih (k + 1) (by omega) _ co' op' (L_up (k := k) hL)
    have e := hQ k c hk C
    have c2 := C.1
    refine pk_le 100 c (fun q => ?_) (fun q => ?_)
    · rw [bv_f (e.mp (by omega))] at IH
      exact nm_r (nI_1 k) IH
    · have qk : Q k := Classical.byContradiction (fun nq => by have := e.mpr nq; omega)
      exact nm_r (bv_add hk qk) (nm_r (nI_1 k) IH)
theorem yn_needed {post : Int32 → SY → Prop} {n : Nat} {lg : Nat → Nat} {pc : List Nat} {lo yl : Nat → Int32} {Q : Nat → Prop} (hP : rl_P pc pr) (hL : rl_L n lg lo yl)
    (hQ : ∀ k c, k < 4 → ct_C ((st_run pc).2.1 0) ((st_run pc).2.2 0) (2 ^ k) (wd_ lg n) c → (c = 100 ↔ Q k))
    (h : ∀ co op, post (nI (bv_ Q 4)) (st, dp, ev, nI pc.length, nI n, dr, pr, yl, co, op)) :
    ∀ d k, k + d = 4 → ∀ co op, wY_needed_4 post (d + 1) (nI (bv_ Q k)) (nI k) st dp ev (nI pc.length) (nI n) dr pr yl co op := by
  intro d
  induction d with
  | zero =>
    intro k hk co op
    have : k = 4 := by omega
    subst this
    exact br_t (nI_le (a := 4) (b := 4) (by omega) (by decide)) (h co op)
  | succ d ih =>
    intro k hk' co op
    have hk : k < 4 := by omega
    have l2 : 2 ^ k ≤ 8 := pw_8 hk
    have hn := hL.1
    refine br_f (nI_ge (b := 4) hk (by decide)) ?_
    have e1 : (1 : Int32) <<< (nI k &&& 31) = nI (2 ^ k) := y_one (by omega)
    have Y : ∀ p : Int32 → SY → Prop, (∀ c co' op', ct_C ((st_run pc).2.1 0) ((st_run pc).2.2 0) (2 ^ k) (wd_ lg n) c → p (nI c) (st, dp, ev, nI pc.length, nI n, dr, pr, yl, co', op')) → wpY_least p (st, dp, ev, nI pc.length, nI n, dr, pr, yl, co, op) (nI n) ((1 : Int32) <<< (nI k &&& 31)) := by
      intro p h'
      rw [e1]
      exact yl_at hn (by omega) hP hL h'
    refine Y _ (fun c co' op' C => ?_)
    have IH := ih (k + 1) (by omega) co' op'
    have e := hQ k c hk C
    have c2 := C.1
    refine pk_eq c 100 (fun q => ?_) (fun q => ?_)
    · exact nm_r (bv_add hk (e.mp q)) (nm_r (nI_1 k) IH)
    · rw [bv_f (fun nq => q (e.mpr nq))] at IH
      exact nm_r (nI_1 k) IH
theorem ya_12 {post : Int32 → SY → Prop} {n : Nat} {lg : Nat → Nat} {pc : List Nat} {lo : Nat → Int32} {Q : Nat → Prop} {x1 : Int32} (hP : rl_P pc pr)
    (hQ : ∀ k c, k < 4 → ct_C ((st_run pc).2.1 0) ((st_run pc).2.2 0) 0 (wd_ lg n ++ [k]) c → (nI c = x1 - 1 ↔ Q k))
    (h1 : ∀ k, k < 4 → Q k → (∀ k', k' < k → ¬ Q k') → ∀ yl co op, rl_L n lg lo yl → post (nI k) (st, dp, ev, nI pc.length, nI n, dr, pr, yl, co, op))
    (h2 : (∀ k, k < 4 → ¬ Q k) → ∀ yl co op, rl_L n lg lo yl → post (-4) (st, dp, ev, nI pc.length, nI n, dr, pr, yl, co, op)) :
    ∀ d k, k + d = 4 → (∀ k', k' < k → ¬ Q k') → ∀ yl co op, rl_L n lg lo yl → wY_advice_12 post x1 (d + 1) (nI k) st dp ev (nI pc.length) (nI n) dr pr yl co op := by
  intro d
  induction d with
  | zero =>
    intro k hk no yl co op hL
    have : k = 4 := by omega
    subst this
    exact br_t (nI_le (a := 4) (b := 4) (by omega) (by decide)) (h2 no yl co op hL)
  | succ d ih =>
    intro k hk' no yl co op hL
    have hk : k < 4 := by omega
    refine br_f (nI_ge (b := 4) hk (by decide)) ?_
    refine yl_af hk hP hL (fun c co' op' C => ?_)
    have e := hQ k c hk C
    refine br_c (fun q => h1 k hk (e.mp q) no _ co' op' (L_up hL)) (fun q => nm_r (nI_1 k) (ih (k + 1) (by omega) (fun k' h' qk => ?_) _ co' op' (L_up hL)))
    by_cases e' : k' = k
    · subst e'; exact q (e.mpr qk)
    · exact no k' (by omega) qk
end
theorem i_vc_next {k : Nat} {u : SX} {v : SY} (I : i_Rel k u v) (hk : k + 2 ≤ 1024) : wpX_next (fun r => wpY_next (fun r' v' => r' = r ∧ i_Rel (k + 2) u v') v) u := by
  obtain ⟨dc, pc, d, s, n, lg, sz, en, mv, lo, re, dr, pr, yl, co, op, rfl, rfl, rfl, rfl, hD, hP, hM, hL⟩ := I
  have hn := hL.1
  obtain ⟨N, z, N6, ok, R⟩ := hM
  have Rn := (R n (Nat.le_refl _)).1
  refine ⟨5, xn_next hn N6 z Rn ?_ 4 0 (by omega)⟩
  refine ⟨5, yn_next (lo := lo) hP (fun k c hk C => pr_e ok hP.2.2.2.2.1 C) (fun yl' co' op' hL' => ⟨rfl, ?_⟩) 4 0 (by omega) yl co op hL⟩
  exact ⟨dc, pc, _, _, n, lg, sz, en, mv, lo, re, dr, pr, yl', co', op', rfl, rfl, rfl, rfl, hD, hP, ⟨N, z, N6, ok, R⟩, hL'⟩
theorem i_vc_needed {k : Nat} {u : SX} {v : SY} (I : i_Rel k u v) (hk : k + 2 ≤ 1024) : wpX_needed (fun r => wpY_needed (fun r' v' => r' = r ∧ i_Rel (k + 2) u v') v) u := by
  obtain ⟨dc, pc, d, s, n, lg, sz, en, mv, lo, re, dr, pr, yl, co, op, rfl, rfl, rfl, rfl, hD, hP, hM, hL⟩ := I
  have hn := hL.1
  obtain ⟨N, z, N6, ok, R⟩ := hM
  have Rn := (R n (Nat.le_refl _)).1
  have e := hP.2.2.2.2.1
  refine ⟨5, xn_needed hn N6 z ok Rn ?_ 4 0 (by omega)⟩
  refine ⟨5, yn_needed hP hL (fun k c hk C => ⟨fun q m _ can => ?_, fun q => ?_⟩) (fun co' op' => ⟨rfl, ?_⟩) 4 0 (by omega) co op⟩
  · have := C_lo C can; omega
  · by_cases q' : c < 100
    · have := C_at C q'
      exact absurd this.2 (q c (by omega))
    · have := C.1; omega
  · exact ⟨dc, pc, _, _, n, lg, sz, en, mv, lo, re, dr, pr, yl, co', op', rfl, rfl, rfl, rfl, hD, hP, ⟨N, z, N6, ok, R⟩, hL⟩
theorem n_c4 {c : Nat} (h : c < 2 ^ 31) : ¬ nI c = -4 ∧ ¬ nI c = -5 ∧ ¬ nI c = -1 := by
  refine ⟨fun e => ?_, fun e => ?_, fun e => ?_⟩ <;> have h1 := congrArg Int32.toInt e
  · rw [nI_toInt h, show (-4 : Int32).toInt = -4 by decide] at h1; omega
  · rw [nI_toInt h, show (-5 : Int32).toInt = -5 by decide] at h1; omega
  · rw [nI_toInt h, show (-1 : Int32).toInt = -1 by decide] at h1; omega
def ad_Q (L : pl_L) (w : List Nat) (k : Nat) : Prop := ∃ c, c < 64 ∧ 0 < c ∧ lc_ L 0 w c ∧ lc_ L 0 (w ++ [k]) (c - 1)
theorem ad_Y {e c ck k : Nat} {L : pl_L} {w : List Nat} (he : e < 64) (C : ct_C e L 0 w c) (Ck : ct_C e L 0 (w ++ [k]) ck) : nI ck = nI c - 1 ↔ ad_Q L w k := by
  have c1 := C.1
  have ck1 := Ck.1
  by_cases c0 : c = 0
  · subst c0
    constructor
    · intro q; exact absurd q (n_c4 (by omega)).2.2
    · rintro ⟨c', _, p, l, _⟩
      have := C_lc2 he C l
      omega
  · have e1 : nI c - 1 = nI (c - 1) := pk_sub (a := c) (b := 1) (by omega)
    rw [e1, nI_eq (by omega) (by omega)]
    constructor
    · intro q
      have k1 : ck < 100 := by omega
      have k2 := C_at Ck k1
      by_cases c100 : c < 100
      · have k3 := C_at C c100
        exact ⟨c, by omega, by omega, C_lc1 C c100, by rw [← q]; exact C_lc1 Ck k1⟩
      · omega
    · rintro ⟨c', _, p, l, l'⟩
      have a1 := C_lc2 he C l
      have a2 := C_lc2 he Ck l'
      omega
theorem i_vc_advice {k : Nat} {u : SX} {v : SY} (I : i_Rel k u v) (hk : k + 2 ≤ 1024) : wpX_advice (fun r => wpY_advice (fun r' v' => r' = r ∧ i_Rel (k + 2) u v') v) u := by
  obtain ⟨dc, pc, d, s, n, lg, sz, en, mv, lo, re, dr, pr, yl, co, op, rfl, rfl, rfl, rfl, hD, hP, hM, hL⟩ := I
  have hn := hL.1
  obtain ⟨N, z, N6, ok, R⟩ := hM
  have Rn := (R n (Nat.le_refl _)).1
  have e := hP.2.2.2.2.1
  have fin : ∀ r : Int32, (∀ k, k < 4 → ad_Q ((st_run pc).2.2 0) (wd_ lg n) k → (∀ k', k' < k → ¬ ad_Q ((st_run pc).2.2 0) (wd_ lg n) k') → nI k = r) → ((∀ k, k < 4 → ¬ ad_Q ((st_run pc).2.2 0) (wd_ lg n) k) → (-4 : Int32) = r) →
      wpY_advice (fun r' v' => r' = r ∧ i_Rel (k + 2) (nI (st_run dc).1, nI dc.length, nI (st_sum (st_run dc).2.1 (st_run dc).1), nI n, sz, en, mv, lo, re) v') (nI dc.length, nI (st_run dc).1, nI (st_sum (st_run dc).2.1 (st_run dc).1), nI pc.length, nI n, dr, pr, yl, co, op) := by
    intro r g1 g2
    have J : ∀ yl' co' op', rl_L n lg lo yl' → i_Rel (k + 2) (nI (st_run dc).1, nI dc.length, nI (st_sum (st_run dc).2.1 (st_run dc).1), nI n, sz, en, mv, lo, re) (nI dc.length, nI (st_run dc).1, nI (st_sum (st_run dc).2.1 (st_run dc).1), nI pc.length, nI n, dr, pr, yl', co', op') :=
      fun yl' co' op' hL' => ⟨dc, pc, _, _, n, lg, sz, en, mv, lo, re, dr, pr, yl', co', op', rfl, rfl, rfl, rfl, hD, hP, ⟨N, z, N6, ok, R⟩, hL'⟩
    unfold wpY_advice
    dsimp only
    refine yl_at (B := 0) hn (by omega) hP hL (fun c co' op' C => ⟨5, ?_⟩)
    exact ya_12 (lo := lo) (Q := ad_Q ((st_run pc).2.2 0) (wd_ lg n)) hP (fun k ck hk Ck => ad_Y e C Ck) (fun k hk q no yl' co' op' hL' => ⟨g1 k hk q no, J yl' co' op' hL'⟩) (fun no yl' co' op' hL' => ⟨g2 no, J yl' co' op' hL'⟩) 4 0 (by omega) (fun k' h' => by omega) yl co' op' hL
  have last : ∀ x1 : Int32, (∀ k, k < 4 → ∀ c, c < 64 → lc_ ((st_run pc).2.2 0) 0 (wd_ lg n ++ [k]) c → (nI c = x1 - 1 ↔ ad_Q ((st_run pc).2.2 0) (wd_ lg n) k)) → (∀ k, k < 4 → (∀ m, m < 64 → ¬ ct_can ((st_run pc).2.2 0) 0 (wd_ lg n ++ [k]) m) → ((-4 : Int32) = x1 - 1 ↔ ad_Q ((st_run pc).2.2 0) (wd_ lg n) k)) →
      ∃ n24 : Nat, wX_advice_24 (fun r => wpY_advice (fun r' v' => r' = r ∧ i_Rel (k + 2) (nI (st_run dc).1, nI dc.length, nI (st_sum (st_run dc).2.1 (st_run dc).1), nI n, sz, en, mv, lo, re) v') (nI dc.length, nI (st_run dc).1, nI (st_sum (st_run dc).2.1 (st_run dc).1), nI pc.length, nI n, dr, pr, yl, co, op)) x1 (nI (st_run dc).1) (nI dc.length) (nI (st_sum (st_run dc).2.1 (st_run dc).1)) (nI n) sz en mv lo re n24 0 := by
    intro x1 A1 A2
    refine ⟨5, xa_24 (Q := ad_Q ((st_run pc).2.2 0) (wd_ lg n)) hn N6 z ok Rn A1 A2 (fun k hk q no => fin _ (fun k' hk' q' no' => ?_) (fun no' => absurd q (no' k hk))) (fun no => fin _ (fun k' hk' q' _ => absurd q' (no k' hk')) (fun _ => rfl)) 4 0 (by omega) (fun k' h' => by omega)⟩
    have : k' = k := by
      rcases Nat.lt_trichotomy k' k with a | a | a
      · exact absurd q' (no k' a)
      · exact a
      · exact absurd q (no' k a)
    rw [this]
  refine ⟨vp_in_nI (by omega) (by decide), ?_⟩
  rw [nI_clamp (by omega)]
  refine xq_le (B := 0) (by omega) N6 z ok Rn (fun c hc can no => ?_) (fun no => ?_)
  · have lc : lc_ ((st_run pc).2.2 0) 0 (wd_ lg n) c := ⟨can, no⟩
    refine pk_eq c 0 (fun c0 => ?_) (fun c0 => ?_)
    · have nq : ∀ k, ¬ ad_Q ((st_run pc).2.2 0) (wd_ lg n) k := by
        rintro k ⟨c', _, p, l, _⟩
        have := lc_u lc l
        omega
      exact fin _ (fun k _ q _ => absurd q (nq k)) (fun _ => rfl)
    · have e1 : nI c - 1 = nI (c - 1) := pk_sub (a := c) (b := 1) (by omega)
      refine last (nI c) (fun k hk ck hck lk => ?_) (fun k hk nok => ?_)
      · rw [e1, nI_eq (by omega) (by omega)]
        constructor
        · rintro rfl; exact ⟨c, hc, by omega, lc, lk⟩
        · rintro ⟨c', _, p, l, l'⟩
          have a1 := lc_u lc l
          have a2 := lc_u lk l'
          omega
      · rw [e1]
        constructor
        · intro q; exact absurd q.symm (n_c4 (by omega)).1
        · rintro ⟨c', h64, p, l, l'⟩
          exact absurd l'.1 (nok (c' - 1) (by omega))
  · have nq : ∀ k, ¬ ad_Q ((st_run pc).2.2 0) (wd_ lg n) k := by
      rintro k ⟨c', h64, p, l, _⟩
      exact no c' h64 l.1
    refine br_f (by decide) (last (-4) (fun k hk ck hck lk => ?_) (fun k hk nok => ?_))
    · exact ⟨fun q => absurd q (n_c4 (by omega)).2.1, fun q => absurd q (nq k)⟩
    · exact ⟨fun q => absurd q (by decide), fun q => absurd q (nq k)⟩
