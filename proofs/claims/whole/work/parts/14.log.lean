/-! the reading methods and the log -/
theorem au_let {n : Nat} {D : Nat → Nat → Nat → Prop} (hD : au_in n D) : ∀ (w : List Nat) (s t : Nat), au_run D s w t → ∀ c, c ∈ w → c < 4 := by
  intro w
  induction w with
  | nil => intro s t _ c hc; exact absurd hc List.not_mem_nil
  | cons k w ih =>
    intro s t h c hc
    obtain ⟨s', a, b⟩ := h
    rcases List.mem_cons.mp hc with rfl | hc
    · exact (hD _ _ _ a).2.1
    · exact ih s' t b c hc
theorem pr_e {N e c : Nat} {D : Nat → Nat → Nat → Prop} {E : Nat → Prop} {L : pl_L} {w : List Nat} (o : au_ok N D E L) (he : e < 64) (C : ct_C e L 0 w c) : c = 100 ↔ ¬ ∃ t, au_run D 0 w t := by
  constructor
  · rintro rfl ⟨t, ht⟩
    obtain ⟨u, t', a, b⟩ := o.2.2.2.2 t (au_lt o.2.1 w 0 t o.1 ht)
    have := C_lo C (m := u.length) ⟨u, rfl, fun x hx => ⟨au_let o.2.1 u t t' a x hx, Nat.zero_testBit x⟩, (o.2.2.2.1 _).mpr ⟨t', (au_app w u 0 t').mpr ⟨t, ht, a⟩, b⟩⟩
    omega
  · intro h
    by_cases q : c < 100
    · obtain ⟨_, u, _, _, l⟩ := C_at C q
      obtain ⟨t, a, _⟩ := (o.2.2.2.1 _).mp l
      obtain ⟨z, b, _⟩ := (au_app w u 0 t).mp a
      exact absurd ⟨z, b⟩ h
    · have := C.1; omega
theorem wd_c {lg lg' : Nat → Nat} : ∀ m, (∀ i, i < m → lg' i = lg i) → wd_ lg' m = wd_ lg m := by
  intro m
  induction m with
  | zero => intro _; rfl
  | succ m ih =>
    intro h
    show _ ++ _ = _ ++ _
    rw [ih (fun i hi => h i (by omega)), h m (by omega)]
theorem wd_put {lg : Nat → Nat} {n k m : Nat} (h : m ≤ n) : wd_ (st_put lg n k) m = wd_ lg m := wd_c m (fun i hi => pt_n (by omega))
theorem wd_new {lg : Nat → Nat} {n k : Nat} : wd_ (st_put lg n k) (n + 1) = wd_ lg n ++ [k] := by
  show wd_ _ n ++ [st_put lg n k n] = _
  rw [wd_put (Nat.le_refl _), pt_s]
section
variable {st dp ev le : Int32} {dr pr yl co op : Nat → Int32}
theorem yl_at {post : Int32 → SY → Prop} {n B : Nat} {lg : Nat → Nat} {pc : List Nat} {lo : Nat → Int32} (hn : n ≤ 7) (hB : B < 16) (hP : rl_P pc pr) (hL : rl_L n lg lo yl)
    (h : ∀ c co' op', ct_C ((st_run pc).2.1 0) ((st_run pc).2.2 0) B (wd_ lg n) c → post (nI c) (st, dp, ev, nI pc.length, le, dr, pr, yl, co', op')) :
    wpY_least post (st, dp, ev, nI pc.length, le, dr, pr, yl, co, op) (nI n) (nI B) :=
  yl_least (by omega) hB (fun i hi => (hL.2 i hi).2) hP.1 hP.2.1 hP.2.2.1 hP.2.2.2.2.2 hP.2.2.2.1 h
theorem yl_af {post : Int32 → SY → Prop} {n k : Nat} {lg : Nat → Nat} {pc : List Nat} {lo : Nat → Int32} (hk : k < 4) (hP : rl_P pc pr) (hL : rl_L n lg lo yl)
    (h : ∀ c co' op', ct_C ((st_run pc).2.1 0) ((st_run pc).2.2 0) 0 (wd_ lg n ++ [k]) c → post (nI c) (st, dp, ev, nI pc.length, nI n, dr, pr, upd yl n (nI k), co', op')) :
    wpY_leastAfter post (st, dp, ev, nI pc.length, nI n, dr, pr, yl, co, op) (nI k) := by
  have hn := hL.1
  refine ⟨vp_in_nI (by omega) (by decide), nm_r (e' := upd yl n (nI k)) (by rw [nI_clamp (by omega)]) ?_⟩
  rw [nI_1]
  refine yl_least (B := 0) (lg := st_put lg n k) (by omega) (by omega) (fun i hi => ?_) hP.1 hP.2.1 hP.2.2.1 hP.2.2.2.2.2 hP.2.2.2.1 (fun c co' op' C => ?_)
  · by_cases e : i = n
    · subst e; rw [pk_us, pt_s]; exact ⟨rfl, hk⟩
    · rw [pk_un e, pt_n e]; exact (hL.2 i (by omega)).2
  · rw [wd_new] at C
    exact h c co' op' C
theorem yd_13 {post : Int32 → SY → Prop} {si : Int32} {l : Nat} (hl : l ≤ 16)
    (h : ∀ pr', (∀ j, j < l → pr' j = dr j) → post 0 (0, 0, 0, nI l, 0, dr, pr', yl, co, op)) :
    ∀ d i, i + d = l → ∀ pr', (∀ j, j < i → pr' j = dr j) → wY_define_13 post (nI l) dp ev si le (d + 1) (nI i) dr pr' yl co op := by
  intro d
  induction d with
  | zero =>
    intro i hi pr' g
    have : i = l := by omega
    subst this
    exact br_t (nI_le (Nat.le_refl _) (by omega)) (h pr' g)
  | succ d ih =>
    intro i hi pr' g
    refine br_f (nI_ge (by omega) (by omega)) ⟨vp_in_nI (by omega) (by decide), vp_in_nI (by omega) (by decide), nm_r (e' := upd pr' i (dr i)) (by rw [nI_clamp (by omega)]) (nm_r (nI_1 i) (ih (i + 1) (by omega) _ (fun j hj => ?_)))⟩
    by_cases e : j = i
    · subst e; exact pk_us
    · rw [pk_un e]; exact g j (by omega)
end
theorem L_up {n k : Nat} {lg : Nat → Nat} {lo yl : Nat → Int32} (h : rl_L n lg lo yl) : rl_L n lg lo (upd yl n (nI k)) :=
  ⟨h.1, fun i hi => ⟨(h.2 i hi).1, by rw [pk_un (by omega)]; exact (h.2 i hi).2.1, (h.2 i hi).2.2⟩⟩
theorem M_mono {pc : List Nat} {n m : Nat} {lg : Nat → Nat} {sz : Nat → Int32} {en mv re : Nat → Int64} (hm : m ≤ n) (h : rl_M pc n lg sz en mv re) : rl_M pc m lg sz en mv re := by
  obtain ⟨N, a, b, c, d⟩ := h
  exact ⟨N, a, b, c, fun q hq => d q (by omega)⟩
theorem D_nil {dr sz : Nat → Int32} {en mv : Nat → Int64} : rl_D [] dr sz en mv :=
  ⟨sk_nil, Nat.zero_le _, Nat.zero_le _, Nat.zero_le _, fun i hi => absurd hi (Nat.not_lt_zero i), fun i hi => absurd hi (Nat.not_lt_zero i)⟩
theorem i_vc_steps {k : Nat} {u : SX} {v : SY} (I : i_Rel k u v) (hk : k + 2 ≤ 1024) : wpX_steps (fun r => wpY_steps (fun r' => r' = r ∧ i_Rel (k + 2) u v) v) u := by
  have I0 := i_up I
  obtain ⟨dc, pc, d, s, n, lg, sz, en, mv, lo, re, dr, pr, yl, co, op, rfl, rfl, rfl, rfl, hD, hP, hM, hL⟩ := I
  exact ⟨rfl, I0⟩
theorem i_vc_depth {k : Nat} {u : SX} {v : SY} (I : i_Rel k u v) (hk : k + 2 ≤ 1024) : wpX_depth (fun r => wpY_depth (fun r' => r' = r ∧ i_Rel (k + 2) u v) v) u := by
  have I0 := i_up I
  obtain ⟨dc, pc, d, s, n, lg, sz, en, mv, lo, re, dr, pr, yl, co, op, rfl, rfl, rfl, rfl, hD, hP, hM, hL⟩ := I
  exact ⟨rfl, I0⟩
theorem i_vc_length {k : Nat} {u : SX} {v : SY} (I : i_Rel k u v) (hk : k + 2 ≤ 1024) : wpX_length (fun r => wpY_length (fun r' => r' = r ∧ i_Rel (k + 2) u v) v) u := by
  have I0 := i_up I
  obtain ⟨dc, pc, d, s, n, lg, sz, en, mv, lo, re, dr, pr, yl, co, op, rfl, rfl, rfl, rfl, hD, hP, hM, hL⟩ := I
  exact ⟨rfl, I0⟩
theorem i_vc_discard {k : Nat} {u : SX} {v : SY} (I : i_Rel k u v) (hk : k + 2 ≤ 1024) : wpX_discard (fun u' => wpY_discard (fun v' => i_Rel (k + 2) u' v') v) u := by
  obtain ⟨dc, pc, d, s, n, lg, sz, en, mv, lo, re, dr, pr, yl, co, op, rfl, rfl, rfl, rfl, hD, hP, hM, hL⟩ := I
  exact ⟨[], pc, 0, 0, n, lg, sz, en, mv, lo, re, dr, pr, yl, co, op, rfl, rfl, rfl, rfl, D_nil, hP, hM, hL⟩
theorem i_vc_restart {k : Nat} {u : SX} {v : SY} (I : i_Rel k u v) (hk : k + 2 ≤ 1024) : wpX_restart (fun u' => wpY_restart (fun v' => i_Rel (k + 2) u' v') v) u := by
  obtain ⟨dc, pc, d, s, n, lg, sz, en, mv, lo, re, dr, pr, yl, co, op, rfl, rfl, rfl, rfl, hD, hP, hM, hL⟩ := I
  exact ⟨dc, pc, _, _, 0, lg, sz, en, mv, lo, re, dr, pr, yl, co, op, rfl, rfl, rfl, rfl, hD, hP, M_mono (Nat.zero_le _) hM, Nat.zero_le _, fun i hi => absurd hi (Nat.not_lt_zero i)⟩
theorem i_vc_define {k : Nat} {u : SX} {v : SY} (I : i_Rel k u v) (hk : k + 2 ≤ 1024) : wpX_define (fun r u' => wpY_define (fun r' v' => r' = r ∧ i_Rel (k + 2) u' v') v) u := by
  have I0 := i_up I
  obtain ⟨dc, pc, d, s, n, lg, sz, en, mv, lo, re, dr, pr, yl, co, op, rfl, rfl, rfl, rfl, hD, hP, hM, hL⟩ := I
  have hD2 := hD.2.1
  have hD3 := hD.2.2.1
  have hD4 := hD.2.2.2.1
  by_cases a : (st_run dc).1 = 1
  · have e1 : nI (st_run dc).1 = 1 := by rw [a]; rfl
    have h0 : 0 < dc.length := by
      cases dc with
      | nil => exact absurd a (by decide)
      | cons c w => exact Nat.succ_pos _
    have es := sm_le (E := (st_run dc).2.1) (st_run dc).1 0 (by omega)
    obtain ⟨N, z, b, ok⟩ := hD.2.2.2.2.2 0 (by omega)
    have N6 : N ≤ 64 := Nat.le_trans b (p6 (by omega))
    refine br_t e1 ?_
    refine xw_copy (y := 0) (x := 8) (n := N) (by omega) (by omega) (by omega) N6 z (fun mv' g => ?_)
    refine br_t e1 ⟨dc.length + 1, yd_13 hD2 (fun pr' gp => ⟨rfl, ?_⟩) dc.length 0 (by omega) pr (fun j hj => by omega)⟩
    refine ⟨[], dc, 0, 0, 0, lg, _, _, mv', lo, re, dr, pr', yl, co, op, rfl, rfl, rfl, rfl, D_nil, ⟨hD.1, h0, hD2, a, by omega, fun i hi => by rw [gp i hi]; exact hD.2.2.2.2.1 i hi⟩, ⟨N, pk_us, N6, ?_, fun m hm => ?_⟩, Nat.zero_le _, fun i hi => absurd hi (Nat.not_lt_zero i)⟩
    · rw [D_fr (x := 0) (mv := mv) (fun s k hs hk => (g 8 s k (by omega) hk).1 ⟨rfl, hs⟩), pk_uLs]
      exact ok
    · have : m = 0 := by omega
      subst this
      obtain ⟨N', _, _, _, q⟩ := hM
      exact q 0 (Nat.zero_le _)
  · have e1 : ¬ nI (st_run dc).1 = 1 := n_ne 1 a (by omega) (by decide)
    exact br_f e1 (br_f e1 ⟨rfl, I0⟩)
theorem i_vc_undo {k : Nat} {u : SX} {v : SY} (I : i_Rel k u v) (hk : k + 2 ≤ 1024) : wpX_undo (fun r u' => wpY_undo (fun r' v' => r' = r ∧ i_Rel (k + 2) u' v') v) u := by
  have I0 := i_up I
  obtain ⟨dc, pc, d, s, n, lg, sz, en, mv, lo, re, dr, pr, yl, co, op, rfl, rfl, rfl, rfl, hD, hP, hM, hL⟩ := I
  have hn := hL.1
  by_cases a : n = 0
  · have e0 : nI n = 0 := by rw [a]; rfl
    exact br_t e0 (br_t e0 ⟨rfl, I0⟩)
  · have e0 : ¬ nI n = 0 := n_ne 0 a (by omega) (by decide)
    have e1 : nI n - 1 = nI (n - 1) := pk_sub (a := n) (b := 1) (by omega)
    have l := hL.2 (n - 1) (by omega)
    refine br_f e0 (nm_r e1 ⟨vp_in_nI (by omega) (by decide), br_f e0 (nm_r e1 ⟨vp_in_nI (by omega) (by decide), ?_, ?_⟩)⟩)
    · rw [nI_clamp (by omega), l.1, l.2.1]
    · exact ⟨dc, pc, _, _, n - 1, lg, sz, en, mv, lo, re, dr, pr, yl, co, op, rfl, rfl, rfl, rfl, hD, hP, M_mono (by omega) hM, by omega, fun i hi => hL.2 i (by omega)⟩
theorem i_vc_at {k : Nat} {u : SX} {v : SY} (I : i_Rel k u v) (hk : k + 2 ≤ 1024) (v1 : Int32) : wpX_at (fun r => wpY_at (fun r' => r' = r ∧ i_Rel (k + 2) u v) v v1) u v1 := by
  have I0 := i_up I
  obtain ⟨dc, pc, d, s, n, lg, sz, en, mv, lo, re, dr, pr, yl, co, op, rfl, rfl, rfl, rfl, hD, hP, hM, hL⟩ := I
  have hn := hL.1
  by_cases a : v1 < 0
  · exact br_t a (br_t a ⟨rfl, I0⟩)
  · obtain ⟨j, hj, rfl⟩ := nI_of a
    by_cases b : j < n
    · have lt := nI_lt b (by omega)
      have l := hL.2 j b
      refine br_f a (br_t lt ⟨vp_in_nI (by omega) (by decide), br_f a (br_t lt ⟨vp_in_nI (by omega) (by decide), ?_, I0⟩)⟩)
      rw [nI_clamp hj, l.1, l.2.1]
    · have lt := nI_nlt (a := j) (b := n) (by omega) hj
      exact br_f a (br_f lt (br_f a (br_f lt ⟨rfl, I0⟩)))
theorem i_vc_feed {k : Nat} {u : SX} {v : SY} (I : i_Rel k u v) (hk : k + 2 ≤ 1024) (v1 : Int32) : wpX_feed (fun r u' => wpY_feed (fun r' v' => r' = r ∧ i_Rel (k + 2) u' v') v v1) u v1 := by
  have I0 := i_up I
  obtain ⟨dc, pc, d, s, n, lg, sz, en, mv, lo, re, dr, pr, yl, co, op, rfl, rfl, rfl, rfl, hD, hP, hM, hL⟩ := I
  have hn := hL.1
  unfold wpX_feed
  dsimp only
  rcases pk_ix v1 (n := 4) (by decide) with h | h | ⟨j, hj, rfl⟩
  · refine xm_nf (Or.inl h) ?_
    exact br_t rfl (br_t h ⟨rfl, I0⟩)
  · refine xm_nf (Or.inr h) ?_
    exact br_t rfl (br_f (n_lt4 h).1 (br_f (n_lt4 h).2 ⟨rfl, I0⟩))
  · have y0 : ¬ nI j < 0 := nI_pos (by omega)
    have y3 : nI j ≤ 3 := nI_le (b := 3) (by omega) (by decide)
    refine xm_nt hj ?_
    refine br_f (by decide) ?_
    by_cases a : n = 7
    · exact br_f (nI_nlt (b := 7) (by omega) (by omega)) (br_f y0 (br_t y3 (br_t (by rw [a]; rfl) ⟨rfl, I0⟩)))
    · have n7 := n_ne 7 a (by omega) (by decide)
      obtain ⟨N, z, N6, ok, R⟩ := hM
      have Rn := (R n (Nat.le_refl _)).1
      refine br_t (nI_lt (b := 7) (by omega) (by decide)) ⟨vp_in_nI (by omega) (by decide), ?_⟩
      rw [nI_clamp (by omega)]
      refine xq_sa hj N6 z (fun r g => ?_)
      have gr : ∀ t, mb_ r t ↔ au_run (ma_D mv 8 N) 0 (wd_ lg n ++ [j]) t := by
        intro t
        rw [g t, au_app]
        constructor
        · rintro ⟨s, q1, q2⟩; exact ⟨s, (Rn s).mp q1, t, q2, rfl⟩
        · rintro ⟨s, q1, t', q2, rfl⟩; exact ⟨s, (Rn s).mpr q1, q2⟩
      refine br_c (fun r0 => ?_) (fun r0 => ?_)
      · refine br_f y0 (br_t y3 (br_f n7 ?_))
        refine yl_af hj hP hL (fun c co' op' C => ?_)
        have c1 : c = 100 := (pr_e ok hP.2.2.2.2.1 C).mpr (fun ⟨t, ht⟩ => mb_z.mp r0 t ((gr t).mpr ht))
        subst c1
        exact br_t rfl ⟨rfl, dc, pc, _, _, n, lg, sz, en, mv, lo, re, dr, pr, _, co', op', rfl, rfl, rfl, rfl, hD, hP, ⟨N, z, N6, ok, R⟩, L_up hL⟩
      · obtain ⟨t0, ht0⟩ := mb_nz.mp r0
        refine ⟨vp_in_nI (by omega) (by decide), nm_e (nm_r (nI_1 n) ⟨vp_in_nI (by omega) (by decide), nm_e ?_⟩)⟩
        refine br_f y0 (br_t y3 (br_f n7 ?_))
        refine yl_af hj hP hL (fun c co' op' C => ?_)
        have c1 : c ≠ 100 := fun e => (pr_e ok hP.2.2.2.2.1 C).mp e ⟨t0, (gr t0).mp ht0⟩
        have c2 := C.1
        refine br_f (n_ne 100 c1 (by omega) (by decide)) (nm_r (nI_1 n) ⟨rfl, ?_⟩)
        refine ⟨dc, pc, _, _, n + 1, st_put lg n j, sz, en, mv, _, _, dr, pr, _, co', op', rfl, rfl, rfl, rfl, hD, hP, ⟨N, z, N6, ok, fun m hm => ?_⟩, by omega, fun i hi => ?_⟩
        · rw [nI_clamp (by omega)]
          by_cases e : m = n + 1
          · subst e
            rw [pk_uLs, wd_new]
            exact ⟨gr, t0, ht0⟩
          · rw [pk_uLn e, wd_put (by omega)]
            exact R m (by omega)
        · by_cases e : i = n
          · subst e; rw [pk_us, pk_us, pt_s]; exact ⟨rfl, rfl, hj⟩
          · rw [pk_un e, pk_un e, pt_n e]; exact hL.2 i (by omega)
theorem i_vc_mayStop {k : Nat} {u : SX} {v : SY} (I : i_Rel k u v) (hk : k + 2 ≤ 1024) : wpX_mayStop (fun r => wpY_mayStop (fun r' v' => r' = r ∧ i_Rel (k + 2) u v') v) u := by
  obtain ⟨dc, pc, d, s, n, lg, sz, en, mv, lo, re, dr, pr, yl, co, op, rfl, rfl, rfl, rfl, hD, hP, hM, hL⟩ := I
  have hn := hL.1
  obtain ⟨N, z, N6, ok, R⟩ := hM
  have Rn := (R n (Nat.le_refl _)).1
  refine ⟨vp_in_nI (by omega) (by decide), ?_⟩
  rw [nI_clamp (by omega)]
  have key : (¬ (re n &&& en 8) = 0) ↔ (st_run pc).2.2 0 (wd_ lg n) := by
    rw [mb_nz, ok.2.2.2.1]
    constructor
    · rintro ⟨t, ht⟩
      obtain ⟨a, b⟩ := (mb_and _ _ _).mp ht
      exact ⟨t, (Rn t).mp a, b⟩
    · rintro ⟨t, a, b⟩
      exact ⟨t, (mb_and _ _ _).mpr ⟨(Rn t).mpr a, b⟩⟩
  refine br_c (fun q => ?_) (fun q => ?_)
  · unfold wpY_mayStop
    dsimp only
    refine yl_at (B := 0) hn (by omega) hP hL (fun c co' op' C => ?_)
    have c1 : c ≠ 0 := fun e => key.mpr ((C_0 C).mp e) q
    have c2 := C.1
    exact br_f (n_ne 0 c1 (by omega) (by decide)) ⟨rfl, dc, pc, _, _, n, lg, sz, en, mv, lo, re, dr, pr, yl, co', op', rfl, rfl, rfl, rfl, hD, hP, ⟨N, z, N6, ok, R⟩, hL⟩
  · unfold wpY_mayStop
    dsimp only
    refine yl_at (B := 0) hn (by omega) hP hL (fun c co' op' C => ?_)
    have c1 : c = 0 := (C_0 C).mpr (key.mp q)
    subst c1
    exact br_t rfl ⟨rfl, dc, pc, _, _, n, lg, sz, en, mv, lo, re, dr, pr, yl, co', op', rfl, rfl, rfl, rfl, hD, hP, ⟨N, z, N6, ok, R⟩, hL⟩
theorem i_vc_remaining {k : Nat} {u : SX} {v : SY} (I : i_Rel k u v) (hk : k + 2 ≤ 1024) (v1 : Int32) : wpX_remaining (fun r => wpY_remaining (fun r' v' => r' = r ∧ i_Rel (k + 2) u v') v v1) u v1 := by
  have I0 := i_up I
  obtain ⟨dc, pc, d, s, n, lg, sz, en, mv, lo, re, dr, pr, yl, co, op, rfl, rfl, rfl, rfl, hD, hP, hM, hL⟩ := I
  have hn := hL.1
  obtain ⟨N, z, N6, ok, R⟩ := hM
  have Rn := (R n (Nat.le_refl _)).1
  rcases pk_ix v1 (n := 16) (by decide) with h | h | ⟨j, hj, rfl⟩
  · exact br_t h (br_t h ⟨rfl, I0⟩)
  · obtain ⟨h1, h2, h3⟩ := n_lt16 h
    exact br_f h1 (br_f h3 (br_f h1 (br_f h2 ⟨rfl, I0⟩)))
  · have y0 : ¬ nI j < 0 := nI_pos (by omega)
    have y3 : nI j ≤ 15 := nI_le (b := 15) (by omega) (by decide)
    have e := hP.2.2.2.2.1
    refine br_f y0 (br_t (nI_lt (b := 16) hj (by decide)) ⟨vp_in_nI (by omega) (by decide), ?_⟩)
    rw [nI_clamp (by omega)]
    refine xq_le hj N6 z ok Rn (fun c hc can no => ?_) (fun no => ?_)
    · refine br_f y0 (br_t y3 ?_)
      refine yl_at hn hj hP hL (fun c' co' op' C => ?_)
      have l := C_lo C can
      have l2 := (C_at C (by omega)).2
      have e1 : c' = c := by
        rcases Nat.lt_or_ge c' c with q | q
        · exact absurd l2 (no c' q)
        · omega
      subst e1
      exact br_f (n_ne 100 (by omega) (by omega) (by decide)) ⟨rfl, dc, pc, _, _, n, lg, sz, en, mv, lo, re, dr, pr, yl, co', op', rfl, rfl, rfl, rfl, hD, hP, ⟨N, z, N6, ok, R⟩, hL⟩
    · refine br_f y0 (br_t y3 ?_)
      refine yl_at hn hj hP hL (fun c' co' op' C => ?_)
      have e1 : c' = 100 := by
        by_cases q : c' < 100
        · have := C_at C q
          exact absurd this.2 (no c' (by omega))
        · have := C.1; omega
      subst e1
      exact br_t rfl ⟨rfl, dc, pc, _, _, n, lg, sz, en, mv, lo, re, dr, pr, yl, co', op', rfl, rfl, rfl, rfl, hD, hP, ⟨N, z, N6, ok, R⟩, hL⟩
