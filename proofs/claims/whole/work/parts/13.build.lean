/-! the building methods -/
theorem i_vc0 : wpX_init (fun u => wpY_init (fun v => i_Rel 0 u v)) := by
  refine xb_skip (x := 8) (by omega) (fun sz' en' mv' f m => nm_e (nm_e ?_))
  obtain ⟨N, a, b, c⟩ := m
  have b1 : N ≤ 1 := b
  refine ⟨[], [4], 0, 0, 0, fun _ => 0, sz', en', mv', fun _ => 0, _, fun _ => 0, _, fun _ => 0, fun _ => 0, fun _ => 0, rfl, rfl, rfl, rfl, ?_, ?_, ⟨N, a, by omega, c, ?_⟩, ?_⟩
  · exact ⟨sk_nil, Nat.zero_le _, Nat.zero_le _, Nat.zero_le _, fun i hi => absurd hi (Nat.not_lt_zero i), fun i hi => absurd hi (Nat.not_lt_zero i)⟩
  · refine ⟨sk_snoc (c := []) (op := 4) sk_nil ⟨by omega, fun h => by omega, fun h => by omega⟩, Nat.lt_succ_self 0, by decide, rfl, Nat.lt_of_le_of_lt (Nat.le_refl 0) (by omega), ?_⟩
    intro i hi
    have hi : i < 1 := hi
    have : i = 0 := by omega
    subst this
    rfl
  · intro m hm
    have : m = 0 := by omega
    subst this
    refine ⟨fun t => ?_, 0, ?_⟩
    · rw [pk_uLs, mb_1]; exact ⟨fun h => h.symm, fun h => Eq.symm h⟩
    · rw [pk_uLs, mb_1]
  · exact ⟨by omega, fun i hi => absurd hi (Nat.not_lt_zero i)⟩
theorem xm_ref16 {post : Int32 → Prop} {sd ec ll : Int32} {sz : Nat → Int32} {en mv : Nat → Int64} {lo : Nat → Int32} {re : Nat → Int64} {l : Nat} {w : Int32} (h : l = 16) (hp : post (-2)) : wpX_refusalWithFewerThan post (sd, nI l, ec, ll, sz, en, mv, lo, re) w := by
  subst h
  exact br_f (by decide) hp
theorem xm_refF {post : Int32 → Prop} {ec ll : Int32} {sz : Nat → Int32} {en mv : Nat → Int64} {lo : Nat → Int32} {re : Nat → Int64} {l d w : Nat} (h : l < 16) (hd : d < w) (hw : w < 3) (hp : post (-3)) : wpX_refusalWithFewerThan post (nI d, nI l, ec, ll, sz, en, mv, lo, re) (nI w) :=
  br_t (nI_lt (b := 16) h (by decide)) (br_f (nI_ge hd (by omega)) hp)
theorem xm_refT {post : Int32 → Prop} {ec ll : Int32} {sz : Nat → Int32} {en mv : Nat → Int64} {lo : Nat → Int32} {re : Nat → Int64} {l d w : Nat} (h : l < 16) (hd : w ≤ d) (hw : d < 9) (hp : post 0) : wpX_refusalWithFewerThan post (nI d, nI l, ec, ll, sz, en, mv, lo, re) (nI w) :=
  br_t (nI_lt (b := 16) h (by decide)) (br_t (nI_le hd (by omega)) hp)
theorem n_m1 {d : Nat} (h : 0 < d) : nI d + (-1) = nI (d - 1) := by
  obtain ⟨e, rfl⟩ : ∃ e, d = e + 1 := ⟨d - 1, by omega⟩
  exact pk_m1 e
theorem n_16 {l : Nat} (h : l = 16) : nI l = 16 := by subst h; rfl
theorem n_ne {l : Nat} (b : Nat) (h : l ≠ b) (hl : l < 2 ^ 31) (hb : b < 2 ^ 31) : ¬ nI l = nI b := fun e => h ((nI_eq hl hb).mp e)
theorem yn_note {post : Int32 → SY → Prop} {ev si le : Int32} {dr pr lo co op : Nat → Int32} {l d d' : Nat} {p0 p1 : Int32} (hl : l < 16) (hd : nI d + p1 = nI d') (h : post (nI d') (nI (l + 1), nI d', ev, si, le, upd dr l p0, pr, lo, co, op)) : wpY_note post (nI l, nI d, ev, si, le, dr, pr, lo, co, op) p0 p1 :=
  ⟨vp_in_nI hl (by decide), nm_r (e' := upd dr l p0) (by rw [nI_clamp (by omega)]) (nm_r (nI_1 l) (nm_r hd h))⟩
theorem i_vc_event {k : Nat} {u : SX} {v : SY} (I : i_Rel k u v) (hk : k + 2 ≤ 1024) (v1 : Int32) : wpX_event (fun r u' => wpY_event (fun r' v' => r' = r ∧ i_Rel (k + 2) u' v') v v1) u v1 := by
  have I0 := i_up I
  obtain ⟨dc, pc, d, s, n, lg, sz, en, mv, lo, re, dr, pr, yl, co, op, rfl, rfl, rfl, rfl, hD, hP, hM, hL⟩ := I
  have hD2 := hD.2.1
  have hD3 := hD.2.2.1
  have hD4 := hD.2.2.2.1
  unfold wpX_event
  dsimp only
  rcases pk_ix v1 (n := 4) (by decide) with h | h | ⟨j, hj, rfl⟩
  · refine xm_nf (Or.inl h) ?_
    exact br_t rfl (br_t h ⟨rfl, I0⟩)
  · refine xm_nf (Or.inr h) ?_
    exact br_t rfl (br_f (n_lt4 h).1 (br_f (n_lt4 h).2 ⟨rfl, I0⟩))
  · have y0 : ¬ nI j < 0 := nI_pos (by omega)
    have y3 : nI j ≤ 3 := nI_le (b := 3) (by omega) (by decide)
    refine xm_nt hj ?_
    refine br_f (by decide) ?_
    by_cases a : dc.length = 16
    · exact br_t (nI_le (a := 16) (by omega) (by omega)) (br_f y0 (br_t y3 (br_t (n_16 a) ⟨rfl, I0⟩)))
    · refine br_f (nI_ge (b := 16) (by omega) (by decide)) ?_
      by_cases b : (st_run dc).1 = 8
      · exact br_t (nI_le (a := 8) (by omega) (by omega)) (br_f y0 (br_t y3 (br_f (n_ne 16 a (by omega) (by decide)) (br_t (by rw [b]; rfl) ⟨rfl, I0⟩))))
      · refine br_f (nI_ge (b := 8) (by omega) (by decide)) ?_
        by_cases c : st_sum (st_run dc).2.1 (st_run dc).1 = 6
        · exact br_f (nI_nlt (b := 6) (by omega) (by omega)) (br_f y0 (br_t y3 (br_f (n_ne 16 a (by omega) (by decide)) (br_f (n_ne 8 b (by omega) (by decide)) (br_t (by rw [c]; rfl) ⟨rfl, I0⟩)))))
        · refine br_t (nI_lt (b := 6) (by omega) (by decide)) (xb_event (by omega) hj (fun sz' en' mv' f m => nm_r (nI_1 _) (nm_r (nI_1 _) ?_)))
          rw [nI_1]
          refine br_f y0 (br_t y3 (br_f (n_ne 16 a (by omega) (by decide)) (br_f (n_ne 8 b (by omega) (by decide)) (br_f (n_ne 6 c (by omega) (by decide)) (nm_r (nI_1 _) (yn_note (by omega) (nI_1 _) ⟨rfl, ?_⟩))))))
          refine ⟨dc ++ [j], pc, (st_run dc).1 + 1, st_sum (st_run dc).2.1 (st_run dc).1 + 1, n, lg, sz', en', mv', lo, re, _, pr, yl, co, op, by rw [len_s], by rw [len_s], by rw [sr_snoc, ss_ev hj], by rw [sr_snoc, ss_ev hj]; exact sm_push, ?_, hP, M_fr (by omega) hM f, hL⟩
          exact D_step hD ⟨by omega, fun _ => by omega, fun _ => by omega⟩ (by omega) (ss_ev hj) rfl (by omega) (by omega) (by rw [sm_push]; omega) pt_s pt_s (fun i hi => ⟨hi, pt_n (Nat.ne_of_lt hi), pt_n (Nat.ne_of_lt hi)⟩) f m
theorem i_vc_skip {k : Nat} {u : SX} {v : SY} (I : i_Rel k u v) (hk : k + 2 ≤ 1024) : wpX_skip (fun r u' => wpY_skip (fun r' v' => r' = r ∧ i_Rel (k + 2) u' v') v) u := by
  have I0 := i_up I
  obtain ⟨dc, pc, d, s, n, lg, sz, en, mv, lo, re, dr, pr, yl, co, op, rfl, rfl, rfl, rfl, hD, hP, hM, hL⟩ := I
  have hD2 := hD.2.1
  have hD3 := hD.2.2.1
  have hD4 := hD.2.2.2.1
  by_cases a : dc.length = 16
  · exact br_t (nI_le (a := 16) (by omega) (by omega)) (br_t (n_16 a) ⟨rfl, I0⟩)
  · refine br_f (nI_ge (b := 16) (by omega) (by decide)) ?_
    by_cases b : (st_run dc).1 = 8
    · exact br_f (nI_nlt (b := 8) (by omega) (by omega)) (br_f (n_ne 16 a (by omega) (by decide)) (br_t (by rw [b]; rfl) ⟨rfl, I0⟩))
    · refine br_t (nI_lt (b := 8) (by omega) (by decide)) (xb_skip (by omega) (fun sz' en' mv' f m => nm_r (nI_1 _) ?_))
      rw [nI_1]
      refine br_f (n_ne 16 a (by omega) (by decide)) (br_f (n_ne 8 b (by omega) (by decide)) (yn_note (by omega) (nI_1 _) ⟨rfl, ?_⟩))
      refine ⟨dc ++ [4], pc, (st_run dc).1 + 1, st_sum (st_run dc).2.1 (st_run dc).1, n, lg, sz', en', mv', lo, re, _, pr, yl, co, op, by rw [len_s], by rw [len_s], by rw [sr_snoc, ss_sk], by rw [sr_snoc, ss_sk]; exact sm_push, ?_, hP, M_fr (by omega) hM f, hL⟩
      exact D_step hD ⟨by omega, fun _ => by omega, fun _ => by omega⟩ (by omega) ss_sk rfl (by omega) (by omega) (by rw [sm_push]; omega) pt_s pt_s (fun i hi => ⟨hi, pt_n (Nat.ne_of_lt hi), pt_n (Nat.ne_of_lt hi)⟩) f m
theorem i_vc_seq {k : Nat} {u : SX} {v : SY} (I : i_Rel k u v) (hk : k + 2 ≤ 1024) : wpX_seq (fun r u' => wpY_seq (fun r' v' => r' = r ∧ i_Rel (k + 2) u' v') v) u := by
  have I0 := i_up I
  obtain ⟨dc, pc, d, s, n, lg, sz, en, mv, lo, re, dr, pr, yl, co, op, rfl, rfl, rfl, rfl, hD, hP, hM, hL⟩ := I
  have hD2 := hD.2.1
  have hD3 := hD.2.2.1
  have hD4 := hD.2.2.2.1
  have hD6 := hD.2.2.2.2.2
  unfold wpX_seq wpY_seq wpY_join
  dsimp only
  by_cases a : dc.length = 16
  · refine xm_ref16 a ?_
    exact br_f (by decide) (br_t (n_16 a) ⟨rfl, I0⟩)
  · by_cases b : (st_run dc).1 < 2
    · refine xm_refF (w := 2) (by omega) b (by omega) ?_
      exact br_f (by decide) (br_f (n_ne 16 a (by omega) (by decide)) (br_f (nI_ge (b := 2) b (by decide)) ⟨rfl, I0⟩))
    · refine xm_refT (w := 2) (by omega) (by omega) (by omega) ?_
      refine br_t rfl ?_
      have e1 : nI (st_run dc).1 - 1 = nI ((st_run dc).1 - 1) := pk_sub (a := (st_run dc).1) (b := 1) (by omega)
      have e2 : nI (st_run dc).1 - 2 = nI ((st_run dc).1 - 2) := pk_sub (a := (st_run dc).1) (b := 2) (by omega)
      have es := sm_le2 (E := (st_run dc).2.1) (d := (st_run dc).1) (by omega)
      rw [e1, e2]
      refine xb_seq (by omega) (by omega) (by omega) (by omega) (hD6 _ (by omega)) (hD6 _ (by omega)) (fun sz' en' mv' f m => nm_r (nI_1 _) ?_)
      rw [e1]
      refine br_f (n_ne 16 a (by omega) (by decide)) (br_t (nI_le (a := 2) (by omega) (by omega)) (yn_note (by omega) (n_m1 (by omega)) ⟨rfl, ?_⟩))
      have hf : (st_run dc).1 - 2 = (st_run dc).1 - 1 - 1 := by omega
      refine ⟨dc ++ [5], pc, (st_run dc).1 - 1, st_sum (st_run dc).2.1 (st_run dc).1, n, lg, sz', en', mv', lo, re, _, pr, yl, co, op, by rw [len_s], by rw [len_s], by rw [sr_snoc, ss_bi (by omega) (by omega)], by rw [sr_snoc, ss_bi (by omega) (by omega)]; exact sm_bin (by omega), ?_, hP, M_fr (by omega) hM f, hL⟩
      rw [hf] at f m
      refine D_step hD ⟨by omega, fun _ _ => by omega, fun _ => by omega⟩ (by omega) (ss_bi (by omega) (by omega)) rfl (by omega) (by omega) (Nat.le_trans (Nat.le_of_eq (sm_bin (by omega))) hD4) ?_ ?_ (fun i hi => ⟨by omega, pt_n (by omega), pt_n (by omega)⟩) f m
      · rw [← hf]; exact pt_s
      · rw [← hf]; exact pt_s
theorem i_vc_choice {k : Nat} {u : SX} {v : SY} (I : i_Rel k u v) (hk : k + 2 ≤ 1024) : wpX_choice (fun r u' => wpY_choice (fun r' v' => r' = r ∧ i_Rel (k + 2) u' v') v) u := by
  have I0 := i_up I
  obtain ⟨dc, pc, d, s, n, lg, sz, en, mv, lo, re, dr, pr, yl, co, op, rfl, rfl, rfl, rfl, hD, hP, hM, hL⟩ := I
  have hD2 := hD.2.1
  have hD3 := hD.2.2.1
  have hD4 := hD.2.2.2.1
  have hD6 := hD.2.2.2.2.2
  unfold wpX_choice wpY_choice wpY_join
  dsimp only
  by_cases a : dc.length = 16
  · refine xm_ref16 a ?_
    exact br_f (by decide) (br_t (n_16 a) ⟨rfl, I0⟩)
  · by_cases b : (st_run dc).1 < 2
    · refine xm_refF (w := 2) (by omega) b (by omega) ?_
      exact br_f (by decide) (br_f (n_ne 16 a (by omega) (by decide)) (br_f (nI_ge (b := 2) b (by decide)) ⟨rfl, I0⟩))
    · refine xm_refT (w := 2) (by omega) (by omega) (by omega) ?_
      refine br_t rfl ?_
      have e1 : nI (st_run dc).1 - 1 = nI ((st_run dc).1 - 1) := pk_sub (a := (st_run dc).1) (b := 1) (by omega)
      have e2 : nI (st_run dc).1 - 2 = nI ((st_run dc).1 - 2) := pk_sub (a := (st_run dc).1) (b := 2) (by omega)
      have es := sm_le2 (E := (st_run dc).2.1) (d := (st_run dc).1) (by omega)
      rw [e1, e2]
      refine xb_cho (by omega) (by omega) (by omega) (by omega) (hD6 _ (by omega)) (hD6 _ (by omega)) (fun sz' en' mv' f m => nm_r (nI_1 _) ?_)
      rw [e1]
      refine br_f (n_ne 16 a (by omega) (by decide)) (br_t (nI_le (a := 2) (by omega) (by omega)) (yn_note (by omega) (n_m1 (by omega)) ⟨rfl, ?_⟩))
      have hf : (st_run dc).1 - 2 = (st_run dc).1 - 1 - 1 := by omega
      refine ⟨dc ++ [6], pc, (st_run dc).1 - 1, st_sum (st_run dc).2.1 (st_run dc).1, n, lg, sz', en', mv', lo, re, _, pr, yl, co, op, by rw [len_s], by rw [len_s], by rw [sr_snoc, ss_bi (by omega) (by omega)], by rw [sr_snoc, ss_bi (by omega) (by omega)]; exact sm_bin (by omega), ?_, hP, M_fr (by omega) hM f, hL⟩
      rw [hf] at f m
      refine D_step hD ⟨by omega, fun _ _ => by omega, fun _ => by omega⟩ (by omega) (ss_bi (by omega) (by omega)) rfl (by omega) (by omega) (Nat.le_trans (Nat.le_of_eq (sm_bin (by omega))) hD4) ?_ ?_ (fun i hi => ⟨by omega, pt_n (by omega), pt_n (by omega)⟩) f m
      · rw [← hf]; exact pt_s
      · rw [← hf]; exact pt_s
theorem i_vc_both {k : Nat} {u : SX} {v : SY} (I : i_Rel k u v) (hk : k + 2 ≤ 1024) : wpX_both (fun r u' => wpY_both (fun r' v' => r' = r ∧ i_Rel (k + 2) u' v') v) u := by
  have I0 := i_up I
  obtain ⟨dc, pc, d, s, n, lg, sz, en, mv, lo, re, dr, pr, yl, co, op, rfl, rfl, rfl, rfl, hD, hP, hM, hL⟩ := I
  have hD2 := hD.2.1
  have hD3 := hD.2.2.1
  have hD4 := hD.2.2.2.1
  have hD6 := hD.2.2.2.2.2
  unfold wpX_both wpY_both wpY_join
  dsimp only
  by_cases a : dc.length = 16
  · refine xm_ref16 a ?_
    exact br_f (by decide) (br_t (n_16 a) ⟨rfl, I0⟩)
  · by_cases b : (st_run dc).1 < 2
    · refine xm_refF (w := 2) (by omega) b (by omega) ?_
      exact br_f (by decide) (br_f (n_ne 16 a (by omega) (by decide)) (br_f (nI_ge (b := 2) b (by decide)) ⟨rfl, I0⟩))
    · refine xm_refT (w := 2) (by omega) (by omega) (by omega) ?_
      refine br_t rfl ?_
      have e1 : nI (st_run dc).1 - 1 = nI ((st_run dc).1 - 1) := pk_sub (a := (st_run dc).1) (b := 1) (by omega)
      have e2 : nI (st_run dc).1 - 2 = nI ((st_run dc).1 - 2) := pk_sub (a := (st_run dc).1) (b := 2) (by omega)
      have es := sm_le2 (E := (st_run dc).2.1) (d := (st_run dc).1) (by omega)
      rw [e1, e2]
      refine xb_both (by omega) (by omega) (by omega) (by omega) (hD6 _ (by omega)) (hD6 _ (by omega)) (fun sz' en' mv' f m => nm_r (nI_1 _) ?_)
      rw [e1]
      refine br_f (n_ne 16 a (by omega) (by decide)) (br_t (nI_le (a := 2) (by omega) (by omega)) (yn_note (by omega) (n_m1 (by omega)) ⟨rfl, ?_⟩))
      have hf : (st_run dc).1 - 2 = (st_run dc).1 - 1 - 1 := by omega
      refine ⟨dc ++ [7], pc, (st_run dc).1 - 1, st_sum (st_run dc).2.1 (st_run dc).1, n, lg, sz', en', mv', lo, re, _, pr, yl, co, op, by rw [len_s], by rw [len_s], by rw [sr_snoc, ss_bi (by omega) (by omega)], by rw [sr_snoc, ss_bi (by omega) (by omega)]; exact sm_bin (by omega), ?_, hP, M_fr (by omega) hM f, hL⟩
      rw [hf] at f m
      refine D_step hD ⟨by omega, fun _ _ => by omega, fun _ => by omega⟩ (by omega) (ss_bi (by omega) (by omega)) rfl (by omega) (by omega) (Nat.le_trans (Nat.le_of_eq (sm_bin (by omega))) hD4) ?_ ?_ (fun i hi => ⟨by omega, pt_n (by omega), pt_n (by omega)⟩) f m
      · rw [← hf]; exact pt_s
      · rw [← hf]; exact pt_s
theorem i_vc_loop {k : Nat} {u : SX} {v : SY} (I : i_Rel k u v) (hk : k + 2 ≤ 1024) : wpX_loop (fun r u' => wpY_loop (fun r' v' => r' = r ∧ i_Rel (k + 2) u' v') v) u := by
  have I0 := i_up I
  obtain ⟨dc, pc, d, s, n, lg, sz, en, mv, lo, re, dr, pr, yl, co, op, rfl, rfl, rfl, rfl, hD, hP, hM, hL⟩ := I
  have hD2 := hD.2.1
  have hD3 := hD.2.2.1
  have hD4 := hD.2.2.2.1
  have hD6 := hD.2.2.2.2.2
  unfold wpX_loop wpY_loop wpY_change
  dsimp only
  by_cases a : dc.length = 16
  · refine xm_ref16 a ?_
    exact br_f (by decide) (br_t (n_16 a) ⟨rfl, I0⟩)
  · by_cases b : (st_run dc).1 < 1
    · refine xm_refF (w := 1) (by omega) b (by omega) ?_
      exact br_f (by decide) (br_f (n_ne 16 a (by omega) (by decide)) (br_t (by rw [show (st_run dc).1 = 0 by omega]; rfl) ⟨rfl, I0⟩))
    · refine xm_refT (w := 1) (by omega) (by omega) (by omega) ?_
      refine br_t rfl ?_
      have e1 : nI (st_run dc).1 - 1 = nI ((st_run dc).1 - 1) := pk_sub (a := (st_run dc).1) (b := 1) (by omega)
      have es := sm_le (E := (st_run dc).2.1) (st_run dc).1 ((st_run dc).1 - 1) (by omega)
      rw [e1]
      refine xb_loop (by omega) (by omega) (hD6 _ (by omega)) (fun sz' en' mv' f m => nm_r (nI_1 _) ?_)
      refine br_f (n_ne 16 a (by omega) (by decide)) (br_f (n_ne 0 (by omega) (by omega) (by decide)) (yn_note (by omega) (Int32.add_zero _) ⟨rfl, ?_⟩))
      refine ⟨dc ++ [8], pc, (st_run dc).1, st_sum (st_run dc).2.1 (st_run dc).1, n, lg, sz', en', mv', lo, re, _, pr, yl, co, op, by rw [len_s], by rw [len_s], by rw [sr_snoc, ss_un (by omega)], by rw [sr_snoc, ss_un (by omega)], ?_, hP, M_fr (by omega) hM f, hL⟩
      exact D_step hD ⟨by omega, fun _ _ => by omega, fun _ => by omega⟩ (by omega) (ss_un (by omega)) rfl (by omega) (by omega) hD4 rfl pt_s (fun i hi => ⟨by omega, rfl, pt_n (Nat.ne_of_lt hi)⟩) f m
theorem i_vc_option {k : Nat} {u : SX} {v : SY} (I : i_Rel k u v) (hk : k + 2 ≤ 1024) : wpX_option (fun r u' => wpY_option (fun r' v' => r' = r ∧ i_Rel (k + 2) u' v') v) u := by
  have I0 := i_up I
  obtain ⟨dc, pc, d, s, n, lg, sz, en, mv, lo, re, dr, pr, yl, co, op, rfl, rfl, rfl, rfl, hD, hP, hM, hL⟩ := I
  have hD2 := hD.2.1
  have hD3 := hD.2.2.1
  have hD4 := hD.2.2.2.1
  have hD6 := hD.2.2.2.2.2
  unfold wpX_option wpY_option wpY_change
  dsimp only
  by_cases a : dc.length = 16
  · refine xm_ref16 a ?_
    exact br_f (by decide) (br_t (n_16 a) ⟨rfl, I0⟩)
  · by_cases b : (st_run dc).1 < 1
    · refine xm_refF (w := 1) (by omega) b (by omega) ?_
      exact br_f (by decide) (br_f (n_ne 16 a (by omega) (by decide)) (br_t (by rw [show (st_run dc).1 = 0 by omega]; rfl) ⟨rfl, I0⟩))
    · refine xm_refT (w := 1) (by omega) (by omega) (by omega) ?_
      refine br_t rfl ?_
      have e1 : nI (st_run dc).1 - 1 = nI ((st_run dc).1 - 1) := pk_sub (a := (st_run dc).1) (b := 1) (by omega)
      have es := sm_le (E := (st_run dc).2.1) (st_run dc).1 ((st_run dc).1 - 1) (by omega)
      rw [e1, z10c (by omega)]
      obtain ⟨f, m⟩ := xb_opt (hD6 ((st_run dc).1 - 1) (by omega))
      refine ⟨z10 (by omega), z10 (by omega), nm_e (nm_r (nI_1 _) ?_)⟩
      refine br_f (n_ne 16 a (by omega) (by decide)) (br_f (n_ne 0 (by omega) (by omega) (by decide)) (yn_note (by omega) (Int32.add_zero _) ⟨rfl, ?_⟩))
      refine ⟨dc ++ [9], pc, (st_run dc).1, st_sum (st_run dc).2.1 (st_run dc).1, n, lg, _, _, _, lo, re, _, pr, yl, co, op, by rw [len_s], by rw [len_s], by rw [sr_snoc, ss_un (by omega)], by rw [sr_snoc, ss_un (by omega)], ?_, hP, M_fr (by omega) hM f, hL⟩
      exact D_step hD ⟨by omega, fun _ _ => by omega, fun _ => by omega⟩ (by omega) (ss_un (by omega)) rfl (by omega) (by omega) hD4 rfl pt_s (fun i hi => ⟨by omega, rfl, pt_n (Nat.ne_of_lt hi)⟩) f m
