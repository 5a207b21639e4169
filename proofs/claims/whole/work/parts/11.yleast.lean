/-! Y's least -/
section
variable {st dp ev si le : Int32} {dr pr lo co op_ : Nat → Int32}
theorem yc_ev {post : Int32 → Prop} {n x y : Int32} {k s P B : Nat} {lg : Nat → Nat} (hk : k < 4) (hP : P ≤ 8) (hs : s < 2 ^ P) (hB : B < 16) (hl : ∀ i, i < P → lo i = nI (lg i) ∧ lg i < 4)
    (h : ∀ r, r ≤ 200 → ct_C 1 (la_ev k) B (sw_ lg s P) (min r 100) → post (nI r)) :
    wpY_costOf post (st, dp, ev, si, le, dr, pr, lo, co, op_) n (nI k) x y (nI s) (nI P) (nI B) :=
  br_f (nI_ge (b := 4) hk (by decide)) (yw_ev hk hP hs hB hl h)
theorem yc_sk {post : Int32 → Prop} {n x y : Int32} {s P B : Nat} {lg : Nat → Nat} (hP : P ≤ 8) (hs : s < 2 ^ P)
    (h : ∀ r, r ≤ 200 → ct_C 0 la_skip B (sw_ lg s P) (min r 100) → post (nI r)) :
    wpY_costOf post (st, dp, ev, si, le, dr, pr, lo, co, op_) n (nI 4) x y (nI s) (nI P) (nI B) := by
  have p8 := y_p8 hP
  refine br_t (nI_le (a := 4) (b := 4) (by omega) (by decide)) (br_t rfl (pk_eq s 0 (fun z => h 0 (by omega) (C_z ((sw_nil_iff hs).mpr z))) (fun z => h 100 (by omega) (cc_skip (fun e => z ((sw_nil_iff hs).mp e))))))
theorem yc_bi {post : Int32 → Prop} {n : Int32} {k qx qy s P B e1 e2 : Nat} {A A' : pl_L} {lg cx cy : Nat → Nat} (h5 : 5 ≤ k) (h8 : k < 8) (hqx : qx < 16) (hqy : qy < 16) (hP : P ≤ 8) (hs : s < 2 ^ P) (he : e1 + e2 < 100)
    (rx : yr_ co qx P B lg e1 A cx (2 ^ P)) (ry : yr_ co qy P B lg e2 A' cy (2 ^ P))
    (h : ∀ r, r ≤ 200 → ct_C (e1 + e2) (la_bin k A A') B (sw_ lg s P) (min r 100) → post (nI r)) :
    wpY_costOf post (st, dp, ev, si, le, dr, pr, lo, co, op_) n (nI k) (nI qx) (nI qy) (nI s) (nI P) (nI B) := by
  have q : k = 5 ∨ k = 6 ∨ k = 7 := by omega
  refine br_t (nI_le (a := 4) (b := k) (by omega) (by omega)) ?_
  rcases q with rfl | rfl | rfl
  · exact br_f (by decide) (br_t rfl (yw_sq hqx hqy hP hs he rx ry h))
  · exact br_f (by decide) (br_f (by decide) (br_t rfl (yw_ch hqx hqy hP hs rx ry h)))
  · exact br_f (by decide) (br_f (by decide) (br_f (by decide) (br_t rfl (yw_bo hqx hqy hP hs he rx ry h))))
theorem yc_un {post : Int32 → Prop} {x : Int32} {k qn qy s P B e1 : Nat} {A : pl_L} {lg cy cn : Nat → Nat} (h8 : 8 ≤ k) (h9 : k ≤ 9) (hqn : qn < 16) (hqy : qy < 16) (hP : P ≤ 8) (hs : s < 2 ^ P)
    (ry : yr_ co qy P B lg e1 A cy (2 ^ P)) (rn : yr_ co qn P B lg e1 (la_un k A) cn s)
    (h : ∀ r, r ≤ 200 → ct_C e1 (la_un k A) B (sw_ lg s P) (min r 100) → post (nI r)) :
    wpY_costOf post (st, dp, ev, si, le, dr, pr, lo, co, op_) (nI qn) (nI k) x (nI qy) (nI s) (nI P) (nI B) := by
  have p8 := y_p8 hP
  have q : k = 8 ∨ k = 9 := by omega
  refine br_t (nI_le (a := 4) (b := k) (by omega) (by omega)) ?_
  rcases q with rfl | rfl
  · exact br_f (by decide) (br_f (by decide) (br_f (by decide) (br_f (by decide) (br_t rfl (yw_lo hqn hqy hP hs ry rn h)))))
  · refine br_f (by decide) (br_f (by decide) (br_f (by decide) (br_f (by decide) (br_f (by decide) ?_))))
    have hy := ry s hs
    have y1 := hy.2.1
    refine pk_eq s 0 (fun z => h 0 (by omega) (C_z (Or.inl ((sw_nil_iff hs).mpr z)))) (fun z => ?_)
    rw [yi_e, yi_c hqy (by omega), hy.1]
    refine ⟨yi_i hqy (by omega), h _ (by omega) ?_⟩
    rw [show min (cy s) 100 = cy s by omega]
    exact cc_opt (fun e => z ((sw_nil_iff hs).mp e)) hy.2
theorem y_nar : ∀ r, r ≤ 100 → (nI r).toInt8.toInt32.toInt8.toInt32 = nI r := by decide +kernel
theorem yl_73 {post : Int32 → SY → Prop} {J : Int32 → Int32 → (Nat → Int32) → (Nat → Int32) → (Nat → Int32) → (Nat → Int32) → (Nat → Int32) → Prop} {P B node e' d' k : Nat} {L' : pl_L} {lg : Nat → Nat} {x3 x6 x7 : Int32} (hP : P ≤ 8) (hn : node < 16)
    (hd : (k < 5 ∧ x3 + 1 = nI d') ∨ (5 ≤ k ∧ k < 8 ∧ x3 - 1 = nI d') ∨ (8 ≤ k ∧ k ≤ 9 ∧ x3 = nI d'))
    (hc : ∀ s, s < 2 ^ P → ∀ co' f, (∀ j, j < node * 256 → co' j = co j) → yr_ co' node P B lg e' L' f s → ∀ post' : Int32 → Prop, (∀ r, r ≤ 200 → ct_C e' L' B (sw_ lg s P) (min r 100) → post' (nI r)) → wpY_costOf post' (st, dp, ev, si, le, dr, pr, lo, co', op_) (nI node) (nI k) x7 x6 (nI s) (nI P) (nI B))
    (he : ∀ co' f, (∀ j, j < node * 256 → co' j = co j) → yr_ co' node P B lg e' L' f (2 ^ P) → wY_least_160 post J (nI P) (nI B) (nI node) (nI d') st dp ev si le dr pr lo co' op_) :
    ∀ d s, s + d = 2 ^ P → ∀ co' f, (∀ j, j < node * 256 → co' j = co j) → yr_ co' node P B lg e' L' f s → wY_least_73 post J (nI P) (nI B) x3 (nI node) (nI k) x6 x7 st dp ev si le (d + 1) (nI s) dr pr lo co' op_ := by
  have p8 := y_p8 hP
  have e1 : (1 : Int32) <<< (nI P &&& 31) = nI (2 ^ P) := y_one (by omega)
  intro d
  induction d with
  | zero =>
    intro s hs co' f fr yr
    have : s = 2 ^ P := by omega
    subst this
    refine br_t (by rw [e1]; exact nI_le (Nat.le_refl _) (by omega)) ?_
    have E := he co' f fr yr
    rcases hd with ⟨a, b⟩ | ⟨a, b, c⟩ | ⟨a, b, c⟩
    · rw [b]; exact br_f (nI_ge (b := 5) a (by decide)) E
    · rw [c]; exact br_t (nI_le (a := 5) a (by omega)) (br_f (nI_ge (b := 8) b (by decide)) E)
    · rw [c]; exact br_t (nI_le (a := 5) (by omega) (by omega)) (br_t (nI_le (a := 8) a (by omega)) E)
  | succ d ih =>
    intro s hs co' f fr yr
    have hs' : s < 2 ^ P := by omega
    refine br_f (by rw [e1]; exact nI_ge (by omega) (by omega)) ?_
    have nx : ∀ c, ct_C e' L' B (sw_ lg s P) c → wY_least_73 post J (nI P) (nI B) x3 (nI node) (nI k) x6 x7 st dp ev si le (d + 1) (nI (s + 1)) dr pr lo (upd co' (node * 256 + s) (nI c)) op_ := by
      intro c C
      refine ih (s + 1) (by omega) _ (st_put f s c) (fun j hj => by rw [pk_un (by omega)]; exact fr j hj) ?_
      intro t ht
      by_cases e : t = s
      · subst e
        rw [pk_us, pt_s]; exact ⟨rfl, C⟩
      · rw [pk_un (by omega), pt_n e]; exact yr t (by omega)
    refine hc s hs' co' f fr yr _ (fun r hr C => ?_)
    rw [yi_e, yi_c hn (by omega), vp_nar_byte, vp_nar_byte]
    refine pk_le 100 r (fun q => ⟨yi_i hn (by omega), ?_⟩) (fun q => ⟨yi_i hn (by omega), ?_⟩)
    · rw [show min r 100 = 100 by omega] at C
      refine nm_r (e' := upd co' (node * 256 + s) (nI 100)) (by rw [show (100 : Int32).toInt8.toInt32.toInt8.toInt32 = nI 100 from y_nar 100 (by omega)]) (nm_r (nI_1 s) (nx 100 C))
    · rw [show min r 100 = r by omega] at C
      refine nm_r (e' := upd co' (node * 256 + s) (nI r)) (by rw [y_nar r (by omega)]) (nm_r (nI_1 s) (nx r C))
theorem yl_160 {post : Int32 → SY → Prop} {J : Int32 → Int32 → (Nat → Int32) → (Nat → Int32) → (Nat → Int32) → (Nat → Int32) → (Nat → Int32) → Prop} {x1 x2 : Int32} {node d' : Nat} (h0 : 0 < d') (h1 : d' ≤ 16)
    (h : J (nI d') (nI (node + 1)) dr pr lo co (upd op_ (d' - 1) (nI node))) : wY_least_160 post J x1 x2 (nI node) (nI d') st dp ev si le dr pr lo co op_ := by
  have e : nI d' - 1 = nI (d' - 1) := pk_sub (a := d') (b := 1) (by omega)
  unfold wY_least_160
  rw [e]
  exact ⟨vp_in_nI (by omega) (by decide), nm_r (e' := upd op_ (d' - 1) (nI node)) (by rw [nI_clamp (by omega)]) (nm_r (nI_1 node) h)⟩
def yI_ (P B : Nat) (lg : Nat → Nat) (g : st_T) (node : Nat) (co opn : Nat → Int32) : Prop :=
  (∀ i, i < g.1 → ∃ q f, q < node ∧ opn i = nI q ∧ yr_ co q P B lg (g.2.1 i) (g.2.2 i) f (2 ^ P)) ∧ (0 < node → 0 < g.1 ∧ opn (g.1 - 1) = nI (node - 1))
theorem yI_s {P B : Nat} {lg : Nat → Nat} {g g' : st_T} {node e' : Nat} {L' : pl_L} {f : Nat → Nat} {co' opn : Nat → Int32} (hP : P ≤ 8) (h : yI_ P B lg g node co opn) (fr : ∀ j, j < node * 256 → co' j = co j) (yr : yr_ co' node P B lg e' L' f (2 ^ P))
    (hd : 0 < g'.1) (h1 : g'.2.1 (g'.1 - 1) = e') (h2 : g'.2.2 (g'.1 - 1) = L') (h3 : ∀ i, i < g'.1 - 1 → i < g.1 ∧ g'.2.1 i = g.2.1 i ∧ g'.2.2 i = g.2.2 i) : yI_ P B lg g' (node + 1) co' (upd opn (g'.1 - 1) (nI node)) := by
  have p8 := y_p8 hP
  refine ⟨fun i hi => ?_, fun _ => ⟨hd, pk_us⟩⟩
  by_cases e : i = g'.1 - 1
  · subst e
    refine ⟨node, f, by omega, pk_us, ?_⟩
    rw [h1, h2]; exact yr
  · obtain ⟨a, b, c⟩ := h3 i (by omega)
    obtain ⟨q, f', h4, h5, h6⟩ := h.1 i a
    refine ⟨q, f', by omega, by rw [pk_un e, h5], ?_⟩
    intro s hs
    rw [fr _ (by omega), b, c]
    exact h6 s hs
theorem yl_5 {post : Int32 → SY → Prop} {P B : Nat} {lg : Nat → Nat} {pc : List Nat} (hP : P ≤ 8) (hB : B < 16) (hl : ∀ i, i < P → lo i = nI (lg i) ∧ lg i < 4) (ok : st_ok pc) (h0 : 0 < pc.length) (h16 : pc.length ≤ 16) (hpr : ∀ i, i < pc.length → pr i = nI (pc.getD i 0)) (h1 : (st_run pc).1 = 1)
    (h : ∀ c co' op', ct_C ((st_run pc).2.1 0) ((st_run pc).2.2 0) B (wd_ lg P) c → post (nI c) (st, dp, ev, nI pc.length, le, dr, pr, lo, co', op')) :
    ∀ d node, node + d = pc.length → ∀ co op_, yI_ P B lg (st_run (pc.take node)) node co op_ → wY_least_5 post (nI P) (nI B) st dp ev (nI pc.length) le (d + 1) (nI (st_run (pc.take node)).1) (nI node) dr pr lo co op_ := by
  have p8 := y_p8 hP
  intro d
  induction d with
  | zero =>
    intro node hn co op_ I
    have e : node = pc.length := by omega
    subst e
    rw [List.take_length] at I ⊢
    refine br_t (nI_le (Nat.le_refl _) (by omega)) ?_
    obtain ⟨I1, I2⟩ := I
    have I2 := (I2 h0).2
    rw [h1] at I1 I2
    obtain ⟨q, f, a, b, r⟩ := I1 0 (by omega)
    have eq : q = pc.length - 1 := by
      have := b.symm.trans I2
      exact (nI_eq (by omega) (by omega)).mp this
    have pp := Nat.two_pow_pos P
    have ei : (((nI pc.length - 1) * 256) + ((1 : Int32) <<< (nI P &&& 31))) - 1 = nI ((pc.length - 1) * 256 + (2 ^ P - 1)) := by
      have e1 : nI pc.length - 1 = nI (pc.length - 1) := pk_sub (a := pc.length) (b := 1) (by omega)
      rw [e1, y_one (by omega), yi_e]
      have e2 : nI ((pc.length - 1) * 256 + 2 ^ P) - 1 = nI ((pc.length - 1) * 256 + 2 ^ P - 1) := pk_sub (a := (pc.length - 1) * 256 + 2 ^ P) (b := 1) (by omega)
      rw [e2, show (pc.length - 1) * 256 + 2 ^ P - 1 = (pc.length - 1) * 256 + (2 ^ P - 1) by omega]
    have R := r (2 ^ P - 1) (by omega)
    rw [ei, yi_c (by omega) (by omega)]
    refine ⟨yi_i (by omega) (by omega), ?_⟩
    subst eq
    rw [R.1]
    refine h _ _ _ ?_
    have R2 := R.2
    rw [sw_full P (Nat.le_refl _)] at R2
    exact R2
  | succ d ih =>
    intro node hn co op_ I
    have hn' : node < pc.length := by omega
    have n16 : node < 16 := by omega
    have IH := ih (node + 1) (by omega)
    rw [tk_s hn', sr_snoc] at IH
    have V := ok node hn'
    have Bd := sr_bound ok node (by omega)
    have Hp := hpr node hn'
    generalize st_run (pc.take node) = g at *
    generalize pc.getD node 0 = k at *
    obtain ⟨v1, v2, v3⟩ := V
    refine br_f (nI_ge (by omega) (by omega)) ⟨vp_in_nI n16 (by decide), nm_r (e' := nI k) (by rw [nI_clamp (by omega), Hp]) ?_⟩
    by_cases c4 : k ≤ 4
    · refine br_t (nI_le (b := 4) c4 (by decide)) (br_t (nI_le (b := 4) c4 (by decide)) ⟨2 ^ P + 1, ?_⟩)
      by_cases e4 : k = 4
      · subst e4
        rw [ss_sk] at IH
        refine yl_73 (e' := 0) (L' := la_skip) (d' := g.1 + 1) (lg := lg) (co := co) hP n16 (Or.inl ⟨by omega, nI_1 _⟩) (fun s hs co' f fr yr post' h' => yc_sk hP hs h') (fun co' f fr yr => ?_) (2 ^ P) 0 (by omega) co (fun _ => 0) (fun _ _ => rfl) (fun s hs => by omega)
        exact yl_160 (by omega) (by omega) (IH _ _ (yI_s hP I fr yr (by show 0 < g.1 + 1; omega) pt_s pt_s (fun i hi => ⟨hi, pt_n (Nat.ne_of_lt hi), pt_n (Nat.ne_of_lt hi)⟩)))
      · rw [ss_ev (by omega)] at IH
        refine yl_73 (e' := 1) (L' := la_ev k) (d' := g.1 + 1) (lg := lg) (co := co) hP n16 (Or.inl ⟨by omega, nI_1 _⟩) (fun s hs co' f fr yr post' h' => yc_ev (by omega) hP hs hB hl h') (fun co' f fr yr => ?_) (2 ^ P) 0 (by omega) co (fun _ => 0) (fun _ _ => rfl) (fun s hs => by omega)
        exact yl_160 (by omega) (by omega) (IH _ _ (yI_s hP I fr yr (by show 0 < g.1 + 1; omega) pt_s pt_s (fun i hi => ⟨hi, pt_n (Nat.ne_of_lt hi), pt_n (Nat.ne_of_lt hi)⟩)))
    · have n4 : ¬ nI k ≤ 4 := nI_ge (a := 4) (b := k) (by omega) (by omega)
      have pd : 1 ≤ g.1 := by
        by_cases c8 : k < 8
        · have := v2 (by omega) c8; omega
        · exact v3 (by omega)
      have ed1 : nI g.1 - 1 = nI (g.1 - 1) := pk_sub (a := g.1) (b := 1) (by omega)
      refine br_f n4 ?_
      rw [ed1, nI_clamp (by omega)]
      obtain ⟨qy, fy, ly, oy, ry⟩ := I.1 (g.1 - 1) (by omega)
      rw [oy]
      refine ⟨vp_in_nI (by omega) (by decide), br_f n4 ?_⟩
      have keep : ∀ co' : Nat → Int32, (∀ j, j < node * 256 → co' j = co j) → ∀ {q e L f}, q < node → yr_ co q P B lg e L f (2 ^ P) → yr_ co' q P B lg e L f (2 ^ P) := by
        intro co' fr q e L f hq r s hs
        rw [fr _ (by omega)]; exact r s hs
      by_cases c8 : k < 8
      · have d2 := v2 (by omega) c8
        have ed2 : nI g.1 - 2 = nI (g.1 - 2) := pk_sub (a := g.1) (b := 2) (by omega)
        obtain ⟨qx, fx, lx, ox, rx⟩ := I.1 (g.1 - 2) (by omega)
        refine br_f (nI_ge (b := 8) c8 (by decide)) ?_
        rw [ed2, nI_clamp (by omega), ox]
        refine ⟨vp_in_nI (by omega) (by decide), nm_e ⟨2 ^ P + 1, ?_⟩⟩
        rw [ss_bi (by omega) c8] at IH
        have es := sm_le2 (E := g.2.1) d2
        refine yl_73 (e' := g.2.1 (g.1 - 2) + g.2.1 (g.1 - 1)) (L' := la_bin k (g.2.2 (g.1 - 2)) (g.2.2 (g.1 - 1))) (d' := g.1 - 1) (lg := lg) (co := co) hP n16 (Or.inr (Or.inl ⟨by omega, c8, ed1⟩)) (fun s hs co' f fr yr post' h' => yc_bi (by omega) c8 (by omega) (by omega) hP hs (by omega) (keep co' fr lx rx) (keep co' fr ly ry) h') (fun co' f fr yr => ?_) (2 ^ P) 0 (by omega) co (fun _ => 0) (fun _ _ => rfl) (fun s hs => by omega)
        refine yl_160 (by omega) (by omega) (IH _ _ (yI_s hP I fr yr (by show 0 < g.1 - 1; omega) ?_ ?_ (fun i hi => ?_)))
        · show st_put _ (g.1 - 2) _ (g.1 - 1 - 1) = _
          rw [show g.1 - 1 - 1 = g.1 - 2 by omega, pt_s]
        · show st_put _ (g.1 - 2) _ (g.1 - 1 - 1) = _
          rw [show g.1 - 1 - 1 = g.1 - 2 by omega, pt_s]
        · have hi : i < g.1 - 1 - 1 := hi
          exact ⟨by omega, pt_n (by omega), pt_n (by omega)⟩
      · refine br_t (nI_le (a := 8) (by omega) (by omega)) ⟨2 ^ P + 1, ?_⟩
        rw [ss_un (by omega)] at IH
        refine yl_73 (e' := g.2.1 (g.1 - 1)) (L' := la_un k (g.2.2 (g.1 - 1))) (d' := g.1) (lg := lg) (co := co) hP n16 (Or.inr (Or.inr ⟨by omega, v1, rfl⟩)) (fun s hs co' f fr yr post' h' => yc_un (by omega) v1 n16 (by omega) hP hs (keep co' fr ly ry) yr h') (fun co' f fr yr => ?_) (2 ^ P) 0 (by omega) co (fun _ => 0) (fun _ _ => rfl) (fun s hs => by omega)
        refine yl_160 (by omega) (by omega) (IH _ _ (yI_s hP I fr yr (by show 0 < g.1; omega) rfl pt_s (fun i hi => ?_)))
        have hi : i < g.1 - 1 := hi
        exact ⟨by omega, rfl, pt_n (by omega)⟩
theorem yl_least {post : Int32 → SY → Prop} {P B : Nat} {lg : Nat → Nat} {pc : List Nat} (hP : P ≤ 8) (hB : B < 16) (hl : ∀ i, i < P → lo i = nI (lg i) ∧ lg i < 4) (ok : st_ok pc) (h0 : 0 < pc.length) (h16 : pc.length ≤ 16) (hpr : ∀ i, i < pc.length → pr i = nI (pc.getD i 0)) (h1 : (st_run pc).1 = 1)
    (h : ∀ c co' op', ct_C ((st_run pc).2.1 0) ((st_run pc).2.2 0) B (wd_ lg P) c → post (nI c) (st, dp, ev, nI pc.length, le, dr, pr, lo, co', op')) :
    wpY_least post (st, dp, ev, nI pc.length, le, dr, pr, lo, co, op_) (nI P) (nI B) :=
  ⟨pc.length + 1, yl_5 hP hB hl ok h0 h16 hpr h1 h pc.length 0 (by omega) co op_ ⟨fun i hi => absurd hi (by rw [List.take_zero]; exact Nat.not_lt_zero i), fun z => by omega⟩⟩
end
