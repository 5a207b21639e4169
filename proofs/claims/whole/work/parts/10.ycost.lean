/-! Y's costs -/
section
variable {st dp ev si le : Int32} {dr pr lo co op_ : Nat → Int32}
theorem yi_e (q s : Nat) : (nI q * 256) + nI s = nI (q * 256 + s) := by
  rw [← nI_add, ← pk_mul]; rfl
theorem yi_i {q s : Nat} (hq : q < 16) (hs : s < 256) : vp_in (nI (q * 256 + s)) 4096 := vp_in_nI (by omega) (by decide)
theorem yi_c {q s : Nat} (hq : q < 16) (hs : s < 256) : (nI (q * 256 + s)).toNatClampNeg = q * 256 + s := nI_clamp (by omega)
theorem y_p8 {P : Nat} (h : P ≤ 8) : 2 ^ P ≤ 256 := Nat.pow_le_pow_right (n := 2) (by decide) h
theorem y_one {p : Nat} (h : p < 31) : (1 : Int32) <<< (nI p &&& 31) = nI (2 ^ p) := by
  have := pk_shlN (n := 1) (nI p &&& 31) p (s_l p (by omega)) (by rw [Nat.one_mul]; exact Nat.pow_lt_pow_right (by decide) (by omega))
  rw [Nat.one_mul] at this
  exact this
theorem y_mask {s p : Nat} (h : p < 31) : nI s &&& (((1 : Int32) <<< (nI p &&& 31)) - 1) = nI (s % 2 ^ p) := by
  rw [y_one h]
  have e : nI (2 ^ p) - 1 = nI (2 ^ p - 1) := pk_sub (a := 2 ^ p) (b := 1) (Nat.two_pow_pos p)
  rw [e, nx_and, Nat.and_two_pow_sub_one_eq_mod]
def yr_ (co : Nat → Int32) (q P B : Nat) (lg : Nat → Nat) (e : Nat) (L : pl_L) (f : Nat → Nat) (m : Nat) : Prop :=
  ∀ s, s < m → co (q * 256 + s) = nI (f s) ∧ ct_C e L B (sw_ lg s P) (f s)
theorem yw_sq28 {post : Int32 → Prop} {qx qy s P B e1 e2 : Nat} {A A' : pl_L} {lg cx cy : Nat → Nat} (hqx : qx < 16) (hqy : qy < 16) (hP : P ≤ 8) (hs : s < 2 ^ P)
    (rx : yr_ co qx P B lg e1 A cx (2 ^ P)) (ry : yr_ co qy P B lg e2 A' cy (2 ^ P))
    (h : ∀ r, r ≤ cx s + cy 0 → (∀ p, p ≤ P → cx (s % 2 ^ p) = 0 → r ≤ cy (s - s % 2 ^ p)) → (r = cx s + cy 0 ∨ ∃ p, p ≤ P ∧ cx (s % 2 ^ p) = 0 ∧ r = cy (s - s % 2 ^ p)) → post (nI r)) :
    ∀ d p, p + d = P + 1 → ∀ r, r ≤ 200 → r ≤ cx s + cy 0 → (∀ p', p' < p → cx (s % 2 ^ p') = 0 → r ≤ cy (s - s % 2 ^ p')) → (r = cx s + cy 0 ∨ ∃ p, p ≤ P ∧ cx (s % 2 ^ p) = 0 ∧ r = cy (s - s % 2 ^ p)) → wY_seqCost_28 post (nI qx) (nI qy) (nI s) (nI P) st dp ev si le dr pr lo co op_ (d + 1) (nI r) (nI p) := by
  have p8 := y_p8 hP
  intro d
  induction d with
  | zero =>
    intro p hp r hr l0 l1 a
    have : p = P + 1 := by omega
    subst this
    exact br_t (nI_lt (by omega) (by omega)) (h r l0 (fun p' hp' => l1 p' (by omega)) a)
  | succ d ih =>
    intro p hp r hr l0 l1 a
    refine br_f (nI_nlt (by omega) (by omega)) (nm_r (y_mask (by omega)) ?_)
    have hf : s % 2 ^ p ≤ s := Nat.mod_le _ _
    have hx := rx (s % 2 ^ p) (by omega)
    have hy := ry (s - s % 2 ^ p) (by omega)
    have x1 := hx.2.1
    have y1 := hy.2.1
    rw [pk_sub hf, yi_e, yi_e, yi_c hqx (by omega), yi_c hqy (by omega), hx.1, hy.1]
    refine ⟨yi_i hqx (by omega), ?_⟩
    refine pk_eq (cx (s % 2 ^ p)) 0 (fun ez => ⟨yi_i hqy (by omega), ?_⟩) (fun ez => ?_)
    · refine pk_le r (cy (s - s % 2 ^ p)) (fun q => ?_) (fun q => ⟨yi_i hqy (by omega), ?_⟩)
      · refine nm_r (nI_1 p) (ih (p + 1) (by omega) r hr l0 (fun p' hp' z => ?_) a)
        by_cases e : p' = p
        · subst e; exact q
        · exact l1 p' (by omega) z
      · refine nm_e (nm_r (nI_1 p) (ih (p + 1) (by omega) _ (by omega) (by omega) (fun p' hp' z => ?_) (Or.inr ⟨p, by omega, ez, rfl⟩)))
        by_cases e : p' = p
        · subst e; exact Nat.le_refl _
        · have := l1 p' (by omega) z; omega
    · refine nm_r (nI_1 p) (ih (p + 1) (by omega) r hr l0 (fun p' hp' z => ?_) a)
      by_cases e : p' = p
      · subst e; exact absurd z ez
      · exact l1 p' (by omega) z
theorem yw_sq {post : Int32 → Prop} {qx qy s P B e1 e2 : Nat} {A A' : pl_L} {lg cx cy : Nat → Nat} (hqx : qx < 16) (hqy : qy < 16) (hP : P ≤ 8) (hs : s < 2 ^ P) (he : e1 + e2 < 100)
    (rx : yr_ co qx P B lg e1 A cx (2 ^ P)) (ry : yr_ co qy P B lg e2 A' cy (2 ^ P))
    (h : ∀ r, r ≤ 200 → ct_C (e1 + e2) (la_seq A A') B (sw_ lg s P) (min r 100) → post (nI r)) :
    wpY_seqCost post (st, dp, ev, si, le, dr, pr, lo, co, op_) (nI qx) (nI qy) (nI s) (nI P) := by
  have p8 := y_p8 hP
  have hx := rx s hs
  have hy := ry 0 (Nat.two_pow_pos P)
  have x1 := hx.2.1
  have y1 := hy.2.1
  have e0 : nI qy * 256 = nI (qy * 256 + 0) := pk_mul qy 256
  unfold wpY_seqCost
  dsimp only
  rw [yi_e, e0]
  refine ⟨yi_i hqx (by omega), yi_i hqy (by omega), nm_r (e' := nI (cx s + cy 0)) (by rw [yi_c hqx (by omega), yi_c hqy (by omega), hx.1, hy.1, nI_add]) ⟨P + 1 + 1, ?_⟩⟩
  refine yw_sq28 hqx hqy hP hs rx ry (fun r l0 l1 a => ?_) (P + 1) 0 (by omega) _ (by omega) (Nat.le_refl _) (fun p hp => by omega) (Or.inl rfl)
  exact h r (by omega) (cc_seq he hs (fun s hs => (rx s hs).2) (fun s hs => (ry s hs).2) l0 l1 a)
theorem yw_ch {post : Int32 → Prop} {qx qy s P B e1 e2 : Nat} {A A' : pl_L} {lg cx cy : Nat → Nat} (hqx : qx < 16) (hqy : qy < 16) (hP : P ≤ 8) (hs : s < 2 ^ P)
    (rx : yr_ co qx P B lg e1 A cx (2 ^ P)) (ry : yr_ co qy P B lg e2 A' cy (2 ^ P))
    (h : ∀ r, r ≤ 200 → ct_C (e1 + e2) (la_cho A A') B (sw_ lg s P) (min r 100) → post (nI r)) :
    wpY_choiceCost post (st, dp, ev, si, le, dr, pr, lo, co, op_) (nI qx) (nI qy) (nI s) := by
  have p8 := y_p8 hP
  have hx := rx s hs
  have hy := ry s hs
  have x1 := hx.2.1
  have y1 := hy.2.1
  have C := cc_cho hx.2 hy.2
  unfold wpY_choiceCost
  dsimp only
  rw [yi_e, yi_e, yi_c hqx (by omega), yi_c hqy (by omega), hx.1, hy.1]
  refine ⟨yi_i hqx (by omega), yi_i hqy (by omega), ?_⟩
  refine pk_le (cy s) (cx s) (fun q => ⟨yi_i hqy (by omega), h _ (by omega) ?_⟩) (fun q => ⟨yi_i hqx (by omega), h _ (by omega) ?_⟩)
  · rw [show min (cy s) 100 = min (cx s) (cy s) by omega]; exact C
  · rw [show min (cx s) 100 = min (cx s) (cy s) by omega]; exact C
theorem yw_bo7 {post : Int32 → Prop} {qx qy s P B e1 e2 : Nat} {A A' : pl_L} {lg cx cy : Nat → Nat} (hqx : qx < 16) (hqy : qy < 16) (hP : P ≤ 8) (hs : s < 2 ^ P)
    (rx : yr_ co qx P B lg e1 A cx (2 ^ P)) (ry : yr_ co qy P B lg e2 A' cy (2 ^ P))
    (h : ∀ r, r ≤ 100 → (∀ a, sb_ a s → r ≤ cx a + cy (s - a)) → (r = 100 ∨ ∃ a, sb_ a s ∧ r = cx a + cy (s - a)) → post (nI r)) :
    ∀ d a, a + d = s + 1 → ∀ r, r ≤ 100 → (∀ a', a' < a → sb_ a' s → r ≤ cx a' + cy (s - a')) → (r = 100 ∨ ∃ a, sb_ a s ∧ r = cx a + cy (s - a)) → wY_bothCost_7 post (nI qx) (nI qy) (nI s) st dp ev si le dr pr lo co op_ (d + 1) (nI r) (nI a) := by
  have p8 := y_p8 hP
  intro d
  induction d with
  | zero =>
    intro a ha r hr l1 t
    have : a = s + 1 := by omega
    subst this
    exact br_t (nI_lt (by omega) (by omega)) (h r hr (fun a' h' => l1 a' (by have := sb_le h'; omega) h') t)
  | succ d ih =>
    intro a ha r hr l1 t
    refine br_f (nI_nlt (by omega) (by omega)) ?_
    rw [nx_and]
    refine pk_eq (a &&& s) a (fun ez => ?_) (fun ez => ?_) rfl rfl (Nat.lt_of_le_of_lt Nat.and_le_right (by omega))
    · have sb := sb_iff.mp ez
      have hx := rx a (by omega)
      have hy := ry (s - a) (by omega)
      have x1 := hx.2.1
      have y1 := hy.2.1
      rw [pk_sub (by omega), yi_e, yi_e, yi_c hqx (by omega), yi_c hqy (by omega), hx.1, hy.1]
      refine ⟨yi_i hqx (by omega), yi_i hqy (by omega), nm_r (nI_add _ _) ?_⟩
      refine pk_le r (cx a + cy (s - a)) (fun q => ?_) (fun q => ?_)
      · refine nm_r (nI_1 a) (ih (a + 1) (by omega) r hr (fun a' h' z => ?_) t)
        by_cases e : a' = a
        · subst e; exact q
        · exact l1 a' (by omega) z
      · refine nm_r (nI_1 a) (ih (a + 1) (by omega) _ (by omega) (fun a' h' z => ?_) (Or.inr ⟨a, sb, rfl⟩))
        by_cases e : a' = a
        · subst e; exact Nat.le_refl _
        · have := l1 a' (by omega) z; omega
    · refine nm_r (nI_1 a) (ih (a + 1) (by omega) r hr (fun a' h' z => ?_) t)
      by_cases e : a' = a
      · subst e; exact absurd (sb_iff.mpr z) ez
      · exact l1 a' (by omega) z
theorem yw_bo {post : Int32 → Prop} {qx qy s P B e1 e2 : Nat} {A A' : pl_L} {lg cx cy : Nat → Nat} (hqx : qx < 16) (hqy : qy < 16) (hP : P ≤ 8) (hs : s < 2 ^ P) (he : e1 + e2 < 100)
    (rx : yr_ co qx P B lg e1 A cx (2 ^ P)) (ry : yr_ co qy P B lg e2 A' cy (2 ^ P))
    (h : ∀ r, r ≤ 200 → ct_C (e1 + e2) (la_both A A') B (sw_ lg s P) (min r 100) → post (nI r)) :
    wpY_bothCost post (st, dp, ev, si, le, dr, pr, lo, co, op_) (nI qx) (nI qy) (nI s) := by
  refine ⟨s + 1 + 1, yw_bo7 (r := 100) hqx hqy hP hs rx ry (fun r l0 l1 a => ?_) (s + 1) 0 (by omega) (by omega) (fun a h => by omega) (Or.inl rfl)⟩
  exact h r (by omega) (cc_both he hs (fun s hs => (rx s hs).2) (fun s hs => (ry s hs).2) l1 a)
theorem yw_lo23 {post : Int32 → Prop} {qn qx s P B e1 : Nat} {A : pl_L} {lg cx cn : Nat → Nat} (hqn : qn < 16) (hqx : qx < 16) (hP : P ≤ 8) (hs : s < 2 ^ P)
    (rx : yr_ co qx P B lg e1 A cx (2 ^ P)) (rn : yr_ co qn P B lg e1 (la_loop A) cn s)
    (h : ∀ r, r ≤ cx s → (∀ p, p ≤ P → s % 2 ^ p ≠ 0 → s % 2 ^ p ≠ s → cx (s % 2 ^ p) = 0 → r ≤ cn (s - s % 2 ^ p)) → (r = cx s ∨ ∃ p, p ≤ P ∧ s % 2 ^ p ≠ 0 ∧ s % 2 ^ p ≠ s ∧ cx (s % 2 ^ p) = 0 ∧ r = cn (s - s % 2 ^ p)) → post (nI r)) :
    ∀ d p, p + d = P + 1 → ∀ r, r ≤ 200 → r ≤ cx s → (∀ p', p' < p → s % 2 ^ p' ≠ 0 → s % 2 ^ p' ≠ s → cx (s % 2 ^ p') = 0 → r ≤ cn (s - s % 2 ^ p')) → (r = cx s ∨ ∃ p, p ≤ P ∧ s % 2 ^ p ≠ 0 ∧ s % 2 ^ p ≠ s ∧ cx (s % 2 ^ p) = 0 ∧ r = cn (s - s % 2 ^ p)) → wY_loopCost_23 post (nI qn) (nI qx) (nI s) (nI P) st dp ev si le dr pr lo co op_ (d + 1) (nI r) (nI p) := by
  have p8 := y_p8 hP
  intro d
  induction d with
  | zero =>
    intro p hp r hr l0 l1 a
    have : p = P + 1 := by omega
    subst this
    exact br_t (nI_lt (by omega) (by omega)) (h r l0 (fun p' hp' => l1 p' (by omega)) a)
  | succ d ih =>
    intro p hp r hr l0 l1 a
    refine br_f (nI_nlt (by omega) (by omega)) (nm_r (y_mask (by omega)) ?_)
    have hf : s % 2 ^ p ≤ s := Nat.mod_le _ _
    have hx := rx (s % 2 ^ p) (by omega)
    have x1 := hx.2.1
    refine pk_eq (s % 2 ^ p) 0 (fun n0 => ?_) (fun n0 => ?_)
    · refine nm_r (nI_1 p) (ih (p + 1) (by omega) r hr l0 (fun p' hp' z1 z2 z3 => ?_) a)
      by_cases e : p' = p
      · subst e; exact absurd n0 z1
      · exact l1 p' (by omega) z1 z2 z3
    · refine pk_eq (s % 2 ^ p) s (fun n1 => ?_) (fun n1 => ?_)
      · refine nm_r (nI_1 p) (ih (p + 1) (by omega) r hr l0 (fun p' hp' z1 z2 z3 => ?_) a)
        by_cases e : p' = p
        · subst e; exact absurd n1 z2
        · exact l1 p' (by omega) z1 z2 z3
      · have hy := rn (s - s % 2 ^ p) (by omega)
        have y1 := hy.2.1
        rw [pk_sub hf, yi_e, yi_e, yi_c hqx (by omega), yi_c hqn (by omega), hx.1, hy.1]
        refine ⟨yi_i hqx (by omega), ?_⟩
        refine pk_eq (cx (s % 2 ^ p)) 0 (fun ez => ⟨yi_i hqn (by omega), ?_⟩) (fun ez => ?_)
        · refine pk_le r (cn (s - s % 2 ^ p)) (fun q => ?_) (fun q => ⟨yi_i hqn (by omega), ?_⟩)
          · refine nm_r (nI_1 p) (ih (p + 1) (by omega) r hr l0 (fun p' hp' z1 z2 z3 => ?_) a)
            by_cases e : p' = p
            · subst e; exact q
            · exact l1 p' (by omega) z1 z2 z3
          · refine nm_e (nm_r (nI_1 p) (ih (p + 1) (by omega) _ (by omega) (by omega) (fun p' hp' z1 z2 z3 => ?_) (Or.inr ⟨p, by omega, n0, n1, ez, rfl⟩)))
            by_cases e : p' = p
            · subst e; exact Nat.le_refl _
            · have := l1 p' (by omega) z1 z2 z3; omega
        · refine nm_r (nI_1 p) (ih (p + 1) (by omega) r hr l0 (fun p' hp' z1 z2 z3 => ?_) a)
          by_cases e : p' = p
          · subst e; exact absurd z3 ez
          · exact l1 p' (by omega) z1 z2 z3
theorem yw_lo {post : Int32 → Prop} {qn qx s P B e1 : Nat} {A : pl_L} {lg cx cn : Nat → Nat} (hqn : qn < 16) (hqx : qx < 16) (hP : P ≤ 8) (hs : s < 2 ^ P)
    (rx : yr_ co qx P B lg e1 A cx (2 ^ P)) (rn : yr_ co qn P B lg e1 (la_loop A) cn s)
    (h : ∀ r, r ≤ 200 → ct_C e1 (la_loop A) B (sw_ lg s P) (min r 100) → post (nI r)) :
    wpY_loopCost post (st, dp, ev, si, le, dr, pr, lo, co, op_) (nI qn) (nI qx) (nI s) (nI P) := by
  have p8 := y_p8 hP
  have hx := rx s hs
  have x1 := hx.2.1
  refine pk_eq s 0 (fun z => ?_) (fun z => ?_)
  · subst z
    refine h 0 (by omega) (C_z ?_)
    rw [(sw_nil_iff hs).mpr rfl]; exact lo_nil
  · rw [yi_e]
    refine ⟨yi_i hqx (by omega), nm_r (e' := nI (cx s)) (by rw [yi_c hqx (by omega), hx.1]) ⟨P + 1 + 1, ?_⟩⟩
    refine yw_lo23 hqn hqx hP hs rx rn (fun r l0 l1 a => ?_) (P + 1) 0 (by omega) _ (by omega) (Nat.le_refl _) (fun p hp => by omega) (Or.inl rfl)
    have C := cc_loop hs z (fun s hs => (rx s hs).2) (fun s hs => (rn s hs).2) l0 l1 a
    have := C.1
    exact h r (by omega) (by rw [show min r 100 = r by omega]; exact C)
theorem yw_ev24 {post : Int32 → Prop} {k s P : Nat} {lg : Nat → Nat} (hk : k < 4) (hP : P ≤ 8) (hs : s < 2 ^ P) (hl : ∀ i, i < P → lo i = nI (lg i) ∧ lg i < 4)
    (h1 : (∃ p, p < P ∧ s = 2 ^ p ∧ lg p = k) → post 0) (h0 : ¬ (∃ p, p < P ∧ s = 2 ^ p ∧ lg p = k) → post 100) :
    ∀ d p, p + d = P → (∀ p', p' < p → ¬ (s = 2 ^ p' ∧ lg p' = k)) → wY_eventCost_24 post (nI k) (nI s) (nI P) st dp ev si le dr pr lo co op_ (d + 1) (nI p) := by
  have p8 := y_p8 hP
  intro d
  induction d with
  | zero =>
    intro p hp no
    have : p = P := by omega
    subst this
    exact br_t (nI_le (Nat.le_refl _) (by omega)) (h0 (fun ⟨p', a, b⟩ => no p' a b))
  | succ d ih =>
    intro p hp no
    have pw : 2 ^ p ≤ 256 := y_p8 (by omega)
    refine br_f (nI_ge (by omega) (by omega)) ?_
    rw [y_one (by omega)]
    refine pk_eq s (2 ^ p) (fun e => ⟨vp_in_nI (by omega) (by decide), ?_⟩) (fun e => ?_)
    · have l := hl p (by omega)
      rw [nI_clamp (by omega), l.1]
      refine pk_eq (lg p) k (fun e2 => h1 ⟨p, by omega, e, e2⟩) (fun e2 => nm_r (nI_1 p) (ih (p + 1) (by omega) (fun p' h' z => ?_)))
      by_cases q : p' = p
      · subst q; exact e2 z.2
      · exact no p' (by omega) z
    · refine nm_r (nI_1 p) (ih (p + 1) (by omega) (fun p' h' z => ?_))
      by_cases q : p' = p
      · subst q; exact e z.1
      · exact no p' (by omega) z
theorem yw_bar {B k : Nat} (hB : B < 16) (hk : k < 4) : ((nI B >>> (nI k &&& 31)) &&& 1) = 1 ↔ B.testBit k = true := by
  rw [pk_shrN (by omega) (nI k &&& 31) k (s_l k (by omega)), pk_andN (k := 1) (Nat.lt_of_le_of_lt (Nat.div_le_self _ _) (by omega)) (by decide)]
  have := nI_eq (a := B / 2 ^ k % 2 ^ 1) (b := 1) (Nat.lt_of_lt_of_le (Nat.mod_lt _ (by decide)) (by decide)) (by decide)
  refine this.trans ?_
  rw [Nat.testBit_eq_decide_div_mod_eq, decide_eq_true_eq, Nat.pow_one]
theorem yw_ev {post : Int32 → Prop} {k s P B : Nat} {lg : Nat → Nat} (hk : k < 4) (hP : P ≤ 8) (hs : s < 2 ^ P) (hB : B < 16) (hl : ∀ i, i < P → lo i = nI (lg i) ∧ lg i < 4)
    (h : ∀ r, r ≤ 200 → ct_C 1 (la_ev k) B (sw_ lg s P) (min r 100) → post (nI r)) :
    wpY_eventCost post (st, dp, ev, si, le, dr, pr, lo, co, op_) (nI k) (nI s) (nI P) (nI B) := by
  have p8 := y_p8 hP
  refine pk_eq s 0 (fun z => ?_) (fun z => ⟨P + 1, ?_⟩)
  · subst z
    have e := (sw_nil_iff (lg := lg) hs).mpr rfl
    rw [yw_bar hB hk]
    refine br_c (fun q => h 100 (by omega) ?_) (fun q => h 1 (by omega) ?_)
    · rw [e]; exact cc_ev0 q
    · rw [e]; exact cc_ev1 hk (by rw [Bool.not_eq_true] at q; exact q)
  · refine yw_ev24 hk hP hs hl (fun q => h 0 (by omega) ?_) (fun q => h 100 (by omega) ?_) P 0 (by omega) (fun p hp => by omega)
    · obtain ⟨p, a, rfl, rfl⟩ := q
      rw [sw_pow P a]
      exact C_z rfl
    · refine cc_ev2 (fun e => z ((sw_nil_iff hs).mp e)) (fun e => q (sw_one P hs e))
end
