section
theorem pk_us {f : Nat → Int32} {k : Nat} {x : Int32} : upd f k x k = x := if_pos rfl
theorem pk_un {f : Nat → Int32} {k j : Nat} {x : Int32} (h : j ≠ k) : upd f k x j = f j := if_neg h
theorem pk_uLs {f : Nat → Int64} {k : Nat} {x : Int64} : vp_updL f k x k = x := if_pos rfl
theorem pk_uLn {f : Nat → Int64} {k j : Nat} {x : Int64} (h : j ≠ k) : vp_updL f k x j = f j := if_neg h
theorem pk_sub {a b : Nat} (h : b ≤ a) : nI a - nI b = nI (a - b) := by
  obtain ⟨c, rfl⟩ : ∃ c, a = c + b := ⟨a - b, by omega⟩
  rw [← nI_add, Int32.add_sub_cancel, Nat.add_sub_cancel]
theorem pk_m1 (n : Nat) : nI (n + 1) + (-1) = nI n := by
  rw [← nI_1, Int32.add_assoc, show (1 : Int32) + (-1) = 0 from rfl, Int32.add_zero]
theorem pk_mul (a b : Nat) : nI a * nI b = nI (a * b) := (Int32.ofNat_mul a b).symm
theorem pk_ix (x : Int32) {n : Nat} (hn : n < 2 ^ 31) : x < 0 ∨ nI n ≤ x ∨ ∃ j : Nat, j < n ∧ x = nI j := by
  by_cases h : x < 0
  · exact Or.inl h
  · obtain ⟨j, hj, rfl⟩ := nI_of h
    by_cases h2 : j < n
    · exact Or.inr (Or.inr ⟨j, h2, rfl⟩)
    · exact Or.inr (Or.inl (nI_le (by omega) hj))
theorem pk_le {x y : Int32} {A B : Prop} (a b : Nat) (f : a ≤ b → A) (g : b < a → B) (hx : x = nI a := by rfl) (hy : y = nI b := by rfl) (ha : a < 2 ^ 31 := by omega) (hb : b < 2 ^ 31 := by omega) : (x ≤ y → A) ∧ (¬ x ≤ y → B) := by
  subst hx hy
  rw [nI_leI ha hb]
  exact ⟨f, fun z => g (by omega)⟩
theorem pk_lt {x y : Int32} {A B : Prop} (a b : Nat) (f : a < b → A) (g : b ≤ a → B) (hx : x = nI a := by rfl) (hy : y = nI b := by rfl) (ha : a < 2 ^ 31 := by omega) (hb : b < 2 ^ 31 := by omega) : (x < y → A) ∧ (¬ x < y → B) := by
  subst hx hy
  rw [nI_ltI ha hb]
  exact ⟨f, fun z => g (by omega)⟩
theorem pk_eq {x y : Int32} {A B : Prop} (a b : Nat) (f : a = b → A) (g : a ≠ b → B) (hx : x = nI a := by rfl) (hy : y = nI b := by rfl) (ha : a < 2 ^ 31 := by omega) (hb : b < 2 ^ 31 := by omega) : (x = y → A) ∧ (¬ x = y → B) := by
  subst hx hy
  rw [nI_eq ha hb]
  exact ⟨f, g⟩
theorem pk_in {x : Int32} (n N : Nat) (h : n < N) (hx : x = nI n := by rfl) (hN : N < 2 ^ 31 := by omega) : vp_in x N := by
  subst hx
  exact vp_in_nI h hN
theorem pk_cl {x : Int32} (n : Nat) (hx : x = nI n := by rfl) (h : n < 2 ^ 31 := by omega) : x.toNatClampNeg = n := by
  subst hx
  exact nI_clamp h
theorem pk_tn {n : Nat} (h : n < 2 ^ 32) : (nI n).toBitVec.toNat = n := Nat.mod_eq_of_lt h
theorem pk_and (x : Int32) {m : Int32} (k : Nat) (hm : m.toBitVec.toNat = 2 ^ k - 1) : x &&& m = nI (x.toBitVec.toNat % 2 ^ k) := by
  apply Int32.toBitVec_inj.mp
  apply BitVec.eq_of_toNat_eq
  rw [Int32.toBitVec_and, BitVec.toNat_and, hm, Nat.and_two_pow_sub_one_eq_mod]
  show _ = (BitVec.ofNat 32 _).toNat
  rw [BitVec.toNat_ofNat]
  exact (Nat.mod_eq_of_lt (Nat.lt_of_le_of_lt (Nat.mod_le _ _) x.toBitVec.isLt)).symm
theorem pk_andN {n : Nat} (h : n < 2 ^ 32) {m : Int32} (k : Nat) (hm : m.toBitVec.toNat = 2 ^ k - 1) : nI n &&& m = nI (n % 2 ^ k) := by
  rw [pk_and _ k hm, pk_tn h]
theorem pk_shl (a s : Int32) (k : Nat) (hs : (s.toBitVec.smod 32).toNat = k) : (a <<< s).toBitVec.toNat = a.toBitVec.toNat * 2 ^ k % 2 ^ 32 := by
  show (a.toBitVec <<< (s.toBitVec.smod 32).toNat).toNat = _
  rw [hs, BitVec.toNat_shiftLeft, Nat.shiftLeft_eq]
theorem pk_shlN {n : Nat} (s : Int32) (k : Nat) (hs : (s.toBitVec.smod 32).toNat = k) (h : n * 2 ^ k < 2 ^ 32) : nI n <<< s = nI (n * 2 ^ k) := by
  apply Int32.toBitVec_inj.mp
  apply BitVec.eq_of_toNat_eq
  have hn : n < 2 ^ 32 := Nat.lt_of_le_of_lt (Nat.le_mul_of_pos_right n (Nat.two_pow_pos k)) h
  rw [pk_shl _ _ k hs, pk_tn hn, pk_tn h, Nat.mod_eq_of_lt h]
theorem pk_shr (a s : Int32) (k : Nat) (hs : (s.toBitVec.smod 32).toNat = k) : (a >>> s).toInt = a.toInt >>> k := by
  show (a.toBitVec.sshiftRight (s.toBitVec.smod 32).toNat).toInt = _
  rw [hs, BitVec.toInt_sshiftRight]
  rfl
theorem pk_shrN {n : Nat} (h : n < 2 ^ 31) (s : Int32) (k : Nat) (hs : (s.toBitVec.smod 32).toNat = k) : nI n >>> s = nI (n / 2 ^ k) := by
  apply Int32.toInt_inj.mp
  have h2 : n / 2 ^ k ≤ n := Nat.div_le_self _ _
  rw [pk_shr _ _ k hs, nI_toInt h, nI_toInt (by omega), Int.shiftRight_eq_div_pow]
  rfl
theorem pk_vb (z : Int32) : vp_nar .byte z.toInt8.toInt32 = z.toInt8.toInt32 := by rw [vp_nar_byte]; simp
theorem pk_least (P : Nat → Prop) (h : ∃ k, P k) : ∃ k, P k ∧ ∀ j, j < k → ¬ P j := by
  obtain ⟨k, hk⟩ := h
  induction k using Nat.strongRecOn with
  | ind k ih =>
    by_cases e : ∃ j, j < k ∧ P j
    · obtain ⟨j, hj, pj⟩ := e
      exact ih j hj pj
    · exact ⟨k, hk, fun j hj pj => e ⟨j, hj, pj⟩⟩
theorem s_l : ∀ n, n < 32 → ((nI n &&& 31).toBitVec.smod 32).toNat = n := by decide +kernel
theorem nx_and (a b : Nat) : nI a &&& nI b = nI (a &&& b) := by
  apply Int32.toBitVec_inj.1
  show BitVec.ofNat 32 a &&& BitVec.ofNat 32 b = BitVec.ofNat 32 (a &&& b)
  apply BitVec.eq_of_getLsbD_eq
  intro i hi
  simp [hi]
theorem ts_nf {x : Bool} (h : ¬ x = false) : x = true := by cases x <;> first | rfl | exact absurd rfl h
theorem ts_nt {x : Bool} (h : ¬ x = true) : x = false := by cases x <;> first | rfl | exact absurd rfl h
theorem ts_bit {w : Int64} {s : UInt64} {j : Nat} (hj : j < 64) (hs : s.toNat = j) : ((w.toUInt64 >>> s).toInt64 &&& 1) = 0 ↔ w.toBitVec.getLsbD j = false := by
  have e : (w.toUInt64 >>> s).toInt64.toBitVec = w.toBitVec >>> j := by
    apply BitVec.eq_of_toNat_eq
    show (w.toUInt64 >>> s).toNat = _
    rw [UInt64.toNat_shiftRight, hs, Nat.mod_eq_of_lt hj, BitVec.toNat_ushiftRight]
    rfl
  rw [← Int64.toBitVec_inj, Int64.toBitVec_and, e]
  show w.toBitVec >>> j &&& 1#64 = 0#64 ↔ _
  constructor
  · intro h
    have t := congrArg (fun x => x.getLsbD 0) h
    simpa using t
  · intro h
    apply BitVec.eq_of_getLsbD_eq
    intro i hi
    cases i with
    | zero => simp [h]
    | succ i => simp
theorem wb_tb (n : Nat) : (lN n).toBitVec = BitVec.ofNat 64 n := rfl
theorem wb_inj {a b : Int64} (h : a.toBitVec = b.toBitVec) : a = b := Int64.toBitVec_inj.mp h
theorem wb_tn {n : Nat} (h : n < 2 ^ 64) : (lN n).toBitVec.toNat = n := by rw [wb_tb, BitVec.toNat_ofNat, Nat.mod_eq_of_lt h]
theorem wb_c : ∀ k, k < 64 → ((nI k).toInt64 &&& 63) = lN k := by decide +kernel
theorem wb_cu : ∀ k, k < 64 → ((nI k).toInt64.toUInt64 &&& Int64.toUInt64 63) = UInt64.ofNat k := by decide +kernel
theorem wb_sm : ∀ k, k < 64 → (BitVec.ofNat 64 k).smod 64 = BitVec.ofNat 64 k := by decide +kernel
/-! the bits of a long as a set of states -/
def mb_ (x : Int64) (i : Nat) : Prop := x.toBitVec.getLsbD i = true
theorem mb_or (x y : Int64) (i : Nat) : mb_ (x ||| y) i ↔ mb_ x i ∨ mb_ y i := by
  unfold mb_; rw [Int64.toBitVec_or, BitVec.getLsbD_or, Bool.or_eq_true]
theorem mb_and (x y : Int64) (i : Nat) : mb_ (x &&& y) i ↔ mb_ x i ∧ mb_ y i := by
  unfold mb_; rw [Int64.toBitVec_and, BitVec.getLsbD_and, Bool.and_eq_true]
theorem mb_big {x : Int64} {i : Nat} (h : mb_ x i) : i < 64 := by
  rcases Nat.lt_or_ge i 64 with g | g
  · exact g
  · unfold mb_ at h; rw [BitVec.getLsbD_of_ge _ _ g] at h; exact absurd h (by decide)
theorem mb_0 (i : Nat) : ¬ mb_ 0 i := by
  unfold mb_
  rw [show (0 : Int64).toBitVec = 0#64 from rfl, BitVec.getLsbD_zero]; decide
theorem mb_ext {x y : Int64} (h : ∀ i, mb_ x i ↔ mb_ y i) : x = y := by
  apply Int64.toBitVec_inj.mp
  apply BitVec.eq_of_getLsbD_eq
  intro i _
  have := h i
  unfold mb_ at this
  exact Bool.eq_iff_iff.mpr this
theorem mb_z {x : Int64} : x = 0 ↔ ∀ i, ¬ mb_ x i := by
  constructor
  · intro h i; rw [h]; exact mb_0 i
  · intro h; exact mb_ext (fun i => ⟨fun a => absurd a (h i), fun a => absurd a (mb_0 i)⟩)
theorem mb_nz {x : Int64} : ¬ x = 0 ↔ ∃ i, mb_ x i := by
  rw [mb_z]
  constructor
  · intro h
    exact Classical.byContradiction fun g => h fun i hi => g ⟨i, hi⟩
  · rintro ⟨i, hi⟩ h
    exact h i hi
theorem mb_1 (i : Nat) : mb_ 1 i ↔ i = 0 := by
  constructor
  · intro h
    have g := mb_big h
    unfold mb_ at h
    exact (by decide +kernel : ∀ i, i < 64 → (1 : Int64).toBitVec.getLsbD i = true → i = 0) i g h
  · rintro rfl; unfold mb_; decide +kernel
theorem mb_2 (i : Nat) : mb_ 2 i ↔ i = 1 := by
  constructor
  · intro h
    have g := mb_big h
    unfold mb_ at h
    exact (by decide +kernel : ∀ i, i < 64 → (2 : Int64).toBitVec.getLsbD i = true → i = 1) i g h
  · rintro rfl; unfold mb_; decide +kernel
theorem mb_m2 (i : Nat) (hi : i < 64) : mb_ (-2) i ↔ 1 ≤ i := by
  unfold mb_
  exact (by decide +kernel : ∀ i, i < 64 → ((-2 : Int64).toBitVec.getLsbD i = true ↔ 1 ≤ i)) i hi
theorem mb_shl {k : Nat} (hk : k < 64) (x : Int64) {i : Nat} (hi : i < 64) : mb_ (x <<< ((nI k).toInt64 &&& 63)) i ↔ k ≤ i ∧ mb_ x (i - k) := by
  unfold mb_
  rw [wb_c k hk, Int64.toBitVec_shiftLeft, wb_tb, wb_sm k hk, BitVec.shiftLeft_eq', BitVec.toNat_ofNat, Nat.mod_eq_of_lt (show k < 2 ^ 64 by omega), BitVec.getLsbD_shiftLeft]
  rcases Nat.lt_or_ge i k with h | h
  · simp [h, Nat.not_le.mpr h]
  · simp [hi, h, Nat.not_lt.mpr h]
theorem mb_bit {k : Nat} (hk : k < 64) (i : Nat) : mb_ ((1 : Int64) <<< ((nI k).toInt64 &&& 63)) i ↔ i = k := by
  constructor
  · intro h
    have g := mb_big h
    rw [mb_shl hk _ g, mb_1] at h
    omega
  · rintro rfl
    rw [mb_shl hk _ hk, mb_1]
    omega
theorem mb_lN {b k : Nat} (hb : b < 2 ^ 64) : mb_ (lN b) k ↔ b.testBit k = true := by
  unfold mb_
  rw [wb_tb, BitVec.getLsbD_ofNat]
  rcases Nat.lt_or_ge k 64 with h | h
  · simp [h]
  · simp only [decide_eq_false (Nat.not_lt.mpr h), Bool.false_and]
    rw [Nat.testBit_lt_two_pow (Nat.lt_of_lt_of_le hb (Nat.pow_le_pow_right (by decide) h))]
theorem mb_test {x : Int64} {k : Nat} (hk : k < 64) : (((x.toUInt64 >>> ((nI k).toInt64.toUInt64 &&& Int64.toUInt64 63)).toInt64) &&& 1) = 0 ↔ ¬ mb_ x k := by
  have h1 : (UInt64.ofNat k).toNat = k := by
    show (BitVec.ofNat 64 k).toNat = k
    rw [BitVec.toNat_ofNat, Nat.mod_eq_of_lt (by omega)]
  rw [wb_cu k hk, ts_bit hk h1]
  unfold mb_
  exact Bool.not_eq_true _ |>.symm ▸ Iff.rfl
theorem mb_has {post : Int32 → Prop} {x : Int64} {k : Nat} (hk : k < 64) (h1 : mb_ x k → post 1) (h0 : ¬ mb_ x k → post 0) : wpX_has post x (nI k) := by
  unfold wpX_has
  rw [mb_test hk]
  exact ⟨h0, fun h => h1 (Classical.byContradiction h)⟩
/-- place -/
def pl_ (z s k : Nat) : Nat := z * 256 + s * 4 + k
theorem pl_inj {z s k z' s' k' : Nat} (hs : s < 64) (hk : k < 4) (hs' : s' < 64) (hk' : k' < 4) (h : pl_ z s k = pl_ z' s' k') : z = z' ∧ s = s' ∧ k = k' := by
  unfold pl_ at h; omega
theorem pl_lt {z s k : Nat} (hz : z < 10) (hs : s < 64) (hk : k < 4) : pl_ z s k < 2560 := by unfold pl_; omega
theorem pl_wp {post : Int32 → Prop} {z s k : Nat} (hz : z < 10) (hs : s < 64) (hk : k < 4) (h : post (nI (pl_ z s k))) : wpX_place post (nI z) (nI s) (nI k) := by
  have hl := pl_lt hz hs hk
  have e : ((nI z * 256) + (nI s * 4)) + nI k = nI (pl_ z s k) := by
    unfold pl_
    rw [← nI_add, ← nI_add, ← pk_mul, ← pk_mul]; rfl
  unfold wpX_place
  refine nm_r e ?_
  refine br_f (nI_pos (by omega)) ?_
  exact br_f (nI_ge (b := 2560) hl (by decide)) h
/-- a write over the grid of one machine -/
def gx_ (mv mv' : Nat → Int64) (x : Nat) (P : Nat → Nat → Prop) (R : Nat → Nat → Int64 → Prop) : Prop :=
  ∀ z s k, s < 64 → k < 4 → ((z = x ∧ P s k) → R s k (mv' (pl_ z s k))) ∧ (¬ (z = x ∧ P s k) → mv' (pl_ z s k) = mv (pl_ z s k))
theorem gx_0 {mv : Nat → Int64} {x : Nat} {P : Nat → Nat → Prop} {R : Nat → Nat → Int64 → Prop} (h : ∀ s k, k < 4 → ¬ P s k) : gx_ mv mv x P R :=
  fun _ s k _ hk => ⟨fun g => absurd g.2 (h s k hk), fun _ => rfl⟩
theorem gx_s {mv mv' : Nat → Int64} {x : Nat} {P P' : Nat → Nat → Prop} {R : Nat → Nat → Int64 → Prop} (h : gx_ mv mv' x P R) {s k : Nat} (hs : s < 64) (hk : k < 4) {v : Int64} (hv : R s k v) (hP : ∀ s' k', k' < 4 → (P' s' k' ↔ P s' k' ∨ (s' = s ∧ k' = k))) : gx_ mv (vp_updL mv' (pl_ x s k) v) x P' R := by
  intro z s' k' hs' hk'
  have g := h z s' k' hs' hk'
  by_cases e : z = x ∧ s' = s ∧ k' = k
  · obtain ⟨rfl, rfl, rfl⟩ := e
    rw [pk_uLs]
    exact ⟨fun _ => hv, fun n => absurd ⟨rfl, (hP s' k' hk').mpr (Or.inr ⟨rfl, rfl⟩)⟩ n⟩
  · rw [pk_uLn (fun q => e (pl_inj hs' hk' hs hk q))]
    refine ⟨fun a => g.1 ⟨a.1, ?_⟩, fun n => g.2 fun a => n ⟨a.1, (hP s' k' hk').mpr (Or.inl a.2)⟩⟩
    rcases (hP s' k' hk').mp a.2 with q | q
    · exact q
    · exact absurd ⟨a.1, q.1, q.2⟩ e
theorem gx_c {mv mv' : Nat → Int64} {x : Nat} {P P' : Nat → Nat → Prop} {R : Nat → Nat → Int64 → Prop} (h : gx_ mv mv' x P R) (hP : ∀ s k, s < 64 → k < 4 → (P' s k ↔ P s k)) : gx_ mv mv' x P' R := by
  intro z s k hs hk
  have g := h z s k hs hk
  exact ⟨fun a => g.1 ⟨a.1, (hP s k hs hk).mp a.2⟩, fun n => g.2 fun a => n ⟨a.1, (hP s k hs hk).mpr a.2⟩⟩
end
section
/-! languages -/
abbrev pl_L : Type := List Nat → Prop
def la_seq (A B : pl_L) : pl_L := fun w => ∃ u v, w = u ++ v ∧ A u ∧ B v
def la_cho (A B : pl_L) : pl_L := fun w => A w ∨ B w
def la_sh : List Nat → List Nat → List Nat → Prop
  | u, v, [] => u = [] ∧ v = []
  | u, v, c :: w => (∃ u', u = c :: u' ∧ la_sh u' v w) ∨ (∃ v', v = c :: v' ∧ la_sh u v' w)
def la_both (A B : pl_L) : pl_L := fun w => ∃ u v, la_sh u v w ∧ A u ∧ B v
def la_loop (A : pl_L) : pl_L := fun w => ∃ ws : List (List Nat), w = ws.flatten ∧ ∀ x, x ∈ ws → A x
def la_opt (A : pl_L) : pl_L := fun w => w = [] ∨ A w
def la_ev (k : Nat) : pl_L := fun w => w = [k]
def la_skip : pl_L := fun w => w = []
/-! automata -/
def au_run (D : Nat → Nat → Nat → Prop) : Nat → List Nat → Nat → Prop
  | s, [], t => s = t
  | s, k :: w, t => ∃ s', D s k s' ∧ au_run D s' w t
/-- moves of a machine of n states stay within, none leads into 0 -/
def au_in (n : Nat) (D : Nat → Nat → Nat → Prop) : Prop := ∀ s k t, D s k t → s < n ∧ k < 4 ∧ 0 < t ∧ t < n
def au_ok (n : Nat) (D : Nat → Nat → Nat → Prop) (E : Nat → Prop) (L : pl_L) : Prop :=
  0 < n ∧ au_in n D ∧ (∀ t, E t → t < n) ∧ (∀ w, L w ↔ ∃ t, au_run D 0 w t ∧ E t) ∧ (∀ s, s < n → ∃ w t, au_run D s w t ∧ E t)
theorem au_app {D : Nat → Nat → Nat → Prop} : ∀ (u v : List Nat) (s t : Nat), au_run D s (u ++ v) t ↔ ∃ z, au_run D s u z ∧ au_run D z v t := by
  intro u
  induction u with
  | nil =>
    intro v s t
    exact ⟨fun h => ⟨s, rfl, h⟩, fun ⟨z, h, g⟩ => by cases h; exact g⟩
  | cons k u ih =>
    intro v s t
    constructor
    · rintro ⟨s', h, g⟩
      obtain ⟨z, a, b⟩ := (ih v s' t).mp g
      exact ⟨z, ⟨s', h, a⟩, b⟩
    · rintro ⟨z, ⟨s', h, a⟩, b⟩
      exact ⟨s', h, (ih v s' t).mpr ⟨z, a, b⟩⟩
theorem au_lt {n : Nat} {D : Nat → Nat → Nat → Prop} (hD : au_in n D) : ∀ (w : List Nat) (s t : Nat), s < n → au_run D s w t → t < n := by
  intro w
  induction w with
  | nil => intro s t hs h; cases h; exact hs
  | cons k w ih =>
    intro s t _ h
    obtain ⟨s', a, b⟩ := h
    exact ih s' t (hD s k s' a).2.2.2 b
theorem au_pos {n : Nat} {D : Nat → Nat → Nat → Prop} (hD : au_in n D) : ∀ (w : List Nat) (s t : Nat), (0 < s ∨ w ≠ []) → au_run D s w t → 0 < t := by
  intro w
  induction w with
  | nil =>
    intro s t hs h
    cases h
    rcases hs with g | g
    · exact g
    · exact absurd rfl g
  | cons k w ih =>
    intro s t _ h
    obtain ⟨s', a, b⟩ := h
    exact ih s' t (Or.inl (hD s k s' a).2.2.1) b
theorem au_nil {n : Nat} {D : Nat → Nat → Nat → Prop} (hD : au_in n D) {w : List Nat} {s : Nat} (h : au_run D s w 0) : w = [] := by
  cases w with
  | nil => rfl
  | cons k w => exact absurd (au_pos hD (k :: w) s 0 (Or.inr (by simp)) h) (by omega)
theorem au_mono {D D' : Nat → Nat → Nat → Prop} (h : ∀ s k t, D s k t → D' s k t) : ∀ (w : List Nat) (s t : Nat), au_run D s w t → au_run D' s w t := by
  intro w
  induction w with
  | nil => intro s t g; exact g
  | cons k w ih =>
    intro s t g
    obtain ⟨s', a, b⟩ := g
    exact ⟨s', h _ _ _ a, ih _ _ b⟩
theorem au_congr {n : Nat} {D D' : Nat → Nat → Nat → Prop} {E E' : Nat → Prop} {L : pl_L} (h : ∀ s k t, D' s k t ↔ D s k t) (hE : ∀ t, E' t ↔ E t) (ok : au_ok n D E L) : au_ok n D' E' L := by
  have e : D' = D := by funext s k t; exact propext (h s k t)
  have e2 : E' = E := by funext t; exact propext (hE t)
  rw [e, e2]; exact ok
/-! append: y's states but its start behind those of x -/
def au_ap (D1 D2 : Nat → Nat → Nat → Prop) (Z : Nat → Prop) (sh : Nat) : Nat → Nat → Nat → Prop := fun s k t =>
  D1 s k t ∨ (Z s ∧ ∃ t', D2 0 k t' ∧ t = sh + t') ∨ (∃ s' t', 0 < s' ∧ s = sh + s' ∧ D2 s' k t' ∧ t = sh + t')
theorem ap_in {n1 n2 : Nat} {D1 D2 : Nat → Nat → Nat → Prop} {Z : Nat → Prop} (h1 : au_in n1 D1) (h2 : au_in n2 D2) (p1 : 0 < n1) (p2 : 0 < n2) (hZ : ∀ s, Z s → s < n1) : au_in (n1 + n2 - 1) (au_ap D1 D2 Z (n1 - 1)) := by
  intro s k t h
  rcases h with h | ⟨h, t', g, e⟩ | ⟨s', t', a, b, g, e⟩
  · have := h1 _ _ _ h; omega
  · have := h2 _ _ _ g; have := hZ _ h; omega
  · have := h2 _ _ _ g; omega
theorem ap_run2 {n1 n2 : Nat} {D1 D2 : Nat → Nat → Nat → Prop} {Z : Nat → Prop} (h1 : au_in n1 D1) (h2 : au_in n2 D2) (p1 : 0 < n1) (hZ : ∀ s, Z s → s < n1) : ∀ (w : List Nat) (s t : Nat), 0 < s → (au_run (au_ap D1 D2 Z (n1 - 1)) (n1 - 1 + s) w t ↔ ∃ t', t = n1 - 1 + t' ∧ au_run D2 s w t') := by
  intro w
  induction w with
  | nil =>
    intro s t _
    exact ⟨fun h => ⟨s, h.symm, rfl⟩, fun ⟨t', e, h⟩ => by cases h; exact e.symm⟩
  | cons k w ih =>
    intro s t hs
    constructor
    · rintro ⟨s1, h, g⟩
      rcases h with h | ⟨h, _⟩ | ⟨s', t', a, b, c, e⟩
      · have := h1 _ _ _ h; omega
      · have := hZ _ h; omega
      · have : s' = s := by omega
        subst this e
        obtain ⟨t'', e, r⟩ := (ih t' t (h2 _ _ _ c).2.2.1).mp g
        exact ⟨t'', e, t', c, r⟩
    · rintro ⟨t', e, s1, h, g⟩
      exact ⟨n1 - 1 + s1, Or.inr (Or.inr ⟨s, s1, hs, rfl, h, rfl⟩), (ih s1 t (h2 _ _ _ h).2.2.1).mpr ⟨t', e, g⟩⟩
theorem ap_run1 {n1 n2 : Nat} {D1 D2 : Nat → Nat → Nat → Prop} {Z : Nat → Prop} (h1 : au_in n1 D1) (h2 : au_in n2 D2) (p1 : 0 < n1) (hZ : ∀ s, Z s → s < n1) : ∀ (w : List Nat) (s t : Nat), s < n1 → (au_run (au_ap D1 D2 Z (n1 - 1)) s w t ↔ au_run D1 s w t ∨ ∃ u v z t', w = u ++ v ∧ au_run D1 s u z ∧ Z z ∧ v ≠ [] ∧ au_run D2 0 v t' ∧ t = n1 - 1 + t') := by
  intro w
  induction w with
  | nil =>
    intro s t _
    constructor
    · intro h; exact Or.inl h
    · rintro (h | ⟨u, v, z, t', e, _, _, n, _⟩)
      · exact h
      · cases v with
        | nil => exact absurd rfl n
        | cons c v => cases u <;> cases e
  | cons k w ih =>
    intro s t hs
    constructor
    · rintro ⟨s1, h, g⟩
      rcases h with h | ⟨h, t', c, e⟩ | ⟨s', t', a, b, c, e⟩
      · rcases (ih s1 t (h1 _ _ _ h).2.2.2).mp g with r | ⟨u, v, z, t', e, a, b, c, d, f⟩
        · exact Or.inl ⟨s1, h, r⟩
        · exact Or.inr ⟨k :: u, v, z, t', by rw [e]; rfl, ⟨s1, h, a⟩, b, c, d, f⟩
      · subst e
        obtain ⟨t'', e, r⟩ := (ap_run2 h1 h2 p1 hZ w t' t (h2 _ _ _ c).2.2.1).mp g
        exact Or.inr ⟨[], k :: w, s, t'', rfl, rfl, h, by simp, ⟨t', c, r⟩, e⟩
      · omega
    · rintro (⟨s1, h, r⟩ | ⟨u, v, z, t', e, a, b, c, d, f⟩)
      · exact ⟨s1, Or.inl h, (ih s1 t (h1 _ _ _ h).2.2.2).mpr (Or.inl r)⟩
      · cases u with
        | nil =>
          cases a
          rw [List.nil_append] at e
          subst e
          obtain ⟨s1, h, g⟩ := d
          exact ⟨n1 - 1 + s1, Or.inr (Or.inl ⟨b, s1, h, rfl⟩), (ap_run2 h1 h2 p1 hZ w s1 t (h2 _ _ _ h).2.2.1).mpr ⟨t', f, g⟩⟩
        | cons q u =>
          injection e with e1 e2
          subst e1
          obtain ⟨s1, h, g⟩ := a
          exact ⟨s1, Or.inl h, (ih s1 t (h1 _ _ _ h).2.2.2).mpr (Or.inr ⟨u, v, z, t', e2, g, b, c, d, f⟩)⟩
theorem au_seq {n1 n2 : Nat} {D1 D2 : Nat → Nat → Nat → Prop} {E1 E2 E : Nat → Prop} {L1 L2 : pl_L} (o1 : au_ok n1 D1 E1 L1) (o2 : au_ok n2 D2 E2 L2)
    (hE : ∀ t, E t ↔ (∃ t', 0 < t' ∧ t = n1 - 1 + t' ∧ E2 t') ∨ (E2 0 ∧ E1 t)) : au_ok (n1 + n2 - 1) (au_ap D1 D2 E1 (n1 - 1)) E (la_seq L1 L2) := by
  obtain ⟨p1, i1, e1, l1, c1⟩ := o1
  obtain ⟨p2, i2, e2, l2, c2⟩ := o2
  have key : ∀ s, s < n1 → ∀ u v z t', au_run D1 s u z → E1 z → au_run D2 0 v t' → E2 t' → ∃ t, au_run (au_ap D1 D2 E1 (n1 - 1)) s (u ++ v) t ∧ E t := by
    intro s hs u v z t' hu hz hv ht
    by_cases nv : v = []
    · subst nv; cases hv
      rw [List.append_nil]
      exact ⟨z, (ap_run1 i1 i2 p1 e1 u s z hs).mpr (Or.inl hu), (hE z).mpr (Or.inr ⟨ht, hz⟩)⟩
    · exact ⟨n1 - 1 + t', (ap_run1 i1 i2 p1 e1 _ s _ hs).mpr (Or.inr ⟨u, v, z, t', rfl, hu, hz, nv, hv, rfl⟩), (hE _).mpr (Or.inl ⟨t', au_pos i2 v 0 t' (Or.inr nv) hv, rfl, ht⟩)⟩
  refine ⟨by omega, ap_in i1 i2 p1 p2 e1, ?_, ?_, ?_⟩
  · intro t h
    rcases (hE t).mp h with ⟨t', a, b, c⟩ | ⟨_, b⟩
    · have := e2 _ c; omega
    · have := e1 _ b; omega
  · intro w
    constructor
    · rintro ⟨u, v, rfl, hu, hv⟩
      obtain ⟨z, hz, ez⟩ := (l1 u).mp hu
      obtain ⟨t', ht, et⟩ := (l2 v).mp hv
      exact key 0 p1 u v z t' hz ez ht et
    · rintro ⟨t, h, g⟩
      rcases (ap_run1 i1 i2 p1 e1 w 0 t p1).mp h with r | ⟨u, v, z, t', e, a, b, c, d, f⟩
      · have lt := au_lt i1 w 0 t p1 r
        rcases (hE t).mp g with ⟨t', a, b, c⟩ | ⟨a, b⟩
        · omega
        · exact ⟨w, [], (List.append_nil w).symm, (l1 w).mpr ⟨t, r, b⟩, (l2 []).mpr ⟨0, rfl, a⟩⟩
      · have pt := au_pos i2 v 0 t' (Or.inr c) d
        rcases (hE t).mp g with ⟨t'', a', b', c'⟩ | ⟨a', b'⟩
        · have : t'' = t' := by omega
          subst this
          exact ⟨u, v, e, (l1 u).mpr ⟨z, a, b⟩, (l2 v).mpr ⟨t'', d, c'⟩⟩
        · have := e1 _ b'; omega
  · intro s hs
    by_cases h : s < n1
    · obtain ⟨u, z, hu, hz⟩ := c1 s h
      obtain ⟨v, t', hv, ht⟩ := c2 0 p2
      obtain ⟨t, a, b⟩ := key s h u v z t' hu hz hv ht
      exact ⟨_, t, a, b⟩
    · obtain ⟨v, t', hv, ht⟩ := c2 (s - (n1 - 1)) (by omega)
      have e : s = n1 - 1 + (s - (n1 - 1)) := by omega
      refine ⟨v, n1 - 1 + t', ?_, (hE _).mpr (Or.inl ⟨t', au_pos i2 v _ t' (Or.inl (by omega)) hv, rfl, ht⟩)⟩
      rw [e]
      exact (ap_run2 i1 i2 p1 e1 v _ _ (by omega)).mpr ⟨t', rfl, hv⟩
theorem au_cho {n1 n2 : Nat} {D1 D2 : Nat → Nat → Nat → Prop} {E1 E2 E : Nat → Prop} {L1 L2 : pl_L} (o1 : au_ok n1 D1 E1 L1) (o2 : au_ok n2 D2 E2 L2)
    (hE : ∀ t, E t ↔ E1 t ∨ (∃ t', 0 < t' ∧ t = n1 - 1 + t' ∧ E2 t') ∨ (t = 0 ∧ E2 0)) : au_ok (n1 + n2 - 1) (au_ap D1 D2 (fun s => s = 0) (n1 - 1)) E (la_cho L1 L2) := by
  obtain ⟨p1, i1, e1, l1, c1⟩ := o1
  obtain ⟨p2, i2, e2, l2, c2⟩ := o2
  have hZ : ∀ s, s = 0 → s < n1 := by intro s h; omega
  refine ⟨by omega, ap_in i1 i2 p1 p2 hZ, ?_, ?_, ?_⟩
  · intro t h
    rcases (hE t).mp h with a | ⟨t', a, b, c⟩ | ⟨a, b⟩
    · have := e1 _ a; omega
    · have := e2 _ c; omega
    · omega
  · intro w
    constructor
    · rintro (h | h)
      · obtain ⟨t, a, b⟩ := (l1 w).mp h
        exact ⟨t, (ap_run1 i1 i2 p1 hZ w 0 t p1).mpr (Or.inl a), (hE t).mpr (Or.inl b)⟩
      · obtain ⟨t, a, b⟩ := (l2 w).mp h
        by_cases nv : w = []
        · subst nv; cases a
          exact ⟨0, rfl, (hE 0).mpr (Or.inr (Or.inr ⟨rfl, b⟩))⟩
        · exact ⟨n1 - 1 + t, (ap_run1 i1 i2 p1 hZ w 0 _ p1).mpr (Or.inr ⟨[], w, 0, t, rfl, rfl, rfl, nv, a, rfl⟩), (hE _).mpr (Or.inr (Or.inl ⟨t, au_pos i2 w 0 t (Or.inr nv) a, rfl, b⟩))⟩
    · rintro ⟨t, h, g⟩
      rcases (ap_run1 i1 i2 p1 hZ w 0 t p1).mp h with r | ⟨u, v, z, t', e, a, b, c, d, f⟩
      · have lt := au_lt i1 w 0 t p1 r
        rcases (hE t).mp g with a | ⟨t', a, b, c⟩ | ⟨a, b⟩
        · exact Or.inl ((l1 w).mpr ⟨t, r, a⟩)
        · omega
        · subst a
          have := au_nil i1 r
          subst this
          exact Or.inr ((l2 []).mpr ⟨0, rfl, b⟩)
      · subst b
        have := au_nil i1 a
        subst this
        rw [List.nil_append] at e
        subst e
        have pt := au_pos i2 w 0 t' (Or.inr c) d
        rcases (hE t).mp g with a' | ⟨t'', a', b', c'⟩ | ⟨a', b'⟩
        · have := e1 _ a'; omega
        · have : t'' = t' := by omega
          subst this
          exact Or.inr ((l2 w).mpr ⟨t'', d, c'⟩)
        · omega
  · intro s hs
    by_cases h : s < n1
    · obtain ⟨u, z, hu, hz⟩ := c1 s h
      exact ⟨u, z, (ap_run1 i1 i2 p1 hZ u s z h).mpr (Or.inl hu), (hE z).mpr (Or.inl hz)⟩
    · obtain ⟨v, t', hv, ht⟩ := c2 (s - (n1 - 1)) (by omega)
      have e : s = n1 - 1 + (s - (n1 - 1)) := by omega
      refine ⟨v, n1 - 1 + t', ?_, (hE _).mpr (Or.inr (Or.inl ⟨t', au_pos i2 v _ t' (Or.inl (by omega)) hv, rfl, ht⟩))⟩
      rw [e]
      exact (ap_run2 i1 i2 p1 hZ v _ _ (by omega)).mpr ⟨t', rfl, hv⟩
theorem au_opt {n : Nat} {D : Nat → Nat → Nat → Prop} {E E' : Nat → Prop} {L : pl_L} (o : au_ok n D E L) (hE : ∀ t, E' t ↔ E t ∨ t = 0) : au_ok n D E' (la_opt L) := by
  obtain ⟨p, i, e, l, c⟩ := o
  refine ⟨p, i, ?_, ?_, ?_⟩
  · intro t h
    rcases (hE t).mp h with a | a
    · exact e t a
    · omega
  · intro w
    constructor
    · rintro (h | h)
      · subst h; exact ⟨0, rfl, (hE 0).mpr (Or.inr rfl)⟩
      · obtain ⟨t, a, b⟩ := (l w).mp h
        exact ⟨t, a, (hE t).mpr (Or.inl b)⟩
    · rintro ⟨t, a, b⟩
      rcases (hE t).mp b with b | b
      · exact Or.inr ((l w).mpr ⟨t, a, b⟩)
      · subst b; exact Or.inl (au_nil i a)
  · intro s hs
    obtain ⟨w, t, a, b⟩ := c s hs
    exact ⟨w, t, a, (hE t).mpr (Or.inl b)⟩
def au_lp (D : Nat → Nat → Nat → Prop) (E : Nat → Prop) : Nat → Nat → Nat → Prop := fun s k t => D s k t ∨ (E s ∧ D 0 k t)
theorem lp_in {n : Nat} {D : Nat → Nat → Nat → Prop} {E : Nat → Prop} (i : au_in n D) (e : ∀ t, E t → t < n) : au_in n (au_lp D E) := by
  intro s k t h
  rcases h with h | ⟨a, h⟩
  · exact i _ _ _ h
  · have := i _ _ _ h; have := e _ a; omega
theorem au_loop {n : Nat} {D : Nat → Nat → Nat → Prop} {E E' : Nat → Prop} {L : pl_L} (o : au_ok n D E L) (hE : ∀ t, E' t ↔ E t ∨ t = 0) : au_ok n (au_lp D E) E' (la_loop L) := by
  obtain ⟨p, i, e, l, c⟩ := o
  have i' := lp_in i e
  have mono : ∀ s k t, D s k t → au_lp D E s k t := fun s k t h => Or.inl h
  refine ⟨p, i', ?_, ?_, ?_⟩
  · intro t h
    rcases (hE t).mp h with a | a
    · exact e t a
    · omega
  · have fwd : ∀ (w : List Nat) (s t : Nat), E t → au_run (au_lp D E) s w t → ∃ u v, w = u ++ v ∧ (∃ z, au_run D s u z ∧ E z) ∧ la_loop L v := by
      intro w
      induction w with
      | nil =>
        intro s t ht h
        cases h
        exact ⟨[], [], rfl, ⟨s, rfl, ht⟩, [], rfl, by simp⟩
      | cons k w ih =>
        intro s t ht h
        obtain ⟨s', a, b⟩ := h
        obtain ⟨u, v, e1, ⟨z, hz, ez⟩, hv⟩ := ih s' t ht b
        rcases a with a | ⟨a1, a2⟩
        · exact ⟨k :: u, v, by rw [e1]; rfl, ⟨z, ⟨s', a, hz⟩, ez⟩, hv⟩
        · obtain ⟨ws, e2, h2⟩ := hv
          refine ⟨[], k :: w, rfl, ⟨s, rfl, a1⟩, (k :: u) :: ws, ?_, ?_⟩
          · rw [List.flatten_cons, ← e2, e1]; rfl
          · intro x hx
            rcases List.mem_cons.mp hx with rfl | hx
            · exact (l _).mpr ⟨z, ⟨s', a2, hz⟩, ez⟩
            · exact h2 x hx
    have bwd : ∀ ws : List (List Nat), (∀ x, x ∈ ws → L x) → ∃ t, au_run (au_lp D E) 0 ws.flatten t ∧ E' t := by
      intro ws
      induction ws with
      | nil => intro _; exact ⟨0, rfl, (hE 0).mpr (Or.inr rfl)⟩
      | cons x ws ih =>
        intro h
        obtain ⟨t, a, b⟩ := ih (fun y hy => h y (List.mem_cons_of_mem _ hy))
        obtain ⟨z, hz, ez⟩ := (l x).mp (h x List.mem_cons_self)
        rw [List.flatten_cons]
        generalize ws.flatten = r at a
        cases r with
        | nil => rw [List.append_nil]; exact ⟨z, au_mono mono _ _ _ hz, (hE z).mpr (Or.inl ez)⟩
        | cons k r =>
          refine ⟨t, (au_app x (k :: r) 0 t).mpr ⟨z, au_mono mono _ _ _ hz, ?_⟩, b⟩
          obtain ⟨s', c1, c2⟩ := a
          rcases c1 with c1 | ⟨_, c1⟩
          · exact ⟨s', Or.inr ⟨ez, c1⟩, c2⟩
          · exact ⟨s', Or.inr ⟨ez, c1⟩, c2⟩
    intro w
    constructor
    · rintro ⟨ws, rfl, h⟩
      exact bwd ws h
    · rintro ⟨t, a, b⟩
      rcases (hE t).mp b with b | b
      · obtain ⟨u, v, e1, hu, ws, e2, h2⟩ := fwd w 0 t b a
        refine ⟨u :: ws, by rw [List.flatten_cons, ← e2, e1], ?_⟩
        intro x hx
        rcases List.mem_cons.mp hx with rfl | hx
        · exact (l _).mpr hu
        · exact h2 x hx
      · subst b
        have := au_nil i' a
        subst this
        exact ⟨[], rfl, by simp⟩
  · intro s hs
    obtain ⟨w, t, a, b⟩ := c s hs
    exact ⟨w, t, au_mono mono _ _ _ a, (hE t).mpr (Or.inl b)⟩
def au_bo (n1 n2 : Nat) (D1 D2 : Nat → Nat → Nat → Prop) : Nat → Nat → Nat → Prop := fun s k t =>
  ∃ a b, a < n1 ∧ b < n2 ∧ s = a * n2 + b ∧ ((∃ b', D2 b k b' ∧ t = a * n2 + b') ∨ (∃ a', D1 a k a' ∧ t = a' * n2 + b))
theorem bo_inj {n a b a' b' : Nat} (h : b < n) (h' : b' < n) (e : a * n + b = a' * n + b') : a = a' ∧ b = b' := by
  have h1 : (a * n + b) / n = a := by rw [Nat.mul_comm, Nat.mul_add_div (by omega), Nat.div_eq_of_lt h, Nat.add_zero]
  have h2 : (a' * n + b') / n = a' := by rw [Nat.mul_comm, Nat.mul_add_div (by omega), Nat.div_eq_of_lt h', Nat.add_zero]
  have : a = a' := by rw [← h1, ← h2, e]
  subst this
  exact ⟨rfl, by omega⟩
theorem bo_lt {n1 n2 a b : Nat} (ha : a < n1) (hb : b < n2) : a * n2 + b < n1 * n2 := by
  have : (a + 1) * n2 ≤ n1 * n2 := Nat.mul_le_mul_right _ ha
  rw [Nat.add_mul] at this
  omega
theorem bo_in {n1 n2 : Nat} {D1 D2 : Nat → Nat → Nat → Prop} (i1 : au_in n1 D1) (i2 : au_in n2 D2) : au_in (n1 * n2) (au_bo n1 n2 D1 D2) := by
  rintro s k t ⟨a, b, ha, hb, rfl, ⟨b', h, rfl⟩ | ⟨a', h, rfl⟩⟩
  · obtain ⟨_, hk, hp, hl⟩ := i2 _ _ _ h
    exact ⟨bo_lt ha hb, hk, by omega, bo_lt ha hl⟩
  · obtain ⟨_, hk, hp, hl⟩ := i1 _ _ _ h
    have : 1 * n2 ≤ a' * n2 := Nat.mul_le_mul_right _ hp
    exact ⟨bo_lt ha hb, hk, by omega, bo_lt hl hb⟩
theorem bo_run {n1 n2 : Nat} {D1 D2 : Nat → Nat → Nat → Prop} (i1 : au_in n1 D1) (i2 : au_in n2 D2) : ∀ (w : List Nat) (a b t : Nat), a < n1 → b < n2 → (au_run (au_bo n1 n2 D1 D2) (a * n2 + b) w t ↔ ∃ u v a' b', la_sh u v w ∧ au_run D1 a u a' ∧ au_run D2 b v b' ∧ t = a' * n2 + b') := by
  intro w
  induction w with
  | nil =>
    intro a b t ha hb
    constructor
    · intro h; exact ⟨[], [], a, b, ⟨rfl, rfl⟩, rfl, rfl, h.symm⟩
    · rintro ⟨u, v, a', b', ⟨rfl, rfl⟩, h1, h2, e⟩
      cases h1; cases h2
      exact e.symm
  | cons k w ih =>
    intro a b t ha hb
    constructor
    · rintro ⟨s1, ⟨a0, b0, ha0, hb0, e, h⟩, g⟩
      obtain ⟨rfl, rfl⟩ := bo_inj hb hb0 e
      rcases h with ⟨b', h, rfl⟩ | ⟨a', h, rfl⟩
      · obtain ⟨u, v, x, y, hs, r1, r2, e⟩ := (ih a b' t ha (i2 _ _ _ h).2.2.2).mp g
        exact ⟨u, k :: v, x, y, Or.inr ⟨v, rfl, hs⟩, r1, ⟨b', h, r2⟩, e⟩
      · obtain ⟨u, v, x, y, hs, r1, r2, e⟩ := (ih a' b t (i1 _ _ _ h).2.2.2 hb).mp g
        exact ⟨k :: u, v, x, y, Or.inl ⟨u, rfl, hs⟩, ⟨a', h, r1⟩, r2, e⟩
    · rintro ⟨u, v, x, y, hs, r1, r2, e⟩
      rcases hs with ⟨u', rfl, hs⟩ | ⟨v', rfl, hs⟩
      · obtain ⟨a', h, r1⟩ := r1
        exact ⟨a' * n2 + b, ⟨a, b, ha, hb, rfl, Or.inr ⟨a', h, rfl⟩⟩, (ih a' b t (i1 _ _ _ h).2.2.2 hb).mpr ⟨u', v, x, y, hs, r1, r2, e⟩⟩
      · obtain ⟨b', h, r2⟩ := r2
        exact ⟨a * n2 + b', ⟨a, b, ha, hb, rfl, Or.inl ⟨b', h, rfl⟩⟩, (ih a b' t ha (i2 _ _ _ h).2.2.2).mpr ⟨u, v', x, y, hs, r1, r2, e⟩⟩
theorem sh_app : ∀ (u v : List Nat), la_sh u v (u ++ v) := by
  intro u
  induction u with
  | nil =>
    intro v
    induction v with
    | nil => exact ⟨rfl, rfl⟩
    | cons c v ih => exact Or.inr ⟨v, rfl, ih⟩
  | cons c u ih => intro v; exact Or.inl ⟨u, rfl, ih v⟩
theorem au_both {n1 n2 : Nat} {D1 D2 : Nat → Nat → Nat → Prop} {E1 E2 E : Nat → Prop} {L1 L2 : pl_L} (o1 : au_ok n1 D1 E1 L1) (o2 : au_ok n2 D2 E2 L2)
    (hE : ∀ t, E t ↔ ∃ a b, E1 a ∧ E2 b ∧ t = a * n2 + b) : au_ok (n1 * n2) (au_bo n1 n2 D1 D2) E (la_both L1 L2) := by
  obtain ⟨p1, i1, e1, l1, c1⟩ := o1
  obtain ⟨p2, i2, e2, l2, c2⟩ := o2
  refine ⟨Nat.mul_pos p1 p2, bo_in i1 i2, ?_, ?_, ?_⟩
  · intro t h
    obtain ⟨a, b, ha, hb, rfl⟩ := (hE t).mp h
    exact bo_lt (e1 _ ha) (e2 _ hb)
  · intro w
    have r := fun t => bo_run i1 i2 w 0 0 t p1 p2
    rw [Nat.zero_mul, Nat.zero_add] at r
    constructor
    · rintro ⟨u, v, hs, hu, hv⟩
      obtain ⟨a, ra, ea⟩ := (l1 u).mp hu
      obtain ⟨b, rb, eb⟩ := (l2 v).mp hv
      exact ⟨a * n2 + b, (r _).mpr ⟨u, v, a, b, hs, ra, rb, rfl⟩, (hE _).mpr ⟨a, b, ea, eb, rfl⟩⟩
    · rintro ⟨t, h, g⟩
      obtain ⟨u, v, a, b, hs, ra, rb, e⟩ := (r t).mp h
      obtain ⟨a', b', ea, eb, e'⟩ := (hE t).mp g
      obtain ⟨rfl, rfl⟩ := bo_inj (au_lt i2 v 0 b p2 rb) (e2 _ eb) (e.symm.trans e')
      exact ⟨u, v, hs, (l1 u).mpr ⟨a, ra, ea⟩, (l2 v).mpr ⟨b, rb, eb⟩⟩
  · intro s hs
    have e : s = s / n2 * n2 + s % n2 := by rw [Nat.mul_comm]; exact (Nat.div_add_mod s n2).symm
    have ha : s / n2 < n1 := (Nat.div_lt_iff_lt_mul p2).mpr hs
    have hb := Nat.mod_lt s p2
    obtain ⟨u, a, ra, ea⟩ := c1 _ ha
    obtain ⟨v, b, rb, eb⟩ := c2 _ hb
    refine ⟨u ++ v, a * n2 + b, ?_, (hE _).mpr ⟨a, b, ea, eb, rfl⟩⟩
    rw [e]
    exact (bo_run i1 i2 _ _ _ _ ha hb).mpr ⟨u, v, a, b, sh_app u v, ra, rb, rfl⟩
theorem au_skip {D : Nat → Nat → Nat → Prop} {E : Nat → Prop} (hD : ∀ s k t, ¬ D s k t) (hE : ∀ t, E t ↔ t = 0) : au_ok 1 D E la_skip := by
  refine ⟨by omega, fun s k t h => absurd h (hD s k t), fun t h => by have := (hE t).mp h; omega, ?_, ?_⟩
  · intro w
    constructor
    · rintro rfl; exact ⟨0, rfl, (hE 0).mpr rfl⟩
    · rintro ⟨t, a, b⟩
      cases w with
      | nil => rfl
      | cons k w => obtain ⟨s', h, _⟩ := a; exact absurd h (hD _ _ _)
  · intro s hs
    exact ⟨[], s, rfl, (hE s).mpr (by omega)⟩
theorem au_ev {D : Nat → Nat → Nat → Prop} {E : Nat → Prop} {k : Nat} (hk : k < 4) (hD : ∀ s j t, D s j t ↔ s = 0 ∧ j = k ∧ t = 1) (hE : ∀ t, E t ↔ t = 1) : au_ok 2 D E (la_ev k) := by
  refine ⟨by omega, fun s j t h => by have := (hD s j t).mp h; omega, fun t h => by have := (hE t).mp h; omega, ?_, ?_⟩
  · intro w
    constructor
    · rintro rfl; exact ⟨1, ⟨1, (hD _ _ _).mpr ⟨rfl, rfl, rfl⟩, rfl⟩, (hE 1).mpr rfl⟩
    · rintro ⟨t, a, b⟩
      cases w with
      | nil => cases a; have := (hE 0).mp b; omega
      | cons j w =>
        obtain ⟨s', h, g⟩ := a
        obtain ⟨_, rfl, rfl⟩ := (hD _ _ _).mp h
        cases w with
        | nil => rfl
        | cons i w => obtain ⟨s2, h2, _⟩ := g; have := (hD _ _ _).mp h2; omega
  · intro s hs
    by_cases h : s = 0
    · exact ⟨[k], 1, ⟨1, (hD _ _ _).mpr ⟨h, rfl, rfl⟩, rfl⟩, (hE 1).mpr rfl⟩
    · exact ⟨[], s, rfl, (hE s).mpr (by omega)⟩
end
section
/-! words of a subset of the log's positions -/
def sw_ (lg : Nat → Nat) (s : Nat) : Nat → List Nat
  | 0 => []
  | p + 1 => sw_ lg s p ++ (if s.testBit p then [lg p] else [])
def wd_ (lg : Nat → Nat) : Nat → List Nat
  | 0 => []
  | p + 1 => wd_ lg p ++ [lg p]
theorem sw_t {lg : Nat → Nat} {s p : Nat} (h : s.testBit p = true) : sw_ lg s (p + 1) = sw_ lg s p ++ [lg p] := by
  show _ ++ (if s.testBit p then [lg p] else []) = _
  rw [if_pos h]
theorem sw_f {lg : Nat → Nat} {s p : Nat} (h : s.testBit p = false) : sw_ lg s (p + 1) = sw_ lg s p := by
  show _ ++ (if s.testBit p then [lg p] else []) = _
  rw [h, if_neg (by decide), List.append_nil]
theorem sw_congr {lg : Nat → Nat} {a b : Nat} : ∀ P, (∀ i, i < P → a.testBit i = b.testBit i) → sw_ lg a P = sw_ lg b P := by
  intro P
  induction P with
  | zero => intro _; rfl
  | succ P ih =>
    intro h
    show _ ++ _ = _ ++ _
    rw [ih (fun i hi => h i (by omega)), h P (by omega)]
theorem sw_nil {lg : Nat → Nat} {s : Nat} : ∀ P, (∀ i, i < P → s.testBit i = false) → sw_ lg s P = [] := by
  intro P
  induction P with
  | zero => intro _; rfl
  | succ P ih =>
    intro h
    rw [sw_f (h P (by omega)), ih (fun i hi => h i (by omega))]
theorem sw_nil' {lg : Nat → Nat} {s : Nat} : ∀ P, sw_ lg s P = [] → ∀ i, i < P → s.testBit i = false := by
  intro P
  induction P with
  | zero => intro _ i hi; omega
  | succ P ih =>
    intro h i hi
    cases hb : s.testBit P with
    | true => rw [sw_t hb] at h; exact absurd h (by simp)
    | false =>
      rw [sw_f hb] at h
      rcases Nat.lt_or_ge i P with g | g
      · exact ih h i g
      · have : i = P := by omega
        rw [this]; exact hb
theorem tb_zero {s P : Nat} (hs : s < 2 ^ P) (h : ∀ i, i < P → s.testBit i = false) : s = 0 := by
  apply Nat.eq_of_testBit_eq
  intro i
  rw [Nat.zero_testBit]
  rcases Nat.lt_or_ge i P with g | g
  · exact h i g
  · exact Nat.testBit_lt_two_pow (Nat.lt_of_lt_of_le hs (Nat.pow_le_pow_right (by decide) g))
theorem sw_nil_iff {lg : Nat → Nat} {s P : Nat} (hs : s < 2 ^ P) : sw_ lg s P = [] ↔ s = 0 := by
  constructor
  · intro h; exact tb_zero hs (sw_nil' P h)
  · rintro rfl; exact sw_nil P (fun i _ => Nat.zero_testBit i)
theorem tb_mod (s p i : Nat) : (s % 2 ^ p).testBit i = (decide (i < p) && s.testBit i) := Nat.testBit_mod_two_pow s p i
theorem tb_hi (s p i : Nat) : (s - s % 2 ^ p).testBit i = (decide (p ≤ i) && s.testBit i) := by
  have e : s - s % 2 ^ p = s / 2 ^ p * 2 ^ p := by
    have := Nat.div_add_mod' s (2 ^ p)
    omega
  rw [e, Nat.testBit_mul_two_pow, Nat.testBit_div_two_pow]
  rcases Nat.lt_or_ge i p with g | g
  · simp [Nat.not_le.mpr g]
  · simp [g]
theorem sw_lo {lg : Nat → Nat} {s p P : Nat} (h : P ≤ p) : sw_ lg (s % 2 ^ p) P = sw_ lg s P := by
  apply sw_congr
  intro i hi
  rw [tb_mod, decide_eq_true (by omega), Bool.true_and]
theorem sw_hi0 {lg : Nat → Nat} {s p P : Nat} (h : P ≤ p) : sw_ lg (s - s % 2 ^ p) P = [] := by
  apply sw_nil
  intro i hi
  rw [tb_hi, decide_eq_false (by omega), Bool.false_and]
theorem sw_split {lg : Nat → Nat} {s p : Nat} : ∀ P, p ≤ P → sw_ lg s P = sw_ lg (s % 2 ^ p) P ++ sw_ lg (s - s % 2 ^ p) P := by
  intro P
  induction P with
  | zero => intro _; rfl
  | succ P ih =>
    intro h
    by_cases e : p ≤ P
    · have b1 : (s % 2 ^ p).testBit P = false := by rw [tb_mod, decide_eq_false (by omega), Bool.false_and]
      have b2 : (s - s % 2 ^ p).testBit P = s.testBit P := by rw [tb_hi, decide_eq_true e, Bool.true_and]
      rw [sw_f b1]
      show _ ++ _ = _ ++ (_ ++ _)
      rw [ih e, b2, List.append_assoc]
    · rw [sw_lo (by omega), sw_hi0 (by omega), List.append_nil]
theorem sw_cut {lg : Nat → Nat} {s : Nat} : ∀ (P : Nat) (u v : List Nat), sw_ lg s P = u ++ v → ∃ p, p ≤ P ∧ sw_ lg (s % 2 ^ p) P = u ∧ sw_ lg (s - s % 2 ^ p) P = v := by
  intro P
  induction P with
  | zero =>
    intro u v h
    have h : [] = u ++ v := h
    obtain ⟨rfl, rfl⟩ := List.append_eq_nil_iff.mp h.symm
    exact ⟨0, by omega, rfl, rfl⟩
  | succ P ih =>
    intro u v h
    cases hb : s.testBit P with
    | false =>
      rw [sw_f hb] at h
      obtain ⟨p, hp, a, b⟩ := ih u v h
      refine ⟨p, by omega, ?_, ?_⟩
      · rw [sw_f (by rw [tb_mod, decide_eq_false (by omega), Bool.false_and]), a]
      · rw [sw_f (by rw [tb_hi, hb, Bool.and_false]), b]
    | true =>
      by_cases hv : v = []
      · subst hv
        rw [List.append_nil] at h
        exact ⟨P + 1, by omega, by rw [sw_lo (by omega), h], sw_hi0 (by omega)⟩
      · rw [sw_t hb] at h
        obtain ⟨v', c, rfl⟩ : ∃ v' c, v = v' ++ [c] := ⟨v.dropLast, v.getLast hv, (List.dropLast_concat_getLast hv).symm⟩
        rw [← List.append_assoc] at h
        obtain ⟨h1, h2⟩ := List.append_inj' h rfl
        obtain ⟨p, hp, a, b⟩ := ih u v' h1
        refine ⟨p, by omega, ?_, ?_⟩
        · rw [sw_f (by rw [tb_mod, decide_eq_false (by omega), Bool.false_and]), a]
        · rw [sw_t (by rw [tb_hi, hb, decide_eq_true (by omega)]; rfl), b, h2]
theorem sw_full {lg : Nat → Nat} {P : Nat} : ∀ Q, Q ≤ P → sw_ lg (2 ^ P - 1) Q = wd_ lg Q := by
  intro Q
  induction Q with
  | zero => intro _; rfl
  | succ Q ih =>
    intro h
    rw [sw_t (by rw [Nat.testBit_two_pow_sub_one, decide_eq_true (by omega)]), ih (by omega)]
    rfl
theorem sw_pow {lg : Nat → Nat} {p : Nat} : ∀ P, p < P → sw_ lg (2 ^ p) P = [lg p] := by
  intro P
  induction P with
  | zero => intro h; omega
  | succ P ih =>
    intro h
    by_cases e : p = P
    · subst e
      rw [sw_t (Nat.testBit_two_pow_self), sw_nil p (fun i hi => Nat.testBit_two_pow_of_ne (by omega))]
      rfl
    · rw [sw_f (Nat.testBit_two_pow_of_ne e), ih (by omega)]
theorem sw_one {lg : Nat → Nat} {s k : Nat} : ∀ P, s < 2 ^ P → sw_ lg s P = [k] → ∃ p, p < P ∧ s = 2 ^ p ∧ lg p = k := by
  intro P
  induction P with
  | zero => intro _ h; exact absurd h (by show [] ≠ _; simp)
  | succ P ih =>
    intro hs h
    cases hb : s.testBit P with
    | true =>
      rw [sw_t hb] at h
      have h' : sw_ lg s P ++ [lg P] = [] ++ [k] := h
      obtain ⟨h1, h2⟩ := List.append_inj' h' rfl
      have z := sw_nil' P h1
      refine ⟨P, by omega, ?_, by simpa using h2⟩
      apply Nat.eq_of_testBit_eq
      intro i
      by_cases e : i = P
      · subst e; rw [hb, Nat.testBit_two_pow_self]
      · rw [Nat.testBit_two_pow_of_ne (by omega)]
        rcases Nat.lt_or_ge i P with g | g
        · exact z i g
        · exact Nat.testBit_lt_two_pow (Nat.lt_of_lt_of_le hs (Nat.pow_le_pow_right (by decide) (by omega)))
    | false =>
      rw [sw_f hb] at h
      have hs' : s < 2 ^ P := by
        apply Nat.lt_pow_two_of_testBit
        intro i hi
        by_cases e : i = P
        · subst e; exact hb
        · exact Nat.testBit_lt_two_pow (Nat.lt_of_lt_of_le hs (Nat.pow_le_pow_right (by decide) (by omega)))
      obtain ⟨p, a, b⟩ := ih hs' h
      exact ⟨p, by omega, b⟩
/-! subsets and shuffles -/
def sb_ (a s : Nat) : Prop := ∀ i, a.testBit i = true → s.testBit i = true
theorem sb_iff {a s : Nat} : a &&& s = a ↔ sb_ a s := by
  constructor
  · intro h i hi
    rw [← h, Nat.testBit_and, Bool.and_eq_true] at hi
    exact hi.2
  · intro h
    apply Nat.eq_of_testBit_eq
    intro i
    rw [Nat.testBit_and]
    cases hb : a.testBit i with
    | false => rfl
    | true => rw [h i hb]; rfl
theorem sb_le {a s : Nat} (h : sb_ a s) : a ≤ s := by
  rw [← sb_iff.mpr h]; exact Nat.and_le_right
theorem sb_half {a s : Nat} (h : sb_ a s) : sb_ (a / 2) (s / 2) := by
  intro i hi
  have := h (i + 1)
  rw [Nat.testBit_succ, Nat.testBit_succ] at this
  exact this hi
theorem sb_sub : ∀ (i a s : Nat), sb_ a s → (s - a).testBit i = (s.testBit i && !a.testBit i) := by
  intro i
  induction i with
  | zero =>
    intro a s h
    have l := sb_le h
    have h0 := h 0
    rw [Nat.testBit_zero, Nat.testBit_zero] at h0
    rw [Nat.testBit_zero, Nat.testBit_zero, Nat.testBit_zero]
    by_cases ha : a % 2 = 1
    · have hs : s % 2 = 1 := by simpa [ha] using h0
      have : (s - a) % 2 = 0 := by omega
      simp [ha, hs, this]
    · have : (s - a) % 2 = s % 2 := by omega
      simp [ha, this]
  | succ i ih =>
    intro a s h
    have l := sb_le h
    have h0 := h 0
    rw [Nat.testBit_zero, Nat.testBit_zero] at h0
    have g : a % 2 ≤ s % 2 := by
      by_cases ha : a % 2 = 1
      · have hs : s % 2 = 1 := by simpa [ha] using h0
        omega
      · omega
    have e : (s - a) / 2 = s / 2 - a / 2 := by omega
    rw [Nat.testBit_succ, Nat.testBit_succ, Nat.testBit_succ, e, ih _ _ (sb_half h)]
theorem sh_l {c : Nat} : ∀ (w u v : List Nat), la_sh u v w → la_sh (u ++ [c]) v (w ++ [c]) := by
  intro w
  induction w with
  | nil => rintro u v ⟨rfl, rfl⟩; exact Or.inl ⟨[], rfl, rfl, rfl⟩
  | cons d w ih =>
    rintro u v (⟨u', rfl, h⟩ | ⟨v', rfl, h⟩)
    · exact Or.inl ⟨u' ++ [c], rfl, ih _ _ h⟩
    · exact Or.inr ⟨v', rfl, ih _ _ h⟩
theorem sh_r {c : Nat} : ∀ (w u v : List Nat), la_sh u v w → la_sh u (v ++ [c]) (w ++ [c]) := by
  intro w
  induction w with
  | nil => rintro u v ⟨rfl, rfl⟩; exact Or.inr ⟨[], rfl, rfl, rfl⟩
  | cons d w ih =>
    rintro u v (⟨u', rfl, h⟩ | ⟨v', rfl, h⟩)
    · exact Or.inl ⟨u', rfl, ih _ _ h⟩
    · exact Or.inr ⟨v' ++ [c], rfl, ih _ _ h⟩
theorem sh_cut : ∀ (w z u v : List Nat), la_sh u v (w ++ z) → ∃ u1 u2 v1 v2, u = u1 ++ u2 ∧ v = v1 ++ v2 ∧ la_sh u1 v1 w ∧ la_sh u2 v2 z := by
  intro w
  induction w with
  | nil => intro z u v h; exact ⟨[], u, [], v, rfl, rfl, ⟨rfl, rfl⟩, h⟩
  | cons d w ih =>
    rintro z u v (⟨u', rfl, h⟩ | ⟨v', rfl, h⟩)
    · obtain ⟨u1, u2, v1, v2, rfl, rfl, a, b⟩ := ih z u' v h
      exact ⟨d :: u1, u2, v1, v2, rfl, rfl, Or.inl ⟨u1, rfl, a⟩, b⟩
    · obtain ⟨u1, u2, v1, v2, rfl, rfl, a, b⟩ := ih z u v' h
      exact ⟨u1, u2, d :: v1, v2, rfl, rfl, Or.inr ⟨v1, rfl, a⟩, b⟩
theorem sh_join : ∀ (w z u1 v1 u2 v2 : List Nat), la_sh u1 v1 w → la_sh u2 v2 z → la_sh (u1 ++ u2) (v1 ++ v2) (w ++ z) := by
  intro w
  induction w with
  | nil => rintro z u1 v1 u2 v2 ⟨rfl, rfl⟩ h; exact h
  | cons d w ih =>
    rintro z u1 v1 u2 v2 (⟨u', rfl, h⟩ | ⟨v', rfl, h⟩) g
    · exact Or.inl ⟨u' ++ u2, rfl, ih _ _ _ _ _ h g⟩
    · exact Or.inr ⟨v' ++ v2, rfl, ih _ _ _ _ _ h g⟩
theorem sh_len : ∀ (w u v : List Nat), la_sh u v w → u.length + v.length = w.length ∧ ∀ c, (c ∈ u ∨ c ∈ v) → c ∈ w := by
  intro w
  induction w with
  | nil => rintro u v ⟨rfl, rfl⟩; exact ⟨rfl, fun c h => by rcases h with h | h <;> exact h⟩
  | cons d w ih =>
    rintro u v (⟨u', rfl, h⟩ | ⟨v', rfl, h⟩)
    · obtain ⟨a, b⟩ := ih _ _ h
      refine ⟨by simp only [List.length_cons]; omega, ?_⟩
      rintro c (g | g)
      · rcases List.mem_cons.mp g with rfl | g
        · exact List.mem_cons_self
        · exact List.mem_cons_of_mem _ (b c (Or.inl g))
      · exact List.mem_cons_of_mem _ (b c (Or.inr g))
    · obtain ⟨a, b⟩ := ih _ _ h
      refine ⟨by simp only [List.length_cons]; omega, ?_⟩
      rintro c (g | g)
      · exact List.mem_cons_of_mem _ (b c (Or.inl g))
      · rcases List.mem_cons.mp g with rfl | g
        · exact List.mem_cons_self
        · exact List.mem_cons_of_mem _ (b c (Or.inr g))
theorem sh_one {c : Nat} {u v : List Nat} (h : la_sh u v [c]) : (u = [c] ∧ v = []) ∨ (u = [] ∧ v = [c]) := by
  rcases h with ⟨u', rfl, rfl, rfl⟩ | ⟨v', rfl, rfl, rfl⟩
  · exact Or.inl ⟨rfl, rfl⟩
  · exact Or.inr ⟨rfl, rfl⟩
theorem sh_sw {lg : Nat → Nat} {a s : Nat} (h : sb_ a s) : ∀ P, la_sh (sw_ lg a P) (sw_ lg (s - a) P) (sw_ lg s P) := by
  intro P
  induction P with
  | zero => exact ⟨rfl, rfl⟩
  | succ P ih =>
    have d := sb_sub P a s h
    cases hb : s.testBit P with
    | false =>
      have ha : a.testBit P = false := by
        cases g : a.testBit P with
        | false => rfl
        | true => rw [h P g] at hb; exact absurd hb (by decide)
      rw [hb, Bool.false_and] at d
      rw [sw_f hb, sw_f ha, sw_f d]
      exact ih
    | true =>
      cases ha : a.testBit P with
      | true =>
        rw [ha, Bool.not_true, Bool.and_false] at d
        rw [sw_t hb, sw_t ha, sw_f d]
        exact sh_l _ _ _ ih
      | false =>
        rw [ha, hb, Bool.not_false, Bool.and_true] at d
        rw [sw_t hb, sw_f ha, sw_t d]
        exact sh_r _ _ _ ih
theorem sh_all {lg : Nat → Nat} {s : Nat} : ∀ (P : Nat) (u v : List Nat), la_sh u v (sw_ lg s P) → ∃ a, a < 2 ^ P ∧ sb_ a s ∧ sw_ lg a P = u ∧ sw_ lg (s - a) P = v := by
  intro P
  induction P with
  | zero =>
    rintro u v ⟨rfl, rfl⟩
    exact ⟨0, by decide, fun i hi => by rw [Nat.zero_testBit] at hi; exact absurd hi (by decide), rfl, rfl⟩
  | succ P ih =>
    intro u v h
    have lt2 : ∀ {a : Nat}, a < 2 ^ P → a < 2 ^ (P + 1) := fun h => by rw [Nat.pow_succ]; omega
    cases hb : s.testBit P with
    | false =>
      rw [sw_f hb] at h
      obtain ⟨a, h1, h2, h3, h4⟩ := ih u v h
      have d := sb_sub P a s h2
      rw [hb, Bool.false_and] at d
      exact ⟨a, lt2 h1, h2, by rw [sw_f (Nat.testBit_lt_two_pow h1), h3], by rw [sw_f d, h4]⟩
    | true =>
      rw [sw_t hb] at h
      obtain ⟨u1, u2, v1, v2, rfl, rfl, g1, g2⟩ := sh_cut _ _ _ _ h
      obtain ⟨a, h1, h2, h3, h4⟩ := ih u1 v1 g1
      rcases sh_one g2 with ⟨rfl, rfl⟩ | ⟨rfl, rfl⟩
      · have bt : ∀ i, (2 ^ P + a).testBit i = (decide (i = P) || a.testBit i) := by
          intro i
          rcases Nat.lt_trichotomy i P with g | g | g
          · rw [Nat.testBit_two_pow_add_gt g, decide_eq_false (by omega), Bool.false_or]
          · subst g
            rw [Nat.testBit_two_pow_add_eq, Nat.testBit_lt_two_pow h1]; simp
          · rw [Nat.testBit_lt_two_pow (Nat.lt_of_lt_of_le (show 2 ^ P + a < 2 ^ (P + 1) by rw [Nat.pow_succ]; omega) (Nat.pow_le_pow_right (by decide) g)), Nat.testBit_lt_two_pow (Nat.lt_of_lt_of_le h1 (Nat.pow_le_pow_right (by decide) (by omega))), decide_eq_false (by omega)]
            rfl
        have sub : sb_ (2 ^ P + a) s := by
          intro i hi
          rw [bt] at hi
          by_cases e : i = P
          · subst e; exact hb
          · rw [decide_eq_false e, Bool.false_or] at hi; exact h2 i hi
        refine ⟨2 ^ P + a, by rw [Nat.pow_succ]; omega, sub, ?_, ?_⟩
        · rw [sw_t (by rw [bt]; simp), sw_congr P (b := a) (fun i hi => by rw [bt, decide_eq_false (by omega), Bool.false_or]), h3]
        · rw [sw_f (by rw [sb_sub P _ _ sub, bt]; simp), sw_congr P (b := s - a) (fun i hi => by rw [sb_sub i _ _ sub, sb_sub i _ _ h2, bt, decide_eq_false (by omega), Bool.false_or]), h4, List.append_nil]
      · refine ⟨a, lt2 h1, h2, by rw [sw_f (Nat.testBit_lt_two_pow h1), h3, List.append_nil], ?_⟩
        rw [sw_t (by rw [sb_sub P _ _ h2, hb, Nat.testBit_lt_two_pow h1]; rfl), h4]
end
section
/-! costs: the least number of further events -/
def ct_ok (B : Nat) (u : List Nat) : Prop := ∀ c, c ∈ u → c < 4 ∧ B.testBit c = false
def ct_can (L : pl_L) (B : Nat) (w : List Nat) (m : Nat) : Prop := ∃ u, u.length = m ∧ ct_ok B u ∧ L (w ++ u)
def ct_C (e : Nat) (L : pl_L) (B : Nat) (w : List Nat) (c : Nat) : Prop :=
  c ≤ 100 ∧ (∀ m, ct_can L B w m → c ≤ m ∧ c ≤ e) ∧ (c < 100 → c ≤ e ∧ ct_can L B w c)
theorem ok_nil {B : Nat} : ct_ok B [] := fun c h => absurd h List.not_mem_nil
theorem ok_app {B : Nat} {u v : List Nat} : ct_ok B (u ++ v) ↔ ct_ok B u ∧ ct_ok B v := by
  constructor
  · intro h; exact ⟨fun c hc => h c (List.mem_append_left _ hc), fun c hc => h c (List.mem_append_right _ hc)⟩
  · rintro ⟨a, b⟩ c hc
    rcases List.mem_append.mp hc with g | g
    · exact a c g
    · exact b c g
theorem can_0 {L : pl_L} {B : Nat} {w : List Nat} : ct_can L B w 0 ↔ L w := by
  constructor
  · rintro ⟨u, h, _, g⟩
    rw [List.length_eq_zero_iff] at h
    subst h; rw [List.append_nil] at g; exact g
  · intro h; exact ⟨[], rfl, ok_nil, by rw [List.append_nil]; exact h⟩
theorem C_lo {e : Nat} {L : pl_L} {B : Nat} {w : List Nat} {c m : Nat} (h : ct_C e L B w c) (g : ct_can L B w m) : c ≤ m ∧ c ≤ e := h.2.1 m g
theorem C_at {e : Nat} {L : pl_L} {B : Nat} {w : List Nat} {c : Nat} (h : ct_C e L B w c) (g : c < 100) : c ≤ e ∧ ct_can L B w c := h.2.2 g
theorem C_0 {e : Nat} {L : pl_L} {B : Nat} {w : List Nat} {c : Nat} (h : ct_C e L B w c) : c = 0 ↔ L w := by
  constructor
  · rintro rfl; exact can_0.mp (C_at h (by omega)).2
  · intro g; have := (C_lo h (can_0.mpr g)).1; omega
theorem C_in {e : Nat} {L : pl_L} {B : Nat} {w : List Nat} {r : Nat} (he : e < 100) (h1 : ∀ m, ct_can L B w m → ∃ c, c ≤ m ∧ r ≤ c ∧ c ≤ e) (h2 : r < 100 → r ≤ e ∧ ct_can L B w r) : ct_C e L B w (min r 100) := by
  refine ⟨by omega, ?_, ?_⟩
  · intro m hm
    obtain ⟨c, a, b, d⟩ := h1 m hm
    omega
  · intro h
    have e1 : min r 100 = r := by omega
    rw [e1]
    exact h2 (by omega)
theorem C_no {e : Nat} {L : pl_L} {B : Nat} {w : List Nat} (h : ∀ m, ¬ ct_can L B w m) : ct_C e L B w 100 :=
  ⟨by omega, fun m hm => absurd hm (h m), fun g => by omega⟩
theorem C_z {e : Nat} {L : pl_L} {B : Nat} {w : List Nat} (h : L w) : ct_C e L B w 0 :=
  ⟨by omega, fun m _ => by omega, fun _ => ⟨by omega, can_0.mpr h⟩⟩
theorem cc_skip {B : Nat} {w : List Nat} (h : w ≠ []) : ct_C 0 la_skip B w 100 := by
  apply C_no
  rintro m ⟨u, _, _, g⟩
  exact h (List.append_eq_nil_iff.mp g).1
theorem cc_ev0 {B k : Nat} (hb : B.testBit k = true) : ct_C 1 (la_ev k) B [] 100 := by
  apply C_no
  rintro m ⟨u, _, b, g⟩
  have g : u = [k] := g
  subst g
  have := (b k List.mem_cons_self).2
  rw [hb] at this; exact absurd this (by decide)
theorem cc_ev1 {B k : Nat} (hk : k < 4) (hb : B.testBit k = false) : ct_C 1 (la_ev k) B [] 1 := by
  refine ⟨by omega, ?_, fun _ => ⟨by omega, [k], rfl, ?_, rfl⟩⟩
  · rintro m ⟨u, a, b, g⟩
    have g : u = [k] := g
    subst g
    have a : 1 = m := a
    omega
  · intro c hc
    rw [List.mem_singleton.mp hc]; exact ⟨hk, hb⟩
theorem cc_ev2 {B k : Nat} {w : List Nat} (h0 : w ≠ []) (h1 : w ≠ [k]) : ct_C 1 (la_ev k) B w 100 := by
  apply C_no
  rintro m ⟨u, _, b, g⟩
  have g : w ++ u = [k] := g
  cases w with
  | nil => exact h0 rfl
  | cons c w =>
    injection g with g1 g2
    obtain ⟨rfl, rfl⟩ := List.append_eq_nil_iff.mp g2
    exact h1 (by rw [g1])
theorem cc_seq {e1 e2 : Nat} {A A' : pl_L} {B P s r : Nat} {lg cx cy : Nat → Nat} (he : e1 + e2 < 100) (hs : s < 2 ^ P)
    (hx : ∀ s, s < 2 ^ P → ct_C e1 A B (sw_ lg s P) (cx s)) (hy : ∀ s, s < 2 ^ P → ct_C e2 A' B (sw_ lg s P) (cy s))
    (l0 : r ≤ cx s + cy 0) (l1 : ∀ p, p ≤ P → cx (s % 2 ^ p) = 0 → r ≤ cy (s - s % 2 ^ p))
    (at_ : r = cx s + cy 0 ∨ ∃ p, p ≤ P ∧ cx (s % 2 ^ p) = 0 ∧ r = cy (s - s % 2 ^ p)) : ct_C (e1 + e2) (la_seq A A') B (sw_ lg s P) (min r 100) := by
  have nil0 : sw_ lg 0 P = [] := sw_nil P (fun i _ => Nat.zero_testBit i)
  have z0 := hy 0 (Nat.two_pow_pos P)
  rw [nil0] at z0
  have lt1 : ∀ p, s % 2 ^ p < 2 ^ P := fun p => Nat.lt_of_le_of_lt (Nat.mod_le _ _) hs
  have lt2 : ∀ p, s - s % 2 ^ p < 2 ^ P := fun p => Nat.lt_of_le_of_lt (Nat.sub_le _ _) hs
  apply C_in he
  · rintro m ⟨z, hz, oz, a, b, e, ha, hb⟩
    rcases List.append_eq_append_iff.mp e with ⟨z1, e3, e4⟩ | ⟨b1, e3, e4⟩
    · subst e3 e4
      obtain ⟨o1, o2⟩ := ok_app.mp oz
      have c1 := C_lo (hx s hs) (m := z1.length) ⟨z1, rfl, o1, ha⟩
      have c2 := C_lo z0 (m := b.length) ⟨b, rfl, o2, hb⟩
      rw [List.length_append] at hz
      exact ⟨cx s + cy 0, by omega, l0, by omega⟩
    · obtain ⟨p, hp, q1, q2⟩ := sw_cut P a b1 e3
      have c1 : cx (s % 2 ^ p) = 0 := (C_0 (hx _ (lt1 p))).mpr (by rw [q1]; exact ha)
      have c2 := C_lo (hy _ (lt2 p)) (m := m) ⟨z, hz, oz, by rw [q2, ← e4]; exact hb⟩
      exact ⟨cy (s - s % 2 ^ p), c2.1, l1 p hp c1, by omega⟩
  · intro hr
    rcases at_ with e | ⟨p, hp, c1, e⟩
    · obtain ⟨a1, z1, n1, o1, g1⟩ := C_at (hx s hs) (by omega)
      obtain ⟨a2, z2, n2, o2, g2⟩ := C_at z0 (by omega)
      refine ⟨by omega, z1 ++ z2, by rw [List.length_append]; omega, ok_app.mpr ⟨o1, o2⟩, sw_ lg s P ++ z1, z2, by rw [List.append_assoc], g1, g2⟩
    · obtain ⟨a2, z2, n2, o2, g2⟩ := C_at (hy _ (lt2 p)) (by omega)
      have g1 := (C_0 (hx _ (lt1 p))).mp c1
      refine ⟨by omega, z2, by omega, o2, _, _, ?_, g1, g2⟩
      rw [← List.append_assoc, ← sw_split P hp]
theorem cc_cho {e1 e2 : Nat} {A A' : pl_L} {B : Nat} {w : List Nat} {cx cy : Nat} (hx : ct_C e1 A B w cx) (hy : ct_C e2 A' B w cy) : ct_C (e1 + e2) (la_cho A A') B w (min cx cy) := by
  refine ⟨by have := hx.1; omega, ?_, ?_⟩
  · rintro m ⟨z, hz, oz, g | g⟩
    · have := C_lo hx ⟨z, hz, oz, g⟩; omega
    · have := C_lo hy ⟨z, hz, oz, g⟩; omega
  · intro h
    by_cases q : cx ≤ cy
    · have e : min cx cy = cx := by omega
      rw [e]
      obtain ⟨a, z, n, o, g⟩ := C_at hx (by omega)
      exact ⟨by omega, z, n, o, Or.inl g⟩
    · have e : min cx cy = cy := by omega
      rw [e]
      obtain ⟨a, z, n, o, g⟩ := C_at hy (by omega)
      exact ⟨by omega, z, n, o, Or.inr g⟩
theorem cc_both {e1 e2 : Nat} {A A' : pl_L} {B P s r : Nat} {lg cx cy : Nat → Nat} (he : e1 + e2 < 100) (hs : s < 2 ^ P)
    (hx : ∀ s, s < 2 ^ P → ct_C e1 A B (sw_ lg s P) (cx s)) (hy : ∀ s, s < 2 ^ P → ct_C e2 A' B (sw_ lg s P) (cy s))
    (l1 : ∀ a, sb_ a s → r ≤ cx a + cy (s - a))
    (at_ : r = 100 ∨ ∃ a, sb_ a s ∧ r = cx a + cy (s - a)) : ct_C (e1 + e2) (la_both A A') B (sw_ lg s P) (min r 100) := by
  have lt1 : ∀ a, sb_ a s → a < 2 ^ P := fun a h => Nat.lt_of_le_of_lt (sb_le h) hs
  have lt2 : ∀ a, s - a < 2 ^ P := fun a => Nat.lt_of_le_of_lt (Nat.sub_le _ _) hs
  apply C_in he
  · rintro m ⟨z, hz, oz, u, v, hsh, hu, hv⟩
    obtain ⟨u1, u2, v1, v2, rfl, rfl, g1, g2⟩ := sh_cut _ _ _ _ hsh
    obtain ⟨a, h1, h2, h3, h4⟩ := sh_all P u1 v1 g1
    obtain ⟨n, mem⟩ := sh_len _ _ _ g2
    have c1 := C_lo (hx a (lt1 a h2)) (m := u2.length) ⟨u2, rfl, fun c hc => oz c (mem c (Or.inl hc)), by rw [h3]; exact hu⟩
    have c2 := C_lo (hy (s - a) (lt2 a)) (m := v2.length) ⟨v2, rfl, fun c hc => oz c (mem c (Or.inr hc)), by rw [h4]; exact hv⟩
    exact ⟨cx a + cy (s - a), by omega, l1 a h2, by omega⟩
  · intro hr
    rcases at_ with e | ⟨a, h2, e⟩
    · omega
    · obtain ⟨a1, z1, n1, o1, g1⟩ := C_at (hx a (lt1 a h2)) (by omega)
      obtain ⟨a2, z2, n2, o2, g2⟩ := C_at (hy _ (lt2 a)) (by omega)
      refine ⟨by omega, z1 ++ z2, by rw [List.length_append]; omega, ok_app.mpr ⟨o1, o2⟩, _, _, sh_join _ _ _ _ _ _ (sh_sw h2 P) (sh_app z1 z2), g1, g2⟩
theorem lo_split {A : pl_L} {z : List Nat} {w : List Nat} (hw : w ≠ []) : ∀ ws : List (List Nat), w ++ z = ws.flatten → (∀ x, x ∈ ws → A x) →
    (∃ a b, z = a ++ b ∧ A (w ++ a)) ∨ (∃ u v, w = u ++ v ∧ u ≠ [] ∧ v ≠ [] ∧ A u ∧ la_loop A (v ++ z)) := by
  intro ws
  induction ws with
  | nil => intro e _; exact absurd (List.append_eq_nil_iff.mp e).1 hw
  | cons x ws ih =>
    intro e h
    rw [List.flatten_cons] at e
    by_cases hx : x = []
    · subst hx
      exact ih e (fun y hy => h y (List.mem_cons_of_mem _ hy))
    · have hA := h x List.mem_cons_self
      rcases List.append_eq_append_iff.mp e with ⟨z1, e3, e4⟩ | ⟨b1, e3, e4⟩
      · exact Or.inl ⟨z1, ws.flatten, e4, by rw [← e3]; exact hA⟩
      · by_cases hb : b1 = []
        · subst hb
          rw [List.append_nil] at e3
          exact Or.inl ⟨[], z, rfl, by rw [List.append_nil, e3]; exact hA⟩
        · exact Or.inr ⟨x, b1, e3, hx, hb, hA, ws, e4.symm, fun y hy => h y (List.mem_cons_of_mem _ hy)⟩
theorem lo_one {A : pl_L} {w : List Nat} (h : A w) : la_loop A w := ⟨[w], by simp, by simpa using h⟩
theorem lo_cons {A : pl_L} {u v : List Nat} (h : A u) (g : la_loop A v) : la_loop A (u ++ v) := by
  obtain ⟨ws, e, q⟩ := g
  refine ⟨u :: ws, by rw [List.flatten_cons, e], ?_⟩
  intro x hx
  rcases List.mem_cons.mp hx with rfl | hx
  · exact h
  · exact q x hx
theorem lo_nil {A : pl_L} : la_loop A [] := ⟨[], rfl, by simp⟩
theorem cc_loop {e1 : Nat} {A : pl_L} {B P s r : Nat} {lg cx cn : Nat → Nat} (hs : s < 2 ^ P) (h0 : s ≠ 0)
    (hx : ∀ s, s < 2 ^ P → ct_C e1 A B (sw_ lg s P) (cx s)) (hy : ∀ t, t < s → ct_C e1 (la_loop A) B (sw_ lg t P) (cn t))
    (l0 : r ≤ cx s) (l1 : ∀ p, p ≤ P → s % 2 ^ p ≠ 0 → s % 2 ^ p ≠ s → cx (s % 2 ^ p) = 0 → r ≤ cn (s - s % 2 ^ p))
    (at_ : r = cx s ∨ ∃ p, p ≤ P ∧ s % 2 ^ p ≠ 0 ∧ s % 2 ^ p ≠ s ∧ cx (s % 2 ^ p) = 0 ∧ r = cn (s - s % 2 ^ p)) : ct_C e1 (la_loop A) B (sw_ lg s P) r := by
  have lt1 : ∀ p, s % 2 ^ p < 2 ^ P := fun p => Nat.lt_of_le_of_lt (Nat.mod_le _ _) hs
  have hw : sw_ lg s P ≠ [] := fun h => h0 ((sw_nil_iff hs).mp h)
  refine ⟨by have := (hx s hs).1; omega, ?_, ?_⟩
  · rintro m ⟨z, hz, oz, ws, e, hA⟩
    rcases lo_split hw ws e hA with ⟨a, b, rfl, g⟩ | ⟨u, v, e, nu, nv, g, g'⟩
    · have := C_lo (hx s hs) (m := a.length) ⟨a, rfl, (ok_app.mp oz).1, g⟩
      rw [List.length_append] at hz
      omega
    · obtain ⟨p, hp, q1, q2⟩ := sw_cut P u v e
      have n0 : s % 2 ^ p ≠ 0 := fun h => nu (by rw [← q1, h]; exact sw_nil P (fun i _ => Nat.zero_testBit i))
      have n1 : s % 2 ^ p ≠ s := fun h => nv (by rw [← q2, h, Nat.sub_self]; exact sw_nil P (fun i _ => Nat.zero_testBit i))
      have c1 : cx (s % 2 ^ p) = 0 := (C_0 (hx _ (lt1 p))).mpr (by rw [q1]; exact g)
      have c2 := C_lo (hy (s - s % 2 ^ p) (by omega)) (m := m) ⟨z, hz, oz, by rw [q2]; exact g'⟩
      have := l1 p hp n0 n1 c1
      omega
  · intro hr
    rcases at_ with e | ⟨p, hp, n0, n1, c1, e⟩
    · obtain ⟨a1, z1, m1, o1, g1⟩ := C_at (hx s hs) (by omega)
      exact ⟨by omega, z1, by omega, o1, lo_one g1⟩
    · obtain ⟨a2, z2, m2, o2, g2⟩ := C_at (hy (s - s % 2 ^ p) (by omega)) (by omega)
      have g1 := (C_0 (hx _ (lt1 p))).mp c1
      refine ⟨by omega, z2, by omega, o2, ?_⟩
      rw [sw_split P hp, List.append_assoc]
      exact lo_cons g1 g2
theorem cc_opt {e1 : Nat} {A : pl_L} {B : Nat} {w : List Nat} {cx : Nat} (hw : w ≠ []) (hx : ct_C e1 A B w cx) : ct_C e1 (la_opt A) B w cx := by
  have e : ∀ m, ct_can (la_opt A) B w m ↔ ct_can A B w m := by
    intro m
    constructor
    · rintro ⟨z, a, b, g | g⟩
      · exact absurd (List.append_eq_nil_iff.mp g).1 hw
      · exact ⟨z, a, b, g⟩
    · rintro ⟨z, a, b, g⟩; exact ⟨z, a, b, Or.inr g⟩
  refine ⟨hx.1, fun m hm => hx.2.1 m ((e m).mp hm), fun h => ?_⟩
  have := hx.2.2 h
  exact ⟨this.1, (e cx).mpr this.2⟩
end
section
/-! the postfix code read as a stack of languages -/
abbrev st_T : Type := Nat × (Nat → Nat) × (Nat → pl_L)
def st_put {α : Type} (f : Nat → α) (k : Nat) (v : α) : Nat → α := fun j => if j = k then v else f j
theorem pt_s {α : Type} {f : Nat → α} {k : Nat} {v : α} : st_put f k v k = v := if_pos rfl
theorem pt_n {α : Type} {f : Nat → α} {k j : Nat} {v : α} (h : j ≠ k) : st_put f k v j = f j := if_neg h
def la_bin (op : Nat) (A B : pl_L) : pl_L := if op = 5 then la_seq A B else if op = 6 then la_cho A B else la_both A B
def la_un (op : Nat) (A : pl_L) : pl_L := if op = 8 then la_loop A else la_opt A
def st_step (g : st_T) (op : Nat) : st_T :=
  if op < 4 then (g.1 + 1, st_put g.2.1 g.1 1, st_put g.2.2 g.1 (la_ev op))
  else if op = 4 then (g.1 + 1, st_put g.2.1 g.1 0, st_put g.2.2 g.1 la_skip)
  else if op < 8 then (g.1 - 1, st_put g.2.1 (g.1 - 2) (g.2.1 (g.1 - 2) + g.2.1 (g.1 - 1)), st_put g.2.2 (g.1 - 2) (la_bin op (g.2.2 (g.1 - 2)) (g.2.2 (g.1 - 1))))
  else (g.1, g.2.1, st_put g.2.2 (g.1 - 1) (la_un op (g.2.2 (g.1 - 1))))
theorem ss_ev {g : st_T} {op : Nat} (h : op < 4) : st_step g op = (g.1 + 1, st_put g.2.1 g.1 1, st_put g.2.2 g.1 (la_ev op)) := if_pos h
theorem ss_sk {g : st_T} : st_step g 4 = (g.1 + 1, st_put g.2.1 g.1 0, st_put g.2.2 g.1 la_skip) := rfl
theorem ss_bi {g : st_T} {op : Nat} (h : 5 ≤ op) (h' : op < 8) : st_step g op = (g.1 - 1, st_put g.2.1 (g.1 - 2) (g.2.1 (g.1 - 2) + g.2.1 (g.1 - 1)), st_put g.2.2 (g.1 - 2) (la_bin op (g.2.2 (g.1 - 2)) (g.2.2 (g.1 - 1)))) := by
  unfold st_step
  rw [if_neg (by omega), if_neg (by omega), if_pos h']
theorem ss_un {g : st_T} {op : Nat} (h : 8 ≤ op) : st_step g op = (g.1, g.2.1, st_put g.2.2 (g.1 - 1) (la_un op (g.2.2 (g.1 - 1)))) := by
  unfold st_step
  rw [if_neg (by omega), if_neg (by omega), if_neg (by omega)]
def st_run (c : List Nat) : st_T := c.foldl st_step (0, fun _ => 0, fun _ => la_skip)
theorem sr_snoc (c : List Nat) (op : Nat) : st_run (c ++ [op]) = st_step (st_run c) op := by
  unfold st_run; rw [List.foldl_append]; rfl
def st_v (d op : Nat) : Prop := op ≤ 9 ∧ (5 ≤ op → op < 8 → 2 ≤ d) ∧ (8 ≤ op → 1 ≤ d)
def st_ok (c : List Nat) : Prop := ∀ i, i < c.length → st_v (st_run (c.take i)).1 (c.getD i 0)
theorem sk_nil : st_ok [] := fun i hi => absurd hi (by simp)
theorem sk_snoc {c : List Nat} {op : Nat} (h : st_ok c) (g : st_v (st_run c).1 op) : st_ok (c ++ [op]) := by
  intro i hi
  rw [List.length_append] at hi
  have hi : i < c.length + 1 := hi
  by_cases e : i < c.length
  · have q := h i e
    rw [List.take_append_of_le_length (by omega)]
    have : (c ++ [op]).getD i 0 = c.getD i 0 := by
      simp only [List.getD_eq_getElem?_getD]
      rw [List.getElem?_append_left e]
    rw [this]; exact q
  · have e : i = c.length := by omega
    subst e
    have : (c ++ [op]).getD c.length 0 = op := by
      simp only [List.getD_eq_getElem?_getD]
      rw [List.getElem?_append_right (Nat.le_refl _)]
      simp
    rw [this, List.take_append_of_le_length (Nat.le_refl _), List.take_length]
    exact g
theorem tk_s {c : List Nat} {i : Nat} (h : i < c.length) : c.take (i + 1) = c.take i ++ [c.getD i 0] := by
  rw [List.take_add_one, List.getD_eq_getElem?_getD, List.getElem?_eq_getElem h]
  rfl
def st_sum (E : Nat → Nat) : Nat → Nat
  | 0 => 0
  | d + 1 => st_sum E d + E d
theorem sm_put {E : Nat → Nat} {k v : Nat} : ∀ d, d ≤ k → st_sum (st_put E k v) d = st_sum E d := by
  intro d
  induction d with
  | zero => intro _; rfl
  | succ d ih =>
    intro h
    show st_sum _ d + st_put E k v d = st_sum E d + E d
    rw [ih (by omega), pt_n (by omega)]
theorem sm_le {E : Nat → Nat} : ∀ d i, i < d → E i ≤ st_sum E d := by
  intro d
  induction d with
  | zero => intro i h; omega
  | succ d ih =>
    intro i h
    show _ ≤ st_sum E d + E d
    by_cases e : i = d
    · subst e; omega
    · have := ih i (by omega); omega
theorem sm_le2 {E : Nat → Nat} {d : Nat} (h : 2 ≤ d) : E (d - 2) + E (d - 1) ≤ st_sum E d := by
  obtain ⟨k, rfl⟩ : ∃ k, d = k + 2 := ⟨d - 2, by omega⟩
  show E k + E (k + 1) ≤ st_sum E k + E k + E (k + 1)
  omega
theorem sm_push {E : Nat → Nat} {d v : Nat} : st_sum (st_put E d v) (d + 1) = st_sum E d + v := by
  show st_sum (st_put E d v) d + st_put E d v d = _
  rw [sm_put d (Nat.le_refl _), pt_s]
theorem sm_bin {E : Nat → Nat} {d : Nat} (h : 2 ≤ d) : st_sum (st_put E (d - 2) (E (d - 2) + E (d - 1))) (d - 1) = st_sum E d := by
  obtain ⟨k, rfl⟩ : ∃ k, d = k + 2 := ⟨d - 2, by omega⟩
  show st_sum (st_put E k (E k + E (k + 1))) (k + 1) = st_sum E k + E k + E (k + 1)
  rw [sm_push, Nat.add_assoc]
theorem sr_bound {c : List Nat} (h : st_ok c) : ∀ i, i ≤ c.length → (st_run (c.take i)).1 ≤ i ∧ st_sum (st_run (c.take i)).2.1 (st_run (c.take i)).1 ≤ i := by
  intro i
  induction i with
  | zero => intro _; rw [List.take_zero]; exact ⟨Nat.le_refl _, Nat.le_refl _⟩
  | succ i ih =>
    intro hi
    obtain ⟨a, b⟩ := ih (by omega)
    obtain ⟨v1, v2, v3⟩ := h i (by omega)
    rw [tk_s (by omega), sr_snoc]
    generalize st_run (c.take i) = g at *
    generalize c.getD i 0 = op at *
    by_cases h4 : op < 4
    · rw [ss_ev h4]
      refine ⟨by show g.1 + 1 ≤ _; omega, ?_⟩
      show st_sum (st_put g.2.1 g.1 1) (g.1 + 1) ≤ _
      rw [sm_push]; omega
    · by_cases e4 : op = 4
      · subst e4
        rw [ss_sk]
        refine ⟨by show g.1 + 1 ≤ _; omega, ?_⟩
        show st_sum (st_put g.2.1 g.1 0) (g.1 + 1) ≤ _
        rw [sm_push]; omega
      · by_cases h8 : op < 8
        · rw [ss_bi (by omega) h8]
          refine ⟨by show g.1 - 1 ≤ _; omega, ?_⟩
          show st_sum (st_put g.2.1 (g.1 - 2) _) (g.1 - 1) ≤ _
          rw [sm_bin (v2 (by omega) h8)]; omega
        · rw [ss_un (by omega)]
          exact ⟨by show g.1 ≤ _; omega, by show st_sum g.2.1 g.1 ≤ _; omega⟩
/-! a machine in the arrays -/
def ma_D (mv : Nat → Int64) (x n : Nat) : Nat → Nat → Nat → Prop := fun s k t => s < n ∧ k < 4 ∧ mb_ (mv (pl_ x s k)) t
def ma_ (sz : Nat → Int32) (en mv : Nat → Int64) (x e : Nat) (L : pl_L) : Prop :=
  ∃ n, sz x = nI n ∧ n ≤ 2 ^ e ∧ au_ok n (ma_D mv x n) (fun t => mb_ (en x) t) L
theorem p6 {e : Nat} (h : e ≤ 6) : 2 ^ e ≤ 64 := Nat.pow_le_pow_right (n := 2) (by decide) h
theorem ma_fr {sz sz' : Nat → Int32} {en en' mv mv' : Nat → Int64} {x x' e : Nat} {L : pl_L} (he : e ≤ 6) (h : ma_ sz en mv x e L) (h1 : sz' x' = sz x) (h2 : en' x' = en x) (h3 : ∀ n, sz x = nI n → n ≤ 64 → ∀ s k, s < n → k < 4 → mv' (pl_ x' s k) = mv (pl_ x s k)) : ma_ sz' en' mv' x' e L := by
  obtain ⟨n, a, b, c⟩ := h
  have n64 : n ≤ 64 := Nat.le_trans b (p6 he)
  refine ⟨n, by rw [h1, a], b, au_congr ?_ (fun t => by show mb_ (en' x') t ↔ mb_ (en x) t; rw [h2]) c⟩
  intro s k t
  constructor
  · rintro ⟨p, q, r⟩; rw [h3 n a n64 s k p q] at r; exact ⟨p, q, r⟩
  · rintro ⟨p, q, r⟩; rw [← h3 n a n64 s k p q] at r; exact ⟨p, q, r⟩
/-- everything but machine x and the spare stays -/
def fr_ (x : Nat) (sz : Nat → Int32) (en mv : Nat → Int64) (sz' : Nat → Int32) (en' mv' : Nat → Int64) : Prop :=
  ∀ z, z ≠ x → z ≠ 9 → sz' z = sz z ∧ en' z = en z ∧ ∀ s k, s < 64 → k < 4 → mv' (pl_ z s k) = mv (pl_ z s k)
theorem fr_ma {x : Nat} {sz sz' : Nat → Int32} {en mv en' mv' : Nat → Int64} (h : fr_ x sz en mv sz' en' mv') {z e : Nat} {L : pl_L} (hz : z ≠ x) (h9 : z ≠ 9) (he : e ≤ 6) (g : ma_ sz en mv z e L) : ma_ sz' en' mv' z e L := by
  obtain ⟨a, b, c⟩ := h z hz h9
  exact ma_fr he g a b (fun n _ hn s k hs hk => c s k (by omega) hk)
end
section
/-! X's private loops, each with a general post -/
section
variable {sd sc ec ll : Int32} {sz : Nat → Int32} {en mv : Nat → Int64} {lo : Nat → Int32} {re : Nat → Int64}
theorem plb {z s k : Nat} (hz : z < 10) (hs : s < 64) (hk : k < 4) : pl_ z s k < 2 ^ 31 := Nat.lt_of_lt_of_le (pl_lt hz hs hk) (by decide)
theorem pli {z s k : Nat} (hz : z < 10) (hs : s < 64) (hk : k < 4) : vp_in (nI (pl_ z s k)) 2560 := vp_in_nI (pl_lt hz hs hk) (by decide)
theorem plc {z s k : Nat} (hz : z < 10) (hs : s < 64) (hk : k < 4) : (nI (pl_ z s k)).toNatClampNeg = pl_ z s k := nI_clamp (plb hz hs hk)
theorem z10 {x : Nat} (hx : x < 10) : vp_in (nI x) 10 := vp_in_nI hx (by decide)
theorem z10c {x : Nat} (hx : x < 10) : (nI x).toNatClampNeg = x := nI_clamp (by omega)
/- clearMoves -/
theorem xw_cl17 {post : SX → Prop} {J : Int32 → (Nat → Int32) → (Nat → Int64) → (Nat → Int64) → (Nat → Int32) → (Nat → Int64) → Prop} {x s : Nat} {x2 : Int32} (hx : x < 10) (hs : s < 64)
    (h : ∀ mv', gx_ mv mv' x (fun s' _ => s' < s + 1) (fun _ _ v => v = 0) → J (nI (s + 1)) sz en mv' lo re) :
    ∀ d j, j + d = 4 → ∀ mv', gx_ mv mv' x (fun s' k' => s' < s ∨ (s' = s ∧ k' < j)) (fun _ _ v => v = 0) → wX_clearMoves_17 post J (nI x) x2 (nI s) sd sc ec ll (d + 1) (nI j) sz en mv' lo re := by
  intro d
  induction d with
  | zero =>
    intro j hj mv' g
    have : j = 4 := by omega
    subst this
    exact br_t (nI_le (a := 4) (b := 4) (by omega) (by decide)) (nm_r (nI_1 s) (h mv' (gx_c g (fun s' k' _ hk' => by omega))))
  | succ d ih =>
    intro j hj mv' g
    have hk : j < 4 := by omega
    refine br_f (nI_ge (b := 4) hk (by decide)) (pl_wp hx hs hk ⟨pli hx hs hk, ?_⟩)
    refine nm_r (e' := vp_updL mv' (pl_ x s j) 0) (by rw [plc hx hs hk]) (nm_r (nI_1 j) (ih (j + 1) (by omega) _ ?_))
    exact gx_s g hs hk rfl (fun s' k' _ => by omega)
theorem xw_cl9 {post : SX → Prop} {x n : Nat} (hx : x < 10) (hn : n ≤ 64)
    (h : ∀ mv', gx_ mv mv' x (fun s' _ => s' < n) (fun _ _ v => v = 0) → post (sd, sc, ec, ll, sz, en, mv', lo, re)) :
    ∀ d s, s + d = n → ∀ mv', gx_ mv mv' x (fun s' _ => s' < s) (fun _ _ v => v = 0) → wX_clearMoves_9 post (nI x) (nI n) sd sc ec ll (d + 1) (nI s) sz en mv' lo re := by
  intro d
  induction d with
  | zero =>
    intro s hs mv' g
    have : s = n := by omega
    subst this
    exact br_t (nI_le (Nat.le_refl _) (by omega)) (h mv' g)
  | succ d ih =>
    intro s hs mv' g
    refine br_f (nI_ge (by omega) (by omega)) ⟨5, xw_cl17 (mv := mv) hx (by omega) (fun mv'' g' => ih (s + 1) (by omega) mv'' g') 4 0 (by omega) mv' ?_⟩
    exact gx_c g (fun s' k' _ _ => by omega)
theorem xw_clear {post : SX → Prop} {x n : Nat} (hx : x < 10) (hn : n ≤ 64) (hz : sz x = nI n)
    (h : ∀ mv', gx_ mv mv' x (fun s' _ => s' < n) (fun _ _ v => v = 0) → post (sd, sc, ec, ll, sz, en, mv', lo, re)) :
    wpX_clearMoves post (sd, sc, ec, ll, sz, en, mv, lo, re) (nI x) := by
  refine ⟨z10 hx, nm_r (e' := nI n) (by rw [z10c hx, hz]) ⟨n + 1, ?_⟩⟩
  exact xw_cl9 (mv := mv) hx hn h n 0 (by omega) mv (gx_0 (fun s k _ => by omega))
/- copyMachine -/
theorem xw_cp38 {post : SX → Prop} {J : Int32 → (Nat → Int32) → (Nat → Int64) → (Nat → Int64) → (Nat → Int32) → (Nat → Int64) → Prop} {y x s : Nat} {x3 : Int32} (hy : y < 10) (hx : x < 10) (hyx : y ≠ x) (hs : s < 64)
    (h : ∀ mv', gx_ mv mv' x (fun s' _ => s' < s + 1) (fun s' k' v => v = mv (pl_ y s' k')) → J (nI (s + 1)) sz en mv' lo re) :
    ∀ d j, j + d = 4 → ∀ mv', gx_ mv mv' x (fun s' k' => s' < s ∨ (s' = s ∧ k' < j)) (fun s' k' v => v = mv (pl_ y s' k')) → wX_copyMachine_38 post J (nI y) (nI x) x3 (nI s) sd sc ec ll (d + 1) (nI j) sz en mv' lo re := by
  intro d
  induction d with
  | zero =>
    intro j hj mv' g
    have : j = 4 := by omega
    subst this
    exact br_t (nI_le (a := 4) (b := 4) (by omega) (by decide)) (nm_r (nI_1 s) (h mv' (gx_c g (fun s' k' _ hk' => by omega))))
  | succ d ih =>
    intro j hj mv' g
    have hk : j < 4 := by omega
    refine br_f (nI_ge (b := 4) hk (by decide)) (pl_wp hx hs hk (pl_wp hy hs hk ⟨pli hy hs hk, pli hx hs hk, ?_⟩))
    refine nm_r (e' := vp_updL mv' (pl_ x s j) (mv' (pl_ y s j))) (by rw [plc hx hs hk, plc hy hs hk]) (nm_r (nI_1 j) (ih (j + 1) (by omega) _ ?_))
    exact gx_s g hs hk ((g y s j hs hk).2 (fun q => hyx q.1)) (fun s' k' _ => by omega)
theorem xw_cp29 {post : SX → Prop} {y x n : Nat} (hy : y < 10) (hx : x < 10) (hyx : y ≠ x) (hn : n ≤ 64)
    (h : ∀ mv', gx_ mv mv' x (fun s' _ => s' < n) (fun s' k' v => v = mv (pl_ y s' k')) → post (sd, sc, ec, ll, sz, en, mv', lo, re)) :
    ∀ d s, s + d = n → ∀ mv', gx_ mv mv' x (fun s' _ => s' < s) (fun s' k' v => v = mv (pl_ y s' k')) → wX_copyMachine_29 post (nI y) (nI x) (nI n) sd sc ec ll (d + 1) (nI s) sz en mv' lo re := by
  intro d
  induction d with
  | zero =>
    intro s hs mv' g
    have : s = n := by omega
    subst this
    exact br_t (nI_le (Nat.le_refl _) (by omega)) (h mv' g)
  | succ d ih =>
    intro s hs mv' g
    refine br_f (nI_ge (by omega) (by omega)) ⟨5, xw_cp38 (mv := mv) hy hx hyx (by omega) (fun mv'' g' => ih (s + 1) (by omega) mv'' g') 4 0 (by omega) mv' ?_⟩
    exact gx_c g (fun s' k' _ _ => by omega)
theorem xw_copy {post : SX → Prop} {y x n : Nat} (hy : y < 10) (hx : x < 10) (hyx : y ≠ x) (hn : n ≤ 64) (hz : sz y = nI n)
    (h : ∀ mv', gx_ mv mv' x (fun s' _ => s' < n) (fun s' k' v => v = mv (pl_ y s' k')) → post (sd, sc, ec, ll, upd sz x (nI n), vp_updL en x (en y), mv', lo, re)) :
    wpX_copyMachine post (sd, sc, ec, ll, sz, en, mv, lo, re) (nI y) (nI x) := by
  refine ⟨z10 hy, nm_r (e' := nI n) (by rw [z10c hy, hz]) ⟨z10 hx, nm_r (e' := upd sz x (nI n)) (by rw [z10c hx]) ⟨z10 hy, z10 hx, nm_r (e' := vp_updL en x (en y)) (by rw [z10c hx, z10c hy]) ⟨n + 1, ?_⟩⟩⟩⟩
  exact xw_cp29 (mv := mv) hy hx hyx hn h n 0 (by omega) mv (gx_0 (fun s k _ => by omega))
/- addMoves -/
theorem xw_ad11 {post : SX → Prop} {x n k : Nat} {fs tg : Int64} (hx : x < 10) (hk : k < 4) (hn : n ≤ 64)
    (h : ∀ mv', gx_ mv mv' x (fun s' k' => s' < n ∧ k' = k ∧ mb_ fs s') (fun s' k' v => v = mv (pl_ x s' k') ||| tg) → post (sd, sc, ec, ll, sz, en, mv', lo, re)) :
    ∀ d i, i + d = n → ∀ mv', gx_ mv mv' x (fun s' k' => s' < i ∧ k' = k ∧ mb_ fs s') (fun s' k' v => v = mv (pl_ x s' k') ||| tg) → wX_addMoves_11 post (nI x) fs (nI k) tg (nI n) sd sc ec ll (d + 1) (nI i) sz en mv' lo re := by
  intro d
  induction d with
  | zero =>
    intro i hi mv' g
    have : i = n := by omega
    subst this
    exact br_t (nI_le (Nat.le_refl _) (by omega)) (h mv' g)
  | succ d ih =>
    intro i hi mv' g
    have hs : i < 64 := by omega
    refine br_f (nI_ge (by omega) (by omega)) (mb_has hs (fun hb => ?_) (fun hb => ?_))
    · refine br_f (by decide) (pl_wp hx hs hk ⟨pli hx hs hk, pli hx hs hk, ?_⟩)
      refine nm_r (e' := vp_updL mv' (pl_ x i k) (mv (pl_ x i k) ||| tg)) (by rw [plc hx hs hk, (g x i k hs hk).2 (fun q => by omega)]) (nm_r (nI_1 i) (ih (i + 1) (by omega) _ ?_))
      refine gx_s g hs hk rfl (fun s' k' _ => ?_)
      constructor
      · rintro ⟨a, b, c⟩
        by_cases e : s' = i
        · exact Or.inr ⟨e, b⟩
        · exact Or.inl ⟨by omega, b, c⟩
      · rintro (⟨a, b, c⟩ | ⟨rfl, b⟩)
        · exact ⟨by omega, b, c⟩
        · exact ⟨by omega, b, hb⟩
    · refine br_t rfl (nm_r (nI_1 i) (ih (i + 1) (by omega) _ (gx_c g (fun s' k' _ _ => ?_))))
      constructor
      · rintro ⟨a, b, c⟩
        refine ⟨?_, b, c⟩
        rcases Nat.lt_or_ge s' i with q | q
        · exact q
        · have : s' = i := by omega
          subst this; exact absurd c hb
      · rintro ⟨a, b, c⟩; exact ⟨by omega, b, c⟩
theorem xw_add {post : SX → Prop} {x n k : Nat} {fs tg : Int64} (hx : x < 10) (hk : k < 4) (hn : n ≤ 64) (hz : sz x = nI n)
    (h : ∀ mv', gx_ mv mv' x (fun s' k' => s' < n ∧ k' = k ∧ mb_ fs s') (fun s' k' v => v = mv (pl_ x s' k') ||| tg) → post (sd, sc, ec, ll, sz, en, mv', lo, re)) :
    wpX_addMoves post (sd, sc, ec, ll, sz, en, mv, lo, re) (nI x) fs (nI k) tg := by
  refine ⟨z10 hx, nm_r (e' := nI n) (by rw [z10c hx, hz]) ⟨n + 1, ?_⟩⟩
  exact xw_ad11 (mv := mv) hx hk hn h n 0 (by omega) mv (gx_0 (fun s k _ => by omega))
/- appendStates -/
def ap_R (mv : Nat → Int64) (x y nx : Nat) (fs : Int64) : Nat → Nat → Int64 → Prop := fun s k v =>
  ∀ t, t < 64 → (mb_ v t ↔ (s < nx ∧ (mb_ (mv (pl_ x s k)) t ∨ (mb_ fs s ∧ nx - 1 ≤ t ∧ mb_ (mv (pl_ y 0 k)) (t - (nx - 1))))) ∨ (nx ≤ s ∧ nx - 1 ≤ t ∧ mb_ (mv (pl_ y (s - (nx - 1)) k)) (t - (nx - 1))))
theorem xw_ap57 {post : SX → Prop} {J : Int32 → Int32 → Int32 → Int32 → Int32 → (Nat → Int32) → (Nat → Int64) → (Nat → Int64) → (Nat → Int32) → (Nat → Int64) → Prop} {x y nx ny k : Nat} {fs : Int64} (hx : x < 10) (hy : y < 10) (hyx : y ≠ x) (hk : k < 4) (px : 0 < nx) (hN : nx + ny - 1 ≤ 64)
    (h : ∀ mv', gx_ mv mv' x (fun s' k' => k' < k + 1 ∧ s' < nx + ny - 1) (ap_R mv x y nx fs) → J (nI (k + 1)) sd sc ec ll sz en mv' lo re) :
    ∀ d s, s + d = ny → 1 ≤ s → ∀ mv', gx_ mv mv' x (fun s' k' => (k' < k ∧ s' < nx + ny - 1) ∨ (k' = k ∧ s' < nx - 1 + s)) (ap_R mv x y nx fs) → wX_appendStates_57 post J (nI x) (nI y) fs (nI (nx - 1)) (nI ny) (nI k) sd sc ec ll (d + 1) (nI s) sz en mv' lo re := by
  intro d
  induction d with
  | zero =>
    intro s hs h1 mv' g
    have : s = ny := by omega
    subst this
    exact br_t (nI_le (Nat.le_refl _) (by omega)) (nm_r (nI_1 k) (h mv' (gx_c g (fun s' k' _ _ => by omega))))
  | succ d ih =>
    intro s hs h1 mv' g
    have a1 : nx - 1 + s < 64 := by omega
    have a2 : s < 64 := by omega
    refine br_f (nI_ge (by omega) (by omega)) ?_
    rw [nI_add]
    refine pl_wp hx a1 hk (pl_wp hy a2 hk ⟨pli hy a2 hk, pli hx a1 hk, ?_⟩)
    refine nm_r (e' := vp_updL mv' (pl_ x (nx - 1 + s) k) (mv (pl_ y s k) <<< ((nI (nx - 1)).toInt64 &&& 63))) (by rw [plc hx a1 hk, plc hy a2 hk, (g y s k a2 hk).2 (fun q => hyx q.1)]) (nm_r (nI_1 s) (ih (s + 1) (by omega) (by omega) _ ?_))
    refine gx_s g a1 hk ?_ (fun s' k' _ => by omega)
    intro t ht
    rw [mb_shl (by omega) _ ht, show nx - 1 + s - (nx - 1) = s by omega]
    constructor
    · intro q; exact Or.inr ⟨by omega, q⟩
    · rintro (q | q)
      · omega
      · exact q.2
theorem xw_ap21 {post : SX → Prop} {x y nx ny : Nat} {fs : Int64} (hx : x < 10) (hy : y < 10) (hyx : y ≠ x) (px : 0 < nx) (py : 0 < ny) (hN : nx + ny - 1 ≤ 64) (hzx : sz x = nI nx)
    (h : ∀ mv', gx_ mv mv' x (fun s' _ => s' < nx + ny - 1) (ap_R mv x y nx fs) → post (sd, sc, ec, ll, upd sz x (nI (nx + ny - 1)), en, mv', lo, re)) :
    ∀ d k, k + d = 4 → ∀ mv', gx_ mv mv' x (fun s' k' => k' < k ∧ s' < nx + ny - 1) (ap_R mv x y nx fs) → wX_appendStates_21 post (nI x) (nI y) fs (nI (nx - 1)) (nI ny) (d + 1) (nI k) sd sc ec ll sz en mv' lo re := by
  intro d
  induction d with
  | zero =>
    intro k hk mv' g
    have : k = 4 := by omega
    subst this
    refine br_t (nI_le (a := 4) (b := 4) (by omega) (by decide)) ⟨z10 hx, z10 hx, nm_r (e' := upd sz x (nI (nx + ny - 1))) ?_ (h mv' (gx_c g (fun s' k' _ _ => by omega)))⟩
    have e1 : nI ny - 1 = nI (ny - 1) := by
      have := pk_sub (a := ny) (b := 1) (by omega)
      exact this
    rw [z10c hx, hzx, e1, nI_add, show nx + (ny - 1) = nx + ny - 1 by omega]
  | succ d ih =>
    intro k hk' mv' g
    have hk : k < 4 := by omega
    refine br_f (nI_ge (b := 4) hk (by decide)) ?_
    refine pl_wp (s := 0) hy (by omega) hk ⟨pli hy (by omega) hk, nm_r (e' := mv (pl_ y 0 k) <<< ((nI (nx - 1)).toInt64 &&& 63)) (by rw [plc hy (by omega) hk, (g y 0 k (by omega) hk).2 (fun q => hyx q.1)]) ?_⟩
    refine xw_add hx hk (n := nx) (by omega) hzx (fun mv'' g'' => ⟨ny - 1 + 1, ?_⟩)
    refine xw_ap57 (mv := mv) hx hy hyx hk px hN (fun mv3 g3 => ih (k + 1) (by omega) mv3 g3) (ny - 1) 1 (by omega) (by omega) mv'' ?_
    intro z s k' hs hk'
    have q1 := g z s k' hs hk'
    have q2 := g'' z s k' hs hk'
    constructor
    · rintro ⟨rfl, a | a⟩
      · rw [q2.2 (fun b => by omega)]
        exact q1.1 ⟨rfl, a⟩
      · obtain ⟨rfl, a⟩ := a
        have q3 := q1.2 (fun b => by omega)
        by_cases hb : mb_ fs s
        · have q4 := q2.1 ⟨rfl, by omega, rfl, hb⟩
          rw [q4, q3]
          intro t ht
          rw [mb_or, mb_shl (by omega) _ ht]
          constructor
          · rintro (c | c)
            · exact Or.inl ⟨by omega, Or.inl c⟩
            · exact Or.inl ⟨by omega, Or.inr ⟨hb, c⟩⟩
          · rintro (⟨_, c | c⟩ | c)
            · exact Or.inl c
            · exact Or.inr c.2
            · omega
        · have q4 := q2.2 (fun b => hb b.2.2.2)
          rw [q4, q3]
          intro t ht
          constructor
          · intro c; exact Or.inl ⟨by omega, Or.inl c⟩
          · rintro (⟨_, c | c⟩ | c)
            · exact c
            · exact absurd c.1 hb
            · omega
    · intro n
      rw [q2.2 (fun b => n ⟨b.1, by omega⟩), q1.2 (fun b => n ⟨b.1, Or.inl b.2⟩)]
theorem xw_append {post : SX → Prop} {x y nx ny : Nat} {fs : Int64} (hx : x < 10) (hy : y < 10) (hyx : y ≠ x) (px : 0 < nx) (py : 0 < ny) (hN : nx + ny - 1 ≤ 64) (hzx : sz x = nI nx) (hzy : sz y = nI ny)
    (h : ∀ mv', gx_ mv mv' x (fun s' _ => s' < nx + ny - 1) (ap_R mv x y nx fs) → post (sd, sc, ec, ll, upd sz x (nI (nx + ny - 1)), en, mv', lo, re)) :
    wpX_appendStates post (sd, sc, ec, ll, sz, en, mv, lo, re) (nI x) (nI y) fs := by
  refine ⟨z10 hx, nm_r (e' := nI (nx - 1)) ?_ ⟨z10 hy, nm_r (e' := nI ny) (by rw [z10c hy, hzy]) ⟨5, ?_⟩⟩⟩
  · rw [z10c hx, hzx]
    exact pk_sub (a := nx) (b := 1) (by omega)
  · exact xw_ap21 (mv := mv) hx hy hyx px py hN hzx h 4 0 (by omega) mv (gx_0 (fun s k _ => by omega))
/- makeLoop -/
def lo_R (mv : Nat → Int64) (x : Nat) (E : Int64) : Nat → Nat → Int64 → Prop := fun s k v =>
  ∀ t, mb_ v t ↔ mb_ (mv (pl_ x s k)) t ∨ (mb_ E s ∧ mb_ (mv (pl_ x 0 k)) t)
theorem xw_lo2 {post : SX → Prop} {x n : Nat} (hx : x < 10) (hn : n ≤ 64) (hz : sz x = nI n)
    (h : ∀ mv', gx_ mv mv' x (fun s' _ => s' < n) (lo_R mv x (en x)) → post (sd, sc, ec, ll, sz, vp_updL en x (en x ||| 1), mv', lo, re)) :
    ∀ d k, k + d = 4 → ∀ mv', gx_ mv mv' x (fun s' k' => k' < k ∧ s' < n) (lo_R mv x (en x)) → wX_makeLoop_2 post (nI x) (d + 1) (nI k) sd sc ec ll sz en mv' lo re := by
  intro d
  induction d with
  | zero =>
    intro k hk mv' g
    have : k = 4 := by omega
    subst this
    exact br_t (nI_le (a := 4) (b := 4) (by omega) (by decide)) ⟨z10 hx, z10 hx, nm_r (e' := vp_updL en x (en x ||| 1)) (by rw [z10c hx]) (h mv' (gx_c g (fun s' k' _ _ => by omega)))⟩
  | succ d ih =>
    intro k hk' mv' g
    have hk : k < 4 := by omega
    refine br_f (nI_ge (b := 4) hk (by decide)) ?_
    refine pl_wp (s := 0) hx (by omega) hk ⟨pli hx (by omega) hk, nm_r (e' := mv (pl_ x 0 k)) (by rw [plc hx (by omega) hk, (g x 0 k (by omega) hk).2 (fun q => by omega)]) ⟨z10 hx, ?_⟩⟩
    rw [z10c hx]
    refine xw_add hx hk hn hz (fun mv'' g'' => nm_r (nI_1 k) (ih (k + 1) (by omega) mv'' ?_))
    intro z s k' hs hk'
    have q1 := g z s k' hs hk'
    have q2 := g'' z s k' hs hk'
    constructor
    · rintro ⟨rfl, a1, a2⟩
      by_cases e : k' = k
      · subst e
        have q3 := q1.2 (fun b => by omega)
        by_cases hb : mb_ (en z) s
        · have q4 := q2.1 ⟨rfl, a2, rfl, hb⟩
          rw [q4, q3]
          intro t
          rw [mb_or]
          exact ⟨fun c => c.elim Or.inl (fun c => Or.inr ⟨hb, c⟩), fun c => c.elim Or.inl (fun c => Or.inr c.2)⟩
        · have q4 := q2.2 (fun b => hb b.2.2.2)
          rw [q4, q3]
          intro t
          exact ⟨Or.inl, fun c => c.elim id (fun c => absurd c.1 hb)⟩
      · rw [q2.2 (fun b => e b.2.2.1)]
        exact q1.1 ⟨rfl, by omega, a2⟩
    · intro n'
      rw [q2.2 (fun b => n' ⟨b.1, by omega, b.2.1⟩), q1.2 (fun b => n' ⟨b.1, by omega, b.2.2⟩)]
theorem xw_loop {post : SX → Prop} {x n : Nat} (hx : x < 10) (hn : n ≤ 64) (hz : sz x = nI n)
    (h : ∀ mv', gx_ mv mv' x (fun s' _ => s' < n) (lo_R mv x (en x)) → post (sd, sc, ec, ll, sz, vp_updL en x (en x ||| 1), mv', lo, re)) :
    wpX_makeLoop post (sd, sc, ec, ll, sz, en, mv, lo, re) (nI x) :=
  ⟨5, xw_lo2 (mv := mv) hx hn hz h 4 0 (by omega) mv (gx_0 (fun s k _ => by omega))⟩
end
end
section
/-! X: pairMoves and makeBoth -/
section
variable {sd sc ec ll : Int32} {sz : Nat → Int32} {en mv : Nat → Int64} {lo : Nat → Int32} {re : Nat → Int64}
def bo_T (mv : Nat → Int64) (y nx ny a b k : Nat) : Nat → Int64 → Prop := fun i v =>
  ∀ t, t < 64 → (mb_ v t ↔ (a * ny ≤ t ∧ mb_ (mv (pl_ y b k)) (t - a * ny)) ∨ ∃ c, c < i ∧ mb_ (mv (pl_ 9 a k)) c ∧ t = c * ny + b)
def bo_R (mv : Nat → Int64) (y nx ny : Nat) : Nat → Nat → Int64 → Prop := fun s k v =>
  ∀ a b, a < nx → b < ny → s = a * ny + b → bo_T mv y nx ny a b k nx v
theorem xw_pm68 {post : SX → Prop} {J : Int32 → (Nat → Int32) → (Nat → Int64) → (Nat → Int64) → (Nat → Int32) → (Nat → Int64) → Prop} {x y nx ny a b k : Nat} {mv' : Nat → Int64} {x3 : Int32} (hx : x < 9) (ha : a < nx) (hb : b < ny) (hN : nx * ny ≤ 64) (hk : k < 4) (hnx : nx ≤ 64)
    (g : gx_ mv mv' x (fun s' k' => s' < a * ny + b ∨ (s' = a * ny + b ∧ k' < k)) (bo_R mv y nx ny))
    (h : ∀ mv'', gx_ mv mv'' x (fun s' k' => s' < a * ny + b ∨ (s' = a * ny + b ∧ k' < k + 1)) (bo_R mv y nx ny) → J (nI (k + 1)) sz en mv'' lo re) :
    ∀ d i, i + d = nx → ∀ v, bo_T mv y nx ny a b k i v → wX_pairMoves_68 post J (nI x) (nI y) x3 (nI b) (nI nx) (nI ny) (nI (a * ny)) (nI k) (mv (pl_ 9 a k)) sd sc ec ll sz en mv' lo re (d + 1) v (nI i) := by
  have hab := bo_lt ha hb
  intro d
  induction d with
  | zero =>
    intro i hi v hv
    have : i = nx := by omega
    subst this
    refine br_t (nI_le (Nat.le_refl _) (by omega)) ?_
    rw [nI_add]
    have q : a * ny + b < 64 := by omega
    refine pl_wp (by omega) q hk ⟨pli (by omega) q hk, nm_r (e' := vp_updL mv' (pl_ x (a * ny + b) k) v) (by rw [plc (by omega) q hk]) (nm_r (nI_1 k) (h _ (gx_s g q hk ?_ (fun s' k' _ => by omega))))⟩
    intro a' b' ha' hb' e
    obtain ⟨rfl, rfl⟩ := bo_inj hb hb' e
    exact hv
  | succ d ih =>
    intro i hi v hv
    have hin : i < nx := by omega
    have hib := bo_lt hin hb
    refine br_f (nI_ge (by omega) (by omega)) (mb_has (by omega) (fun hm => ?_) (fun hm => ?_))
    · refine br_f (by decide) ?_
      rw [pk_mul, nI_add]
      refine nm_e (nm_r (nI_1 i) (ih (i + 1) (by omega) _ ?_))
      intro t ht
      rw [mb_or, mb_bit (by omega), hv t ht]
      constructor
      · rintro ((q | ⟨c, q1, q2⟩) | q)
        · exact Or.inl q
        · exact Or.inr ⟨c, by omega, q2⟩
        · exact Or.inr ⟨i, by omega, hm, q⟩
      · rintro (q | ⟨c, q1, q2, q3⟩)
        · exact Or.inl (Or.inl q)
        · by_cases e : c = i
          · subst e; exact Or.inr q3
          · exact Or.inl (Or.inr ⟨c, by omega, q2, q3⟩)
    · refine br_t rfl (nm_r (nI_1 i) (ih (i + 1) (by omega) _ ?_))
      intro t ht
      rw [hv t ht]
      constructor
      · rintro (q | ⟨c, q1, q2⟩)
        · exact Or.inl q
        · exact Or.inr ⟨c, by omega, q2⟩
      · rintro (q | ⟨c, q1, q2, q3⟩)
        · exact Or.inl q
        · by_cases e : c = i
          · subst e; exact absurd q2 hm
          · exact Or.inr ⟨c, by omega, q2, q3⟩
theorem xw_pm26 {post : SX → Prop} {x y nx ny a b : Nat} (hx : x < 9) (hy : y < 9) (hyx : y ≠ x) (ha : a < nx) (hb : b < ny) (hN : nx * ny ≤ 64) (hnx : nx ≤ 64) (hny : ny ≤ 64)
    (h : ∀ mv'', gx_ mv mv'' x (fun s' _ => s' < a * ny + (b + 1)) (bo_R mv y nx ny) → post (sd, sc, ec, ll, sz, en, mv'', lo, re)) :
    ∀ d k, k + d = 4 → ∀ mv', gx_ mv mv' x (fun s' k' => s' < a * ny + b ∨ (s' = a * ny + b ∧ k' < k)) (bo_R mv y nx ny) → wX_pairMoves_26 post (nI x) (nI y) (nI a) (nI b) (nI nx) (nI ny) (nI (a * ny)) sd sc ec ll (d + 1) (nI k) sz en mv' lo re := by
  have hab := bo_lt ha hb
  intro d
  induction d with
  | zero =>
    intro k hk mv' g
    have : k = 4 := by omega
    subst this
    exact br_t (nI_le (a := 4) (b := 4) (by omega) (by decide)) (h mv' (gx_c g (fun s' k' _ _ => by omega)))
  | succ d ih =>
    intro k hk' mv' g
    have hk : k < 4 := by omega
    refine br_f (nI_ge (b := 4) hk (by decide)) ?_
    refine pl_wp (z := 9) (by omega) (by omega) hk ⟨pli (by omega) (by omega) hk, nm_r (e' := mv (pl_ 9 a k)) (by rw [plc (by omega) (by omega) hk, (g 9 a k (by omega) hk).2 (fun q => by omega)]) ?_⟩
    refine pl_wp (by omega) (by omega) hk ⟨pli (by omega) (by omega) hk, nm_r (e' := mv (pl_ y b k) <<< ((nI (a * ny)).toInt64 &&& 63)) (by rw [plc (by omega) (by omega) hk, (g y b k (by omega) hk).2 (fun q => hyx q.1)]) ⟨nx + 1, ?_⟩⟩
    refine xw_pm68 (mv := mv) hx ha hb hN hk hnx g (fun mv'' g'' => ih (k + 1) (by omega) mv'' g'') nx 0 (by omega) _ ?_
    intro t ht
    rw [mb_shl (by omega) _ ht]
    constructor
    · intro q; exact Or.inl q
    · rintro (q | ⟨c, q1, _⟩)
      · exact q
      · omega
theorem xw_pair {post : SX → Prop} {x y nx ny a b : Nat} {mv' : Nat → Int64} (hx : x < 9) (hy : y < 9) (hyx : y ≠ x) (ha : a < nx) (hb : b < ny) (hN : nx * ny ≤ 64) (hnx : nx ≤ 64) (hny : ny ≤ 64) (h9 : sz 9 = nI nx) (hzy : sz y = nI ny)
    (g : gx_ mv mv' x (fun s' _ => s' < a * ny + b) (bo_R mv y nx ny))
    (h : ∀ mv'', gx_ mv mv'' x (fun s' _ => s' < a * ny + (b + 1)) (bo_R mv y nx ny) → post (sd, sc, ec, ll, sz, en, mv'', lo, re)) :
    wpX_pairMoves post (sd, sc, ec, ll, sz, en, mv', lo, re) (nI x) (nI y) (nI a) (nI b) := by
  refine nm_r h9 ⟨z10 (by omega), nm_r (e' := nI ny) (by rw [z10c (by omega), hzy]) (nm_r (pk_mul a ny) ⟨5, ?_⟩)⟩
  exact xw_pm26 (mv := mv) hx hy hyx ha hb hN hnx hny h 4 0 (by omega) mv' (gx_c g (fun s' k' _ _ => by omega))
/-- the ends after a rows -/
def bo_E (en : Nat → Int64) (x y ny a : Nat) (en' : Nat → Int64) : Prop :=
  (∀ z, z ≠ x → en' z = en z) ∧ ∀ t, t < 64 → (mb_ (en' x) t ↔ ∃ c, c < a ∧ mb_ (en 9) c ∧ c * ny ≤ t ∧ mb_ (en y) (t - c * ny))
theorem xw_mb42 {post : SX → Prop} {J : Int32 → Int32 → Int32 → Int32 → Int32 → (Nat → Int32) → (Nat → Int64) → (Nat → Int64) → (Nat → Int32) → (Nat → Int64) → Prop} {x y nx ny a : Nat} {en' : Nat → Int64} (hx : x < 9) (hy : y < 9) (hyx : y ≠ x) (ha : a < nx) (py : 0 < ny) (hN : nx * ny ≤ 64) (hnx : nx ≤ 64) (hny : ny ≤ 64) (h9 : sz 9 = nI nx) (hzy : sz y = nI ny) (hE : bo_E en x y ny a en')
    (h : ∀ mv'' en'', gx_ mv mv'' x (fun s' _ => s' < (a + 1) * ny) (bo_R mv y nx ny) → bo_E en x y ny (a + 1) en'' → J (nI (a + 1)) sd sc ec ll sz en'' mv'' lo re) :
    ∀ d b, b + d = ny → ∀ mv', gx_ mv mv' x (fun s' _ => s' < a * ny + b) (bo_R mv y nx ny) → wX_makeBoth_42 post J (nI x) (nI y) (nI nx) (nI ny) (nI a) (d + 1) (nI b) sd sc ec ll sz en' mv' lo re := by
  have hab := bo_lt ha py
  have e1 : (a + 1) * ny = a * ny + ny := by rw [Nat.add_mul, Nat.one_mul]
  intro d
  induction d with
  | zero =>
    intro b hb mv' g
    have : b = ny := by omega
    subst this
    have g' : gx_ mv mv' x (fun s' _ => s' < (a + 1) * b) (bo_R mv y nx b) := gx_c g (fun s' k' _ _ => by rw [e1])
    refine br_t (nI_le (Nat.le_refl _) (by omega)) ?_
    rw [hE.1 9 (by omega)]
    refine mb_has (by omega) (fun hm => ?_) (fun hm => ?_)
    · refine br_f (by decide) ⟨z10 (by omega), z10 (by omega), z10 (by omega), ?_⟩
      rw [pk_mul, z10c (by omega), z10c (by omega), hE.1 y hyx]
      refine nm_e (nm_r (nI_1 a) (h _ _ g' ⟨fun z hz => ?_, fun t ht => ?_⟩))
      · rw [pk_uLn hz]; exact hE.1 z hz
      · rw [pk_uLs, mb_or, hE.2 t ht, mb_shl (by omega) _ ht]
        constructor
        · rintro (⟨c, q1, q2⟩ | q)
          · exact ⟨c, by omega, q2⟩
          · exact ⟨a, by omega, hm, q⟩
        · rintro ⟨c, q1, q2, q3⟩
          by_cases e : c = a
          · subst e; exact Or.inr q3
          · exact Or.inl ⟨c, by omega, q2, q3⟩
    · refine br_t rfl (nm_r (nI_1 a) (h _ _ g' ⟨hE.1, fun t ht => ?_⟩))
      rw [hE.2 t ht]
      constructor
      · rintro ⟨c, q1, q2⟩
        exact ⟨c, by omega, q2⟩
      · rintro ⟨c, q1, q2, q3⟩
        by_cases e : c = a
        · subst e; exact absurd q2 hm
        · exact ⟨c, by omega, q2, q3⟩
  | succ d ih =>
    intro b hb mv' g
    refine br_f (nI_ge (by omega) (by omega)) ?_
    refine xw_pair (mv := mv) hx hy hyx ha (by omega) hN hnx hny h9 hzy g (fun mv'' g'' => nm_r (nI_1 b) (ih (b + 1) (by omega) mv'' g''))
theorem xw_mb33 {post : SX → Prop} {x y nx ny : Nat} (hx : x < 9) (hy : y < 9) (hyx : y ≠ x) (px : 0 < nx) (py : 0 < ny) (hN : nx * ny ≤ 64) (hnx : nx ≤ 64) (hny : ny ≤ 64) (h9 : sz 9 = nI nx) (hzy : sz y = nI ny)
    (h : ∀ mv'' en'', gx_ mv mv'' x (fun s' _ => s' < nx * ny) (bo_R mv y nx ny) → bo_E en x y ny nx en'' → post (sd, sc, ec, ll, upd sz x (nI (nx * ny)), en'', mv'', lo, re)) :
    ∀ d a, a + d = nx → ∀ mv' en', gx_ mv mv' x (fun s' _ => s' < a * ny) (bo_R mv y nx ny) → bo_E en x y ny a en' → wX_makeBoth_33 post (nI x) (nI y) (nI nx) (nI ny) (d + 1) (nI a) sd sc ec ll sz en' mv' lo re := by
  intro d
  induction d with
  | zero =>
    intro a ha mv' en' g gE
    have : a = nx := by omega
    subst this
    exact br_t (nI_le (Nat.le_refl _) (by omega)) ⟨z10 (by omega), nm_r (e' := upd sz x (nI (a * ny))) (by rw [z10c (by omega), pk_mul]) (h _ _ g gE)⟩
  | succ d ih =>
    intro a ha mv' en' g gE
    refine br_f (nI_ge (by omega) (by omega)) ⟨ny + 1, ?_⟩
    exact xw_mb42 (mv := mv) (en := en) hx hy hyx (by omega) py hN hnx hny h9 hzy gE (fun mv'' en'' g'' gE'' => ih (a + 1) (by omega) mv'' en'' g'' gE'') ny 0 (by omega) mv' (gx_c g (fun s' k' _ _ => by omega))
theorem xw_both {post : SX → Prop} {x y nx ny : Nat} (hx : x < 9) (hy : y < 9) (hyx : y ≠ x) (px : 0 < nx) (py : 0 < ny) (hN : nx * ny ≤ 64) (hnx : nx ≤ 64) (hny : ny ≤ 64) (hzx : sz x = nI nx) (hzy : sz y = nI ny)
    (h : ∀ mv1 mv'' en'', gx_ mv mv1 9 (fun s' _ => s' < nx) (fun s' k' v => v = mv (pl_ x s' k')) → gx_ mv1 mv'' x (fun s' _ => s' < nx * ny) (bo_R mv1 y nx ny) → bo_E (vp_updL en 9 (en x)) x y ny nx en'' → post (sd, sc, ec, ll, upd (upd sz 9 (nI nx)) x (nI (nx * ny)), en'', mv'', lo, re)) :
    wpX_makeBoth post (sd, sc, ec, ll, sz, en, mv, lo, re) (nI x) (nI y) := by
  refine xw_copy (x := 9) (y := x) (n := nx) (by omega) (by omega) (by omega) hnx hzx (fun mv1 g1 => ?_)
  refine nm_r (e' := nI nx) (pk_us) ⟨z10 (by omega), nm_r (e' := nI ny) (by rw [z10c (by omega), pk_un (by omega), hzy]) ⟨z10 (by omega), nm_r (e' := vp_updL (vp_updL en 9 (en x)) x 0) (by rw [z10c (by omega)]) ⟨nx + 1, ?_⟩⟩⟩
  refine xw_mb33 (mv := mv1) (en := vp_updL en 9 (en x)) hx hy hyx px py hN hnx hny pk_us (by rw [pk_un (by omega), hzy]) (fun mv'' en'' g gE => h mv1 mv'' en'' g1 g gE) nx 0 (by omega) mv1 _ (gx_0 (fun s k _ => by omega)) ⟨fun z hz => pk_uLn hz, fun t ht => ?_⟩
  rw [pk_uLs]
  exact ⟨fun q => absurd q (mb_0 t), fun ⟨c, q, _⟩ => by omega⟩
end
end
section
/-! X's builders: what machine x holds afterwards -/
section
variable {sd sc ec ll : Int32} {sz : Nat → Int32} {en mv : Nat → Int64} {lo : Nat → Int32} {re : Nat → Int64}
theorem xb_skip {post : SX → Prop} {x : Nat} (hx : x < 10)
    (h : ∀ sz' en' mv', fr_ x sz en mv sz' en' mv' → ma_ sz' en' mv' x 0 la_skip → post (sd, sc, ec, ll, sz', en', mv', lo, re)) :
    wpX_makeSkip post (sd, sc, ec, ll, sz, en, mv, lo, re) (nI x) := by
  refine ⟨z10 hx, nm_r (e' := upd sz x (nI 1)) (by rw [z10c hx]; rfl) ⟨z10 hx, nm_r (e' := vp_updL en x 1) (by rw [z10c hx]) ?_⟩⟩
  refine xw_clear (n := 1) hx (by omega) pk_us (fun mv' g => h _ _ _ ?_ ?_)
  · intro z hz _
    exact ⟨pk_un hz, pk_uLn hz, fun s k hs hk => (g z s k hs hk).2 (fun q => hz q.1)⟩
  · refine ⟨1, pk_us, Nat.le_refl _, au_skip ?_ ?_⟩
    · rintro s k t ⟨a, b, c⟩
      rw [(g x s k (by omega) b).1 ⟨rfl, a⟩] at c
      exact mb_0 t c
    · intro t; rw [pk_uLs]; exact mb_1 t
theorem xb_event {post : SX → Prop} {x k : Nat} (hx : x < 10) (hk : k < 4)
    (h : ∀ sz' en' mv', fr_ x sz en mv sz' en' mv' → ma_ sz' en' mv' x 1 (la_ev k) → post (sd, sc, ec, ll, sz', en', mv', lo, re)) :
    wpX_makeEvent post (sd, sc, ec, ll, sz, en, mv, lo, re) (nI x) (nI k) := by
  refine ⟨z10 hx, nm_r (e' := upd sz x (nI 2)) (by rw [z10c hx]; rfl) ⟨z10 hx, nm_r (e' := vp_updL en x 2) (by rw [z10c hx]) ?_⟩⟩
  refine xw_clear (n := 2) hx (by omega) pk_us (fun mv' g => ?_)
  have h0 : (0 : Nat) < 64 := by omega
  refine pl_wp (s := 0) hx h0 hk ⟨pli hx h0 hk, nm_r (e' := vp_updL mv' (pl_ x 0 k) 2) (by rw [plc hx h0 hk]) (h _ _ _ ?_ ?_)⟩
  · intro z hz _
    refine ⟨pk_un hz, pk_uLn hz, fun s j hs hj => ?_⟩
    rw [pk_uLn (fun q => hz (pl_inj hs hj h0 hk q).1)]
    exact (g z s j hs hj).2 (fun q => hz q.1)
  · refine ⟨2, pk_us, Nat.le_refl _, au_ev hk ?_ ?_⟩
    · intro s j t
      constructor
      · rintro ⟨a, b, c⟩
        by_cases e : s = 0 ∧ j = k
        · obtain ⟨rfl, rfl⟩ := e
          rw [pk_uLs, mb_2] at c
          exact ⟨rfl, rfl, c⟩
        · rw [pk_uLn (fun q => e (pl_inj (by omega) b h0 hk q).2), (g x s j (by omega) b).1 ⟨rfl, a⟩] at c
          exact absurd c (mb_0 t)
      · rintro ⟨rfl, rfl, rfl⟩
        refine ⟨by omega, hk, ?_⟩
        rw [pk_uLs, mb_2]
    · intro t; rw [pk_uLs]; exact mb_2 t
theorem pw_sum {a b e1 e2 : Nat} (ha : a ≤ 2 ^ e1) (hb : b ≤ 2 ^ e2) (pa : 0 < a) (pb : 0 < b) : a + b - 1 ≤ 2 ^ (e1 + e2) := by
  rw [Nat.pow_add]
  generalize 2 ^ e1 = X at *
  generalize 2 ^ e2 = Y at *
  obtain ⟨X', rfl⟩ : ∃ X', X = X' + 1 := ⟨X - 1, by omega⟩
  obtain ⟨Y', rfl⟩ : ∃ Y', Y = Y' + 1 := ⟨Y - 1, by omega⟩
  rw [Nat.add_mul, Nat.mul_add]
  generalize X' * Y' = Z
  omega
theorem ma_app {mv' : Nat → Int64} {x y nx ny : Nat} {fs : Int64} {Z : Nat → Prop} (px : 0 < nx) (py : 0 < ny) (hN : nx + ny - 1 ≤ 64) (i1 : au_in nx (ma_D mv x nx)) (i2 : au_in ny (ma_D mv y ny)) (hZ : ∀ s, mb_ fs s ↔ Z s) (hZn : ∀ s, Z s → s < nx)
    (g : gx_ mv mv' x (fun s' _ => s' < nx + ny - 1) (ap_R mv x y nx fs)) :
    ∀ s k t, ma_D mv' x (nx + ny - 1) s k t ↔ au_ap (ma_D mv x nx) (ma_D mv y ny) Z (nx - 1) s k t := by
  intro s k t
  constructor
  · rintro ⟨a, b, c⟩
    have R := (g x s k (by omega) b).1 ⟨rfl, a⟩ t (mb_big c)
    rcases R.mp c with ⟨q1, q2 | ⟨q2, q3, q4⟩⟩ | ⟨q1, q2, q3⟩
    · exact Or.inl ⟨q1, b, q2⟩
    · exact Or.inr (Or.inl ⟨(hZ s).mp q2, t - (nx - 1), ⟨py, b, q4⟩, by omega⟩)
    · exact Or.inr (Or.inr ⟨s - (nx - 1), t - (nx - 1), by omega, by omega, ⟨by omega, b, q3⟩, by omega⟩)
  · rintro (q | ⟨q1, t', q2, rfl⟩ | ⟨s', t', q1, rfl, q2, rfl⟩)
    · obtain ⟨a, b, c⟩ := q
      refine ⟨by omega, b, ?_⟩
      exact ((g x s k (by omega) b).1 ⟨rfl, by omega⟩ t (mb_big c)).mpr (Or.inl ⟨a, Or.inl c⟩)
    · have lt := i2 _ _ _ q2
      have hs := hZn s q1
      refine ⟨by omega, q2.2.1, ?_⟩
      refine ((g x s k (by omega) q2.2.1).1 ⟨rfl, by omega⟩ _ (by omega)).mpr (Or.inl ⟨hs, Or.inr ⟨(hZ s).mpr q1, by omega, ?_⟩⟩)
      rw [show nx - 1 + t' - (nx - 1) = t' by omega]
      exact q2.2.2
    · have lt := i2 _ _ _ q2
      refine ⟨by omega, q2.2.1, ?_⟩
      refine ((g x _ k (by omega) q2.2.1).1 ⟨rfl, by omega⟩ _ (by omega)).mpr (Or.inr ⟨by omega, by omega, ?_⟩)
      rw [show nx - 1 + t' - (nx - 1) = t' by omega, show nx - 1 + s' - (nx - 1) = s' by omega]
      exact q2.2.2
theorem mb_up {E : Int64} {m : Nat} (hm : m < 64) (t : Nat) (hE : ∀ t, mb_ E t → m + t < 64) : mb_ ((E &&& (-2)) <<< ((nI m).toInt64 &&& 63)) t ↔ ∃ t', 0 < t' ∧ t = m + t' ∧ mb_ E t' := by
  constructor
  · intro h
    have lt := mb_big h
    rw [mb_shl hm _ lt, mb_and, mb_m2 _ (by omega)] at h
    exact ⟨t - m, by omega, by omega, h.2.1⟩
  · rintro ⟨t', a, rfl, c⟩
    have lt := hE t' c
    rw [mb_shl hm _ lt, mb_and, show m + t' - m = t' by omega, mb_m2 _ (by omega)]
    exact ⟨by omega, c, a⟩
theorem xb_seq {post : SX → Prop} {x y e1 e2 : Nat} {A A' : pl_L} (hx : x < 9) (hy : y < 9) (hyx : y ≠ x) (he : e1 + e2 ≤ 6) (m1 : ma_ sz en mv x e1 A) (m2 : ma_ sz en mv y e2 A')
    (h : ∀ sz' en' mv', fr_ x sz en mv sz' en' mv' → ma_ sz' en' mv' x (e1 + e2) (la_seq A A') → post (sd, sc, ec, ll, sz', en', mv', lo, re)) :
    wpX_makeSeq post (sd, sc, ec, ll, sz, en, mv, lo, re) (nI x) (nI y) := by
  obtain ⟨nx, z1, b1, o1⟩ := m1
  obtain ⟨ny, z2, b2, o2⟩ := m2
  have px := o1.1
  have py := o2.1
  have hN := pw_sum b1 b2 px py
  have hN6 : nx + ny - 1 ≤ 64 := Nat.le_trans hN (p6 he)
  have es : sz (nI x).toNatClampNeg - 1 = nI (nx - 1) := by
    rw [z10c (by omega), z1]
    exact pk_sub (a := nx) (b := 1) (by omega)
  refine ⟨z10 (by omega), nm_r es ⟨z10 (by omega), nm_r (e' := en x) (by rw [z10c (by omega)]) ?_⟩⟩
  refine xw_append (by omega) (by omega) hyx px py hN6 z1 z2 (fun mv' g => ?_)
  refine ⟨z10 (by omega), z10 (by omega), nm_r (e' := vp_updL en x ((en y &&& (-2)) <<< ((nI (nx - 1)).toInt64 &&& 63))) (by rw [z10c (by omega), z10c (by omega)]) ⟨z10 (by omega), ?_⟩⟩
  rw [z10c (by omega : y < 10), pk_uLn hyx]
  have fr : ∀ E, fr_ x sz en mv (upd sz x (nI (nx + ny - 1))) (vp_updL en x E) mv' := by
    intro E z hz _
    exact ⟨pk_un hz, pk_uLn hz, fun s k hs hk => (g z s k hs hk).2 (fun q => hz q.1)⟩
  have D := ma_app (Z := fun s => mb_ (en x) s) px py hN6 o1.2.1 o2.2.1 (fun s => Iff.rfl) o1.2.2.1 g
  have up := fun t => mb_up (E := en y) (m := nx - 1) (by omega) t (fun t' ht => by have := o2.2.2.1 t' ht; omega)
  refine mb_has (k := 0) (by omega) (fun hb => ?_) (fun hb => ?_)
  · refine br_f (by decide) ⟨z10 (by omega), z10 (by omega), nm_r (e' := vp_updL en x (((en y &&& (-2)) <<< ((nI (nx - 1)).toInt64 &&& 63)) ||| en x)) ?_ (h _ _ _ (fr _) ⟨_, pk_us, hN, au_congr D (fun t => Iff.rfl) (au_seq o1 o2 ?_)⟩)⟩
    · rw [z10c (by omega), pk_uLs]
      funext z
      by_cases e : z = x
      · subst e; rw [pk_uLs, pk_uLs]
      · rw [pk_uLn e, pk_uLn e, pk_uLn e]
    · intro t
      show mb_ (vp_updL en x _ x) t ↔ _
      rw [pk_uLs, mb_or, up t]
      exact ⟨fun c => c.elim Or.inl (fun c => Or.inr ⟨hb, c⟩), fun c => c.elim Or.inl (fun c => Or.inr c.2)⟩
  · refine br_t rfl (h _ _ _ (fr _) ⟨_, pk_us, hN, au_congr D (fun t => Iff.rfl) (au_seq o1 o2 ?_)⟩)
    intro t
    show mb_ (vp_updL en x _ x) t ↔ _
    rw [pk_uLs, up t]
    exact ⟨Or.inl, fun c => c.elim id (fun c => absurd c.1 hb)⟩
theorem xb_cho {post : SX → Prop} {x y e1 e2 : Nat} {A A' : pl_L} (hx : x < 9) (hy : y < 9) (hyx : y ≠ x) (he : e1 + e2 ≤ 6) (m1 : ma_ sz en mv x e1 A) (m2 : ma_ sz en mv y e2 A')
    (h : ∀ sz' en' mv', fr_ x sz en mv sz' en' mv' → ma_ sz' en' mv' x (e1 + e2) (la_cho A A') → post (sd, sc, ec, ll, sz', en', mv', lo, re)) :
    wpX_makeChoice post (sd, sc, ec, ll, sz, en, mv, lo, re) (nI x) (nI y) := by
  obtain ⟨nx, z1, b1, o1⟩ := m1
  obtain ⟨ny, z2, b2, o2⟩ := m2
  have px := o1.1
  have py := o2.1
  have hN := pw_sum b1 b2 px py
  have hN6 : nx + ny - 1 ≤ 64 := Nat.le_trans hN (p6 he)
  have es : sz (nI x).toNatClampNeg - 1 = nI (nx - 1) := by
    rw [z10c (by omega), z1]
    exact pk_sub (a := nx) (b := 1) (by omega)
  refine ⟨z10 (by omega), nm_r es ?_⟩
  refine xw_append (by omega) (by omega) hyx px py hN6 z1 z2 (fun mv' g => ?_)
  have fr : ∀ E, fr_ x sz en mv (upd sz x (nI (nx + ny - 1))) (vp_updL en x E) mv' := by
    intro E z hz _
    exact ⟨pk_un hz, pk_uLn hz, fun s k hs hk => (g z s k hs hk).2 (fun q => hz q.1)⟩
  have D := ma_app (Z := fun s => s = 0) px py hN6 o1.2.1 o2.2.1 mb_1 (fun s q => by omega) g
  have up := fun t => mb_up (E := en y) (m := nx - 1) (by omega) t (fun t' ht => by have := o2.2.2.1 t' ht; omega)
  refine ⟨z10 (by omega), z10 (by omega), z10 (by omega), nm_r (e' := vp_updL en x (en x ||| ((en y &&& (-2)) <<< ((nI (nx - 1)).toInt64 &&& 63)))) (by rw [z10c (by omega), z10c (by omega)]) ⟨z10 (by omega), z10 (by omega), z10 (by omega), ?_⟩⟩
  refine nm_r (e' := vp_updL en x ((en x ||| ((en y &&& (-2)) <<< ((nI (nx - 1)).toInt64 &&& 63))) ||| (en y &&& 1))) ?_ (h _ _ _ (fr _) ⟨_, pk_us, hN, au_congr D (fun t => Iff.rfl) (au_cho o1 o2 ?_)⟩)
  · rw [z10c (by omega), z10c (by omega), pk_uLs, pk_uLn hyx]
    funext z
    by_cases e : z = x
    · subst e; rw [pk_uLs, pk_uLs]
    · rw [pk_uLn e, pk_uLn e, pk_uLn e]
  · intro t
    show mb_ (vp_updL en x _ x) t ↔ _
    rw [pk_uLs, mb_or, mb_or, up t, mb_and, mb_1]
    constructor
    · rintro ((q | q) | ⟨q, rfl⟩)
      · exact Or.inl q
      · exact Or.inr (Or.inl q)
      · exact Or.inr (Or.inr ⟨rfl, q⟩)
    · rintro (q | q | ⟨rfl, q⟩)
      · exact Or.inl (Or.inl q)
      · exact Or.inl (Or.inr q)
      · exact Or.inr ⟨q, rfl⟩
theorem xb_loop {post : SX → Prop} {x e1 : Nat} {A : pl_L} (hx : x < 9) (he : e1 ≤ 6) (m1 : ma_ sz en mv x e1 A)
    (h : ∀ sz' en' mv', fr_ x sz en mv sz' en' mv' → ma_ sz' en' mv' x e1 (la_loop A) → post (sd, sc, ec, ll, sz', en', mv', lo, re)) :
    wpX_makeLoop post (sd, sc, ec, ll, sz, en, mv, lo, re) (nI x) := by
  obtain ⟨n, z1, b1, o1⟩ := m1
  have n64 : n ≤ 64 := Nat.le_trans b1 (p6 he)
  have px := o1.1
  refine xw_loop (by omega) n64 z1 (fun mv' g => h _ _ _ ?_ ⟨n, z1, b1, au_congr ?_ (fun t => Iff.rfl) (au_loop o1 ?_)⟩)
  · intro z hz _
    exact ⟨rfl, pk_uLn hz, fun s k hs hk => (g z s k hs hk).2 (fun q => hz q.1)⟩
  · intro s k t
    constructor
    · rintro ⟨a, b, c⟩
      rcases ((g x s k (by omega) b).1 ⟨rfl, a⟩ t).mp c with q | ⟨q1, q2⟩
      · exact Or.inl ⟨a, b, q⟩
      · exact Or.inr ⟨q1, px, b, q2⟩
    · rintro (⟨a, b, c⟩ | ⟨q1, a, b, c⟩)
      · exact ⟨a, b, ((g x s k (by omega) b).1 ⟨rfl, a⟩ t).mpr (Or.inl c)⟩
      · have hs := o1.2.2.1 s q1
        exact ⟨hs, b, ((g x s k (by omega) b).1 ⟨rfl, hs⟩ t).mpr (Or.inr ⟨q1, c⟩)⟩
  · intro t
    show mb_ (vp_updL en x _ x) t ↔ _
    rw [pk_uLs, mb_or, mb_1]
theorem xb_opt {x e1 : Nat} {A : pl_L} (m1 : ma_ sz en mv x e1 A) : fr_ x sz en mv sz (vp_updL en x (en x ||| 1)) mv ∧ ma_ sz (vp_updL en x (en x ||| 1)) mv x e1 (la_opt A) := by
  obtain ⟨n, z1, b1, o1⟩ := m1
  refine ⟨fun z hz _ => ⟨rfl, pk_uLn hz, fun s k _ _ => rfl⟩, n, z1, b1, au_opt o1 ?_⟩
  intro t
  show mb_ (vp_updL en x _ x) t ↔ _
  rw [pk_uLs, mb_or, mb_1]
theorem xb_both {post : SX → Prop} {x y e1 e2 : Nat} {A A' : pl_L} (hx : x < 9) (hy : y < 9) (hyx : y ≠ x) (he : e1 + e2 ≤ 6) (m1 : ma_ sz en mv x e1 A) (m2 : ma_ sz en mv y e2 A')
    (h : ∀ sz' en' mv', fr_ x sz en mv sz' en' mv' → ma_ sz' en' mv' x (e1 + e2) (la_both A A') → post (sd, sc, ec, ll, sz', en', mv', lo, re)) :
    wpX_makeBoth post (sd, sc, ec, ll, sz, en, mv, lo, re) (nI x) (nI y) := by
  obtain ⟨nx, z1, b1, o1⟩ := m1
  obtain ⟨ny, z2, b2, o2⟩ := m2
  have px := o1.1
  have py := o2.1
  have hN : nx * ny ≤ 2 ^ (e1 + e2) := by rw [Nat.pow_add]; exact Nat.mul_le_mul b1 b2
  have hN6 : nx * ny ≤ 64 := Nat.le_trans hN (p6 he)
  have nx6 : nx ≤ 64 := Nat.le_trans b1 (p6 (by omega))
  have ny6 : ny ≤ 64 := Nat.le_trans b2 (p6 (by omega))
  refine xw_both hx hy hyx px py hN6 nx6 ny6 z1 z2 (fun mv1 mv' en' g1 g gE => h _ _ _ ?_ ⟨_, pk_us, hN, au_congr ?_ (fun t => Iff.rfl) (au_both o1 o2 ?_)⟩)
  · intro z hz h9
    refine ⟨by rw [pk_un hz, pk_un h9], by rw [gE.1 z hz, pk_uLn h9], fun s k hs hk => ?_⟩
    rw [(g z s k hs hk).2 (fun q => hz q.1), (g1 z s k hs hk).2 (fun q => h9 q.1)]
  · have ey : ∀ s k, s < 64 → k < 4 → mv1 (pl_ y s k) = mv (pl_ y s k) := fun s k hs hk => (g1 y s k hs hk).2 (fun q => by omega)
    have e9 : ∀ s k, s < nx → k < 4 → mv1 (pl_ 9 s k) = mv (pl_ x s k) := fun s k hs hk => (g1 9 s k (by omega) hk).1 ⟨rfl, hs⟩
    intro s k t
    constructor
    · rintro ⟨a, b, c⟩
      have es : s = s / ny * ny + s % ny := by rw [Nat.mul_comm]; exact (Nat.div_add_mod s ny).symm
      have ha : s / ny < nx := (Nat.div_lt_iff_lt_mul py).mpr a
      have hb := Nat.mod_lt s py
      refine ⟨s / ny, s % ny, ha, hb, es, ?_⟩
      rcases ((g x s k (by omega) b).1 ⟨rfl, a⟩ _ _ ha hb es t (mb_big c)).mp c with ⟨q1, q2⟩ | ⟨d, q1, q2, q3⟩
      · rw [ey _ _ (by omega) b] at q2
        exact Or.inl ⟨t - s / ny * ny, ⟨hb, b, q2⟩, by omega⟩
      · rw [e9 _ _ ha b] at q2
        exact Or.inr ⟨d, ⟨ha, b, q2⟩, q3⟩
    · rintro ⟨a, b, ha, hb, rfl, q⟩
      have lab := bo_lt ha hb
      rcases q with ⟨b', q, rfl⟩ | ⟨a', q, rfl⟩
      · have hb' := (o2.2.1 _ _ _ q).2.2.2
        have lab' := bo_lt ha hb'
        refine ⟨lab, q.2.1, ((g x _ k (by omega) q.2.1).1 ⟨rfl, lab⟩ a b ha hb rfl _ (by omega)).mpr (Or.inl ⟨by omega, ?_⟩)⟩
        rw [ey _ _ (by omega) q.2.1, show a * ny + b' - a * ny = b' by omega]
        exact q.2.2
      · have ha' := (o1.2.1 _ _ _ q).2.2.2
        have lab' := bo_lt ha' hb
        refine ⟨lab, q.2.1, ((g x _ k (by omega) q.2.1).1 ⟨rfl, lab⟩ a b ha hb rfl _ (by omega)).mpr (Or.inr ⟨a', ha', ?_, rfl⟩)⟩
        rw [e9 _ _ ha q.2.1]
        exact q.2.2
  · intro t
    constructor
    · intro q
      obtain ⟨c, q1, q2, q3, q4⟩ := (gE.2 t (mb_big q)).mp q
      rw [pk_uLs] at q2
      rw [pk_uLn (by omega)] at q4
      exact ⟨c, t - c * ny, q2, q4, by omega⟩
    · rintro ⟨a, b, q1, q2, rfl⟩
      have la := o1.2.2.1 _ q1
      have lb := o2.2.2.1 _ q2
      have lab := bo_lt la lb
      refine (gE.2 _ (by omega)).mpr ⟨a, la, ?_, by omega, ?_⟩
      · rw [pk_uLs]; exact q1
      · rw [pk_uLn (by omega), show a * ny + b - a * ny = b by omega]; exact q2
end
end
section
/-! X's questions -/
section
variable {sd sc ec ll : Int32} {sz : Nat → Int32} {en mv : Nat → Int64} {lo : Nat → Int32} {re : Nat → Int64}
theorem xq_sa15 {post : Int64 → Prop} {x1 : Int64} {k n : Nat} (hk : k < 4) (hn : n ≤ 64)
    (h : ∀ r, (∀ t, mb_ r t ↔ ∃ s, s < n ∧ mb_ x1 s ∧ mb_ (mv (pl_ 8 s k)) t) → post r) :
    ∀ d i, i + d = n → ∀ r, (∀ t, mb_ r t ↔ ∃ s, s < i ∧ mb_ x1 s ∧ mb_ (mv (pl_ 8 s k)) t) → wX_statesAfter_15 post x1 (nI k) (nI n) sd sc ec ll sz en mv lo re (d + 1) r (nI i) := by
  intro d
  induction d with
  | zero =>
    intro i hi r g
    have : i = n := by omega
    subst this
    exact br_t (nI_le (Nat.le_refl _) (by omega)) (h r g)
  | succ d ih =>
    intro i hi r g
    have hs : i < 64 := by omega
    refine br_f (nI_ge (by omega) (by omega)) (mb_has hs (fun hb => ?_) (fun hb => ?_))
    · refine br_f (by decide) (pl_wp (z := 8) (by omega) hs hk ⟨pli (by omega) hs hk, nm_r (e' := r ||| mv (pl_ 8 i k)) (by rw [plc (by omega) hs hk]) (nm_r (nI_1 i) (ih (i + 1) (by omega) _ ?_))⟩)
      intro t
      rw [mb_or, g t]
      constructor
      · rintro (⟨s, a, b⟩ | a)
        · exact ⟨s, by omega, b⟩
        · exact ⟨i, by omega, hb, a⟩
      · rintro ⟨s, a, b, c⟩
        by_cases e : s = i
        · subst e; exact Or.inr c
        · exact Or.inl ⟨s, by omega, b, c⟩
    · refine br_t rfl (nm_r (nI_1 i) (ih (i + 1) (by omega) _ ?_))
      intro t
      rw [g t]
      constructor
      · rintro ⟨s, a, b⟩; exact ⟨s, by omega, b⟩
      · rintro ⟨s, a, b, c⟩
        by_cases e : s = i
        · subst e; exact absurd b hb
        · exact ⟨s, by omega, b, c⟩
theorem xq_sa {post : Int64 → Prop} {x1 : Int64} {k n : Nat} (hk : k < 4) (hn : n ≤ 64) (hz : sz 8 = nI n)
    (h : ∀ r, (∀ t, mb_ r t ↔ ∃ s, mb_ x1 s ∧ ma_D mv 8 n s k t) → post r) :
    wpX_statesAfter post (sd, sc, ec, ll, sz, en, mv, lo, re) x1 (nI k) := by
  refine nm_r hz ⟨n + 1, xq_sa15 hk hn (fun r g => h r (fun t => ?_)) n 0 (by omega) 0 (fun t => ⟨fun q => absurd q (mb_0 t), fun ⟨s, q, _⟩ => by omega⟩)⟩
  rw [g t]
  constructor
  · rintro ⟨s, a, b, c⟩; exact ⟨s, b, a, hk, c⟩
  · rintro ⟨s, b, a, _, c⟩; exact ⟨s, a, b, c⟩
theorem xq_wa6 {post : Int64 → Prop} {x1 : Int64} {B n : Nat} (hB : B < 16) (hn : n ≤ 64) (hz : sz 8 = nI n)
    (h : ∀ r, (∀ t, mb_ r t ↔ mb_ x1 t ∨ ∃ k, k < 4 ∧ B.testBit k = false ∧ ∃ s, mb_ x1 s ∧ ma_D mv 8 n s k t) → post r) :
    ∀ d i, i + d = 4 → ∀ r, (∀ t, mb_ r t ↔ mb_ x1 t ∨ ∃ k, k < i ∧ B.testBit k = false ∧ ∃ s, mb_ x1 s ∧ ma_D mv 8 n s k t) → wX_withStatesAfter_6 post x1 (nI B) sd sc ec ll sz en mv lo re (d + 1) r (nI i) := by
  intro d
  induction d with
  | zero =>
    intro i hi r g
    have : i = 4 := by omega
    subst this
    exact br_t (nI_le (a := 4) (b := 4) (by omega) (by decide)) (h r g)
  | succ d ih =>
    intro i hi r g
    have hk : i < 4 := by omega
    refine br_f (nI_ge (b := 4) hk (by decide)) ?_
    rw [nI_l (by omega)]
    refine mb_has (by omega) (fun hb => ?_) (fun hb => ?_)
    · rw [mb_lN (by omega)] at hb
      refine br_f (by decide) (nm_r (nI_1 i) (ih (i + 1) (by omega) _ ?_))
      intro t
      rw [g t]
      constructor
      · rintro (a | ⟨k, a, b⟩)
        · exact Or.inl a
        · exact Or.inr ⟨k, by omega, b⟩
      · rintro (a | ⟨k, a, b, c⟩)
        · exact Or.inl a
        · by_cases e : k = i
          · subst e; rw [hb] at b; exact absurd b (by decide)
          · exact Or.inr ⟨k, by omega, b, c⟩
    · rw [mb_lN (by omega), Bool.not_eq_true] at hb
      refine br_t rfl (xq_sa hk hn hz (fun q gq => nm_e (nm_r (nI_1 i) (ih (i + 1) (by omega) _ ?_))))
      intro t
      rw [mb_or, g t, gq t]
      constructor
      · rintro ((a | ⟨k, a, b⟩) | a)
        · exact Or.inl a
        · exact Or.inr ⟨k, by omega, b⟩
        · exact Or.inr ⟨i, by omega, hb, a⟩
      · rintro (a | ⟨k, a, b, c⟩)
        · exact Or.inl (Or.inl a)
        · by_cases e : k = i
          · subst e; exact Or.inr c
          · exact Or.inl (Or.inr ⟨k, by omega, b, c⟩)
theorem xq_wa {post : Int64 → Prop} {x1 : Int64} {B n : Nat} (hB : B < 16) (hn : n ≤ 64) (hz : sz 8 = nI n)
    (h : ∀ r, (∀ t, mb_ r t ↔ mb_ x1 t ∨ ∃ k, k < 4 ∧ B.testBit k = false ∧ ∃ s, mb_ x1 s ∧ ma_D mv 8 n s k t) → post r) :
    wpX_withStatesAfter post (sd, sc, ec, ll, sz, en, mv, lo, re) x1 (nI B) := by
  refine ⟨5, xq_wa6 hB hn hz h 4 0 (by omega) x1 (fun t => ⟨Or.inl, ?_⟩)⟩
  rintro (a | ⟨k, a, _⟩)
  · exact a
  · omega
/-- what is reached from R by at most c allowed moves -/
def rc_ (D : Nat → Nat → Nat → Prop) (R : Int64) (B c : Nat) : Nat → Prop := fun t =>
  ∃ r u, mb_ R r ∧ u.length ≤ c ∧ ct_ok B u ∧ au_run D r u t
theorem rc_0 {D : Nat → Nat → Nat → Prop} {R : Int64} {B t : Nat} : rc_ D R B 0 t ↔ mb_ R t := by
  constructor
  · rintro ⟨r, u, a, b, _, d⟩
    cases u with
    | nil => cases d; exact a
    | cons c u => exact absurd b (by simp)
  · intro h; exact ⟨t, [], h, Nat.le_refl _, ok_nil, rfl⟩
theorem rc_s {D : Nat → Nat → Nat → Prop} {R : Int64} {B c t : Nat} : rc_ D R B (c + 1) t ↔ rc_ D R B c t ∨ ∃ k, k < 4 ∧ B.testBit k = false ∧ ∃ s, rc_ D R B c s ∧ D s k t := by
  constructor
  · rintro ⟨r, u, a, b, o, d⟩
    by_cases e : u = []
    · subst e; exact Or.inl ⟨r, [], a, by simp, ok_nil, d⟩
    · obtain ⟨u', k, rfl⟩ : ∃ u' k, u = u' ++ [k] := ⟨u.dropLast, u.getLast e, (List.dropLast_concat_getLast e).symm⟩
      obtain ⟨o1, o2⟩ := ok_app.mp o
      obtain ⟨z, d1, d2⟩ := (au_app u' [k] r t).mp d
      obtain ⟨t', d3, d4⟩ := d2
      cases d4
      rw [List.length_append] at b
      have b : u'.length + 1 ≤ c + 1 := b
      have ok := o2 k List.mem_cons_self
      exact Or.inr ⟨k, ok.1, ok.2, z, ⟨r, u', a, by omega, o1, d1⟩, d3⟩
  · rintro (⟨r, u, a, b, o, d⟩ | ⟨k, hk, hb, s, ⟨r, u, a, b, o, d⟩, e⟩)
    · exact ⟨r, u, a, by omega, o, d⟩
    · refine ⟨r, u ++ [k], a, by rw [List.length_append]; show u.length + 1 ≤ _; omega, ok_app.mpr ⟨o, ?_⟩, (au_app u [k] r t).mpr ⟨s, d, t, e, rfl⟩⟩
      intro c' hc
      rw [List.mem_singleton.mp hc]; exact ⟨hk, hb⟩
theorem rc_can {n : Nat} {D : Nat → Nat → Nat → Prop} {E : Nat → Prop} {L : pl_L} {R : Int64} {B c : Nat} {w : List Nat} (o : au_ok n D E L) (hR : ∀ t, mb_ R t ↔ au_run D 0 w t) : (∃ t, rc_ D R B c t ∧ E t) ↔ ∃ m, m ≤ c ∧ ct_can L B w m := by
  constructor
  · rintro ⟨t, ⟨r, u, a, b, k, d⟩, e⟩
    exact ⟨u.length, b, u, rfl, k, (o.2.2.2.1 _).mpr ⟨t, (au_app w u 0 t).mpr ⟨r, (hR r).mp a, d⟩, e⟩⟩
  · rintro ⟨m, hm, u, a, k, l⟩
    obtain ⟨t, d, e⟩ := (o.2.2.2.1 _).mp l
    obtain ⟨r, d1, d2⟩ := (au_app w u 0 t).mp d
    exact ⟨t, ⟨r, u, (hR r).mpr d1, by omega, k, d2⟩, e⟩
theorem xq_le6 {post : Int32 → Prop} {R : Int64} {B n : Nat} {L : pl_L} {w : List Nat} (hB : B < 16) (hn : n ≤ 64) (hz : sz 8 = nI n) (o : au_ok n (ma_D mv 8 n) (fun t => mb_ (en 8) t) L) (hR : ∀ t, mb_ R t ↔ au_run (ma_D mv 8 n) 0 w t)
    (h1 : ∀ c, c < 64 → ct_can L B w c → (∀ m, m < c → ¬ ct_can L B w m) → post (nI c)) (h2 : (∀ m, m < 64 → ¬ ct_can L B w m) → post (-4)) :
    ∀ d i, i + d = 64 → (∀ m, m < i → ¬ ct_can L B w m) → ∀ r, (∀ t, mb_ r t ↔ rc_ (ma_D mv 8 n) R B i t) → wX_leastToEnd_6 post (nI B) sd sc ec ll sz en mv lo re (d + 1) r (nI i) := by
  intro d
  induction d with
  | zero =>
    intro i hi no r g
    have : i = 64 := by omega
    subst this
    exact br_t (nI_le (a := 64) (b := 64) (by omega) (by decide)) (h2 no)
  | succ d ih =>
    intro i hi no r g
    refine br_f (nI_ge (b := 64) (by omega) (by decide)) (br_c (fun q => ?_) (fun q => ?_))
    · refine xq_wa hB hn hz (fun r' g' => nm_r (nI_1 i) (ih (i + 1) (by omega) ?_ r' ?_))
      · intro m hm c
        obtain ⟨t, t1, t2⟩ := (rc_can o hR).mpr ⟨m, (by omega : m ≤ i), c⟩
        exact mb_z.mp q t ((mb_and _ _ _).mpr ⟨(g t).mpr t1, t2⟩)
      · intro t
        rw [g' t, g t, rc_s]
        constructor
        · rintro (a | ⟨k, a, b, s, c, c'⟩)
          · exact Or.inl a
          · exact Or.inr ⟨k, a, b, s, (g s).mp c, c'⟩
        · rintro (a | ⟨k, a, b, s, c, c'⟩)
          · exact Or.inl a
          · exact Or.inr ⟨k, a, b, s, (g s).mpr c, c'⟩
    · obtain ⟨t, ht⟩ := mb_nz.mp q
      obtain ⟨t1, t2⟩ := (mb_and _ _ _).mp ht
      obtain ⟨m, m1, m2⟩ := (rc_can o hR).mp ⟨t, (g t).mp t1, t2⟩
      have : m = i := by
        rcases Nat.lt_or_ge m i with z | z
        · exact absurd m2 (no m z)
        · omega
      subst this
      exact h1 m (by omega) m2 no
theorem xq_le {post : Int32 → Prop} {R : Int64} {B n : Nat} {L : pl_L} {w : List Nat} (hB : B < 16) (hn : n ≤ 64) (hz : sz 8 = nI n) (o : au_ok n (ma_D mv 8 n) (fun t => mb_ (en 8) t) L) (hR : ∀ t, mb_ R t ↔ au_run (ma_D mv 8 n) 0 w t)
    (h1 : ∀ c, c < 64 → ct_can L B w c → (∀ m, m < c → ¬ ct_can L B w m) → post (nI c)) (h2 : (∀ m, m < 64 → ¬ ct_can L B w m) → post (-4)) :
    wpX_leastToEnd post (sd, sc, ec, ll, sz, en, mv, lo, re) R (nI B) :=
  ⟨65, xq_le6 hB hn hz o hR h1 h2 64 0 (by omega) (fun m hm => by omega) R (fun t => rc_0.symm)⟩
end
end
section
/-! Y's costs -/
section
variable {st dp ev si le : Int32} {dr pr lo co op_ : Nat → Int32}
theorem yi_e (q s : Nat) : (nI q * 256) + nI s = nI (q * 256 + s) := by
  rw [← nI_add, ← pk_mul]; rfl
theorem yi_i {q s : Nat} (hq : q < 16) (hs : s < 256) : vp_in (nI (q * 256 + s)) 4096 := vp_in_nI (by omega) (by decide)
theorem yi_c {q s : Nat} (hq : q < 16) (hs : s < 256) : (nI (q * 256 + s)).toNatClampNeg = q * 256 + s := nI_clamp (by omega)
theorem y_p8 {P : Nat} (h : P ≤ 8) : 2 ^ P ≤ 256 := Nat.pow_le_pow_right (n := 2) (by decide) h
theorem y_one {p : Nat} (h : p < 31) : (1 : Int32) <<< (nI p &&& 31) = nI (2 ^ p) := by
  have := pk_shlN (n := 1) (nI p &&& 31) p (s_l p (by omega)) (by rw [Nat.one_mul]; exact Nat.pow_lt_pow_right (by decide) (by omega))
  rw [Nat.one_mul] at this
  exact this
theorem y_mask {s p : Nat} (h : p < 31) : nI s &&& (((1 : Int32) <<< (nI p &&& 31)) - 1) = nI (s % 2 ^ p) := by
  rw [y_one h]
  have e : nI (2 ^ p) - 1 = nI (2 ^ p - 1) := pk_sub (a := 2 ^ p) (b := 1) (Nat.two_pow_pos p)
  rw [e, nx_and, Nat.and_two_pow_sub_one_eq_mod]
def yr_ (co : Nat → Int32) (q P B : Nat) (lg : Nat → Nat) (e : Nat) (L : pl_L) (f : Nat → Nat) (m : Nat) : Prop :=
  ∀ s, s < m → co (q * 256 + s) = nI (f s) ∧ ct_C e L B (sw_ lg s P) (f s)
theorem yw_sq28 {post : Int32 → Prop} {qx qy s P B e1 e2 : Nat} {A A' : pl_L} {lg cx cy : Nat → Nat} (hqx : qx < 16) (hqy : qy < 16) (hP : P ≤ 8) (hs : s < 2 ^ P)
    (rx : yr_ co qx P B lg e1 A cx (2 ^ P)) (ry : yr_ co qy P B lg e2 A' cy (2 ^ P))
    (h : ∀ r, r ≤ cx s + cy 0 → (∀ p, p ≤ P → cx (s % 2 ^ p) = 0 → r ≤ cy (s - s % 2 ^ p)) → (r = cx s + cy 0 ∨ ∃ p, p ≤ P ∧ cx (s % 2 ^ p) = 0 ∧ r = cy (s - s % 2 ^ p)) → post (nI r)) :
    ∀ d p, p + d = P + 1 → ∀ r, r ≤ 200 → r ≤ cx s + cy 0 → (∀ p', p' < p → cx (s % 2 ^ p') = 0 → r ≤ cy (s - s % 2 ^ p')) → (r = cx s + cy 0 ∨ ∃ p, p ≤ P ∧ cx (s % 2 ^ p) = 0 ∧ r = cy (s - s % 2 ^ p)) → wY_seqCost_28 post (nI qx) (nI qy) (nI s) (nI P) st dp ev si le dr pr lo co op_ (d + 1) (nI r) (nI p) := by
  have p8 := y_p8 hP
  intro d
  induction d with
  | zero =>
    intro p hp r hr l0 l1 a
    have : p = P + 1 := by omega
    subst this
    exact br_t (nI_lt (by omega) (by omega)) (h r l0 (fun p' hp' => l1 p' (by omega)) a)
  | succ d ih =>
    intro p hp r hr l0 l1 a
    refine br_f (nI_nlt (by omega) (by omega)) (nm_r (y_mask (by omega)) ?_)
    have hf : s % 2 ^ p ≤ s := Nat.mod_le _ _
    have hx := rx (s % 2 ^ p) (by omega)
    have hy := ry (s - s % 2 ^ p) (by omega)
    have x1 := hx.2.1
    have y1 := hy.2.1
    rw [pk_sub hf, yi_e, yi_e, yi_c hqx (by omega), yi_c hqy (by omega), hx.1, hy.1]
    refine ⟨yi_i hqx (by omega), ?_⟩
    refine pk_eq (cx (s % 2 ^ p)) 0 (fun ez => ⟨yi_i hqy (by omega), ?_⟩) (fun ez => ?_)
    · refine pk_le r (cy (s - s % 2 ^ p)) (fun q => ?_) (fun q => ⟨yi_i hqy (by omega), ?_⟩)
      · refine nm_r (nI_1 p) (ih (p + 1) (by omega) r hr l0 (fun p' hp' z => ?_) a)
        by_cases e : p' = p
        · subst e; exact q
        · exact l1 p' (by omega) z
      · refine nm_e (nm_r (nI_1 p) (ih (p + 1) (by omega) _ (by omega) (by omega) (fun p' hp' z => ?_) (Or.inr ⟨p, by omega, ez, rfl⟩)))
        by_cases e : p' = p
        · subst e; exact Nat.le_refl _
        · have := l1 p' (by omega) z; omega
    · refine nm_r (nI_1 p) (ih (p + 1) (by omega) r hr l0 (fun p' hp' z => ?_) a)
      by_cases e : p' = p
      · subst e; exact absurd z ez
      · exact l1 p' (by omega) z
theorem yw_sq {post : Int32 → Prop} {qx qy s P B e1 e2 : Nat} {A A' : pl_L} {lg cx cy : Nat → Nat} (hqx : qx < 16) (hqy : qy < 16) (hP : P ≤ 8) (hs : s < 2 ^ P) (he : e1 + e2 < 100)
    (rx : yr_ co qx P B lg e1 A cx (2 ^ P)) (ry : yr_ co qy P B lg e2 A' cy (2 ^ P))
    (h : ∀ r, r ≤ 200 → ct_C (e1 + e2) (la_seq A A') B (sw_ lg s P) (min r 100) → post (nI r)) :
    wpY_seqCost post (st, dp, ev, si, le, dr, pr, lo, co, op_) (nI qx) (nI qy) (nI s) (nI P) := by
  have p8 := y_p8 hP
  have hx := rx s hs
  have hy := ry 0 (Nat.two_pow_pos P)
  have x1 := hx.2.1
  have y1 := hy.2.1
  have e0 : nI qy * 256 = nI (qy * 256 + 0) := pk_mul qy 256
  unfold wpY_seqCost
  dsimp only
  rw [yi_e, e0]
  refine ⟨yi_i hqx (by omega), yi_i hqy (by omega), nm_r (e' := nI (cx s + cy 0)) (by rw [yi_c hqx (by omega), yi_c hqy (by omega), hx.1, hy.1, nI_add]) ⟨P + 1 + 1, ?_⟩⟩
  refine yw_sq28 hqx hqy hP hs rx ry (fun r l0 l1 a => ?_) (P + 1) 0 (by omega) _ (by omega) (Nat.le_refl _) (fun p hp => by omega) (Or.inl rfl)
  exact h r (by omega) (cc_seq he hs (fun s hs => (rx s hs).2) (fun s hs => (ry s hs).2) l0 l1 a)
theorem yw_ch {post : Int32 → Prop} {qx qy s P B e1 e2 : Nat} {A A' : pl_L} {lg cx cy : Nat → Nat} (hqx : qx < 16) (hqy : qy < 16) (hP : P ≤ 8) (hs : s < 2 ^ P)
    (rx : yr_ co qx P B lg e1 A cx (2 ^ P)) (ry : yr_ co qy P B lg e2 A' cy (2 ^ P))
    (h : ∀ r, r ≤ 200 → ct_C (e1 + e2) (la_cho A A') B (sw_ lg s P) (min r 100) → post (nI r)) :
    wpY_choiceCost post (st, dp, ev, si, le, dr, pr, lo, co, op_) (nI qx) (nI qy) (nI s) := by
  have p8 := y_p8 hP
  have hx := rx s hs
  have hy := ry s hs
  have x1 := hx.2.1
  have y1 := hy.2.1
  have C := cc_cho hx.2 hy.2
  unfold wpY_choiceCost
  dsimp only
  rw [yi_e, yi_e, yi_c hqx (by omega), yi_c hqy (by omega), hx.1, hy.1]
  refine ⟨yi_i hqx (by omega), yi_i hqy (by omega), ?_⟩
  refine pk_le (cy s) (cx s) (fun q => ⟨yi_i hqy (by omega), h _ (by omega) ?_⟩) (fun q => ⟨yi_i hqx (by omega), h _ (by omega) ?_⟩)
  · rw [show min (cy s) 100 = min (cx s) (cy s) by omega]; exact C
  · rw [show min (cx s) 100 = min (cx s) (cy s) by omega]; exact C
theorem yw_bo7 {post : Int32 → Prop} {qx qy s P B e1 e2 : Nat} {A A' : pl_L} {lg cx cy : Nat → Nat} (hqx : qx < 16) (hqy : qy < 16) (hP : P ≤ 8) (hs : s < 2 ^ P)
    (rx : yr_ co qx P B lg e1 A cx (2 ^ P)) (ry : yr_ co qy P B lg e2 A' cy (2 ^ P))
    (h : ∀ r, r ≤ 100 → (∀ a, sb_ a s → r ≤ cx a + cy (s - a)) → (r = 100 ∨ ∃ a, sb_ a s ∧ r = cx a + cy (s - a)) → post (nI r)) :
    ∀ d a, a + d = s + 1 → ∀ r, r ≤ 100 → (∀ a', a' < a → sb_ a' s → r ≤ cx a' + cy (s - a')) → (r = 100 ∨ ∃ a, sb_ a s ∧ r = cx a + cy (s - a)) → wY_bothCost_7 post (nI qx) (nI qy) (nI s) st dp ev si le dr pr lo co op_ (d + 1) (nI r) (nI a) := by
  have p8 := y_p8 hP
  intro d
  induction d with
  | zero =>
    intro a ha r hr l1 t
    have : a = s + 1 := by omega
    subst this
    exact br_t (nI_lt (by omega) (by omega)) (h r hr (fun a' h' => l1 a' (by have := sb_le h'; omega) h') t)
  | succ d ih =>
    intro a ha r hr l1 t
    refine br_f (nI_nlt (by omega) (by omega)) ?_
    rw [nx_and]
    refine pk_eq (a &&& s) a (fun ez => ?_) (fun ez => ?_) rfl rfl (Nat.lt_of_le_of_lt Nat.and_le_right (by omega))
    · have sb := sb_iff.mp ez
      have hx := rx a (by omega)
      have hy := ry (s - a) (by omega)
      have x1 := hx.2.1
      have y1 := hy.2.1
      rw [pk_sub (by omega), yi_e, yi_e, yi_c hqx (by omega), yi_c hqy (by omega), hx.1, hy.1]
      refine ⟨yi_i hqx (by omega), yi_i hqy (by omega), nm_r (nI_add _ _) ?_⟩
      refine pk_le r (cx a + cy (s - a)) (fun q => ?_) (fun q => ?_)
      · refine nm_r (nI_1 a) (ih (a + 1) (by omega) r hr (fun a' h' z => ?_) t)
        by_cases e : a' = a
        · subst e; exact q
        · exact l1 a' (by omega) z
      · refine nm_r (nI_1 a) (ih (a + 1) (by omega) _ (by omega) (fun a' h' z => ?_) (Or.inr ⟨a, sb, rfl⟩))
        by_cases e : a' = a
        · subst e; exact Nat.le_refl _
        · have := l1 a' (by omega) z; omega
    · refine nm_r (nI_1 a) (ih (a + 1) (by omega) r hr (fun a' h' z => ?_) t)
      by_cases e : a' = a
      · subst e; exact absurd (sb_iff.mpr z) ez
      · exact l1 a' (by omega) z
theorem yw_bo {post : Int32 → Prop} {qx qy s P B e1 e2 : Nat} {A A' : pl_L} {lg cx cy : Nat → Nat} (hqx : qx < 16) (hqy : qy < 16) (hP : P ≤ 8) (hs : s < 2 ^ P) (he : e1 + e2 < 100)
    (rx : yr_ co qx P B lg e1 A cx (2 ^ P)) (ry : yr_ co qy P B lg e2 A' cy (2 ^ P))
    (h : ∀ r, r ≤ 200 → ct_C (e1 + e2) (la_both A A') B (sw_ lg s P) (min r 100) → post (nI r)) :
    wpY_bothCost post (st, dp, ev, si, le, dr, pr, lo, co, op_) (nI qx) (nI qy) (nI s) := by
  refine ⟨s + 1 + 1, yw_bo7 (r := 100) hqx hqy hP hs rx ry (fun r l0 l1 a => ?_) (s + 1) 0 (by omega) (by omega) (fun a h => by omega) (Or.inl rfl)⟩
  exact h r (by omega) (cc_both he hs (fun s hs => (rx s hs).2) (fun s hs => (ry s hs).2) l1 a)
theorem yw_lo23 {post : Int32 → Prop} {qn qx s P B e1 : Nat} {A : pl_L} {lg cx cn : Nat → Nat} (hqn : qn < 16) (hqx : qx < 16) (hP : P ≤ 8) (hs : s < 2 ^ P)
    (rx : yr_ co qx P B lg e1 A cx (2 ^ P)) (rn : yr_ co qn P B lg e1 (la_loop A) cn s)
    (h : ∀ r, r ≤ cx s → (∀ p, p ≤ P → s % 2 ^ p ≠ 0 → s % 2 ^ p ≠ s → cx (s % 2 ^ p) = 0 → r ≤ cn (s - s % 2 ^ p)) → (r = cx s ∨ ∃ p, p ≤ P ∧ s % 2 ^ p ≠ 0 ∧ s % 2 ^ p ≠ s ∧ cx (s % 2 ^ p) = 0 ∧ r = cn (s - s % 2 ^ p)) → post (nI r)) :
    ∀ d p, p + d = P + 1 → ∀ r, r ≤ 200 → r ≤ cx s → (∀ p', p' < p → s % 2 ^ p' ≠ 0 → s % 2 ^ p' ≠ s → cx (s % 2 ^ p') = 0 → r ≤ cn (s - s % 2 ^ p')) → (r = cx s ∨ ∃ p, p ≤ P ∧ s % 2 ^ p ≠ 0 ∧ s % 2 ^ p ≠ s ∧ cx (s % 2 ^ p) = 0 ∧ r = cn (s - s % 2 ^ p)) → wY_loopCost_23 post (nI qn) (nI qx) (nI s) (nI P) st dp ev si le dr pr lo co op_ (d + 1) (nI r) (nI p) := by
  have p8 := y_p8 hP
  intro d
  induction d with
  | zero =>
    intro p hp r hr l0 l1 a
    have : p = P + 1 := by omega
    subst this
    exact br_t (nI_lt (by omega) (by omega)) (h r l0 (fun p' hp' => l1 p' (by omega)) a)
  | succ d ih =>
    intro p hp r hr l0 l1 a
    refine br_f (nI_nlt (by omega) (by omega)) (nm_r (y_mask (by omega)) ?_)
    have hf : s % 2 ^ p ≤ s := Nat.mod_le _ _
    have hx := rx (s % 2 ^ p) (by omega)
    have x1 := hx.2.1
    refine pk_eq (s % 2 ^ p) 0 (fun n0 => ?_) (fun n0 => ?_)
    · refine nm_r (nI_1 p) (ih (p + 1) (by omega) r hr l0 (fun p' hp' z1 z2 z3 => ?_) a)
      by_cases e : p' = p
      · subst e; exact absurd n0 z1
      · exact l1 p' (by omega) z1 z2 z3
    · refine pk_eq (s % 2 ^ p) s (fun n1 => ?_) (fun n1 => ?_)
      · refine nm_r (nI_1 p) (ih (p + 1) (by omega) r hr l0 (fun p' hp' z1 z2 z3 => ?_) a)
        by_cases e : p' = p
        · subst e; exact absurd n1 z2
        · exact l1 p' (by omega) z1 z2 z3
      · have hy := rn (s - s % 2 ^ p) (by omega)
        have y1 := hy.2.1
        rw [pk_sub hf, yi_e, yi_e, yi_c hqx (by omega), yi_c hqn (by omega), hx.1, hy.1]
        refine ⟨yi_i hqx (by omega), ?_⟩
        refine pk_eq (cx (s % 2 ^ p)) 0 (fun ez => ⟨yi_i hqn (by omega), ?_⟩) (fun ez => ?_)
        · refine pk_le r (cn (s - s % 2 ^ p)) (fun q => ?_) (fun q => ⟨yi_i hqn (by omega), ?_⟩)
          · refine nm_r (nI_1 p) (ih (p + 1) (by omega) r hr l0 (fun p' hp' z1 z2 z3 => ?_) a)
            by_cases e : p' = p
            · subst e; exact q
            · exact l1 p' (by omega) z1 z2 z3
          · refine nm_e (nm_r (nI_1 p) (ih (p + 1) (by omega) _ (by omega) (by omega) (fun p' hp' z1 z2 z3 => ?_) (Or.inr ⟨p, by omega, n0, n1, ez, rfl⟩)))
            by_cases e : p' = p
            · subst e; exact Nat.le_refl _
            · have := l1 p' (by omega) z1 z2 z3; omega
        · refine nm_r (nI_1 p) (ih (p + 1) (by omega) r hr l0 (fun p' hp' z1 z2 z3 => ?_) a)
          by_cases e : p' = p
          · subst e; exact absurd z3 ez
          · exact l1 p' (by omega) z1 z2 z3
theorem yw_lo {post : Int32 → Prop} {qn qx s P B e1 : Nat} {A : pl_L} {lg cx cn : Nat → Nat} (hqn : qn < 16) (hqx : qx < 16) (hP : P ≤ 8) (hs : s < 2 ^ P)
    (rx : yr_ co qx P B lg e1 A cx (2 ^ P)) (rn : yr_ co qn P B lg e1 (la_loop A) cn s)
    (h : ∀ r, r ≤ 200 → ct_C e1 (la_loop A) B (sw_ lg s P) (min r 100) → post (nI r)) :
    wpY_loopCost post (st, dp, ev, si, le, dr, pr, lo, co, op_) (nI qn) (nI qx) (nI s) (nI P) := by
  have p8 := y_p8 hP
  have hx := rx s hs
  have x1 := hx.2.1
  refine pk_eq s 0 (fun z => ?_) (fun z => ?_)
  · subst z
    refine h 0 (by omega) (C_z ?_)
    rw [(sw_nil_iff hs).mpr rfl]; exact lo_nil
  · rw [yi_e]
    refine ⟨yi_i hqx (by omega), nm_r (e' := nI (cx s)) (by rw [yi_c hqx (by omega), hx.1]) ⟨P + 1 + 1, ?_⟩⟩
    refine yw_lo23 hqn hqx hP hs rx rn (fun r l0 l1 a => ?_) (P + 1) 0 (by omega) _ (by omega) (Nat.le_refl _) (fun p hp => by omega) (Or.inl rfl)
    have C := cc_loop hs z (fun s hs => (rx s hs).2) (fun s hs => (rn s hs).2) l0 l1 a
    have := C.1
    exact h r (by omega) (by rw [show min r 100 = r by omega]; exact C)
theorem yw_ev24 {post : Int32 → Prop} {k s P : Nat} {lg : Nat → Nat} (hk : k < 4) (hP : P ≤ 8) (hs : s < 2 ^ P) (hl : ∀ i, i < P → lo i = nI (lg i) ∧ lg i < 4)
    (h1 : (∃ p, p < P ∧ s = 2 ^ p ∧ lg p = k) → post 0) (h0 : ¬ (∃ p, p < P ∧ s = 2 ^ p ∧ lg p = k) → post 100) :
    ∀ d p, p + d = P → (∀ p', p' < p → ¬ (s = 2 ^ p' ∧ lg p' = k)) → wY_eventCost_24 post (nI k) (nI s) (nI P) st dp ev si le dr pr lo co op_ (d + 1) (nI p) := by
  have p8 := y_p8 hP
  intro d
  induction d with
  | zero =>
    intro p hp no
    have : p = P := by omega
    subst this
    exact br_t (nI_le (Nat.le_refl _) (by omega)) (h0 (fun ⟨p', a, b⟩ => no p' a b))
  | succ d ih =>
    intro p hp no
    have pw : 2 ^ p ≤ 256 := y_p8 (by omega)
    refine br_f (nI_ge (by omega) (by omega)) ?_
    rw [y_one (by omega)]
    refine pk_eq s (2 ^ p) (fun e => ⟨vp_in_nI (by omega) (by decide), ?_⟩) (fun e => ?_)
    · have l := hl p (by omega)
      rw [nI_clamp (by omega), l.1]
      refine pk_eq (lg p) k (fun e2 => h1 ⟨p, by omega, e, e2⟩) (fun e2 => nm_r (nI_1 p) (ih (p + 1) (by omega) (fun p' h' z => ?_)))
      by_cases q : p' = p
      · subst q; exact e2 z.2
      · exact no p' (by omega) z
    · refine nm_r (nI_1 p) (ih (p + 1) (by omega) (fun p' h' z => ?_))
      by_cases q : p' = p
      · subst q; exact e z.1
      · exact no p' (by omega) z
theorem yw_bar {B k : Nat} (hB : B < 16) (hk : k < 4) : ((nI B >>> (nI k &&& 31)) &&& 1) = 1 ↔ B.testBit k = true := by
  rw [pk_shrN (by omega) (nI k &&& 31) k (s_l k (by omega)), pk_andN (k := 1) (Nat.lt_of_le_of_lt (Nat.div_le_self _ _) (by omega)) (by decide)]
  have := nI_eq (a := B / 2 ^ k % 2 ^ 1) (b := 1) (Nat.lt_of_lt_of_le (Nat.mod_lt _ (by decide)) (by decide)) (by decide)
  refine this.trans ?_
  rw [Nat.testBit_eq_decide_div_mod_eq, decide_eq_true_eq, Nat.pow_one]
theorem yw_ev {post : Int32 → Prop} {k s P B : Nat} {lg : Nat → Nat} (hk : k < 4) (hP : P ≤ 8) (hs : s < 2 ^ P) (hB : B < 16) (hl : ∀ i, i < P → lo i = nI (lg i) ∧ lg i < 4)
    (h : ∀ r, r ≤ 200 → ct_C 1 (la_ev k) B (sw_ lg s P) (min r 100) → post (nI r)) :
    wpY_eventCost post (st, dp, ev, si, le, dr, pr, lo, co, op_) (nI k) (nI s) (nI P) (nI B) := by
  have p8 := y_p8 hP
  refine pk_eq s 0 (fun z => ?_) (fun z => ⟨P + 1, ?_⟩)
  · subst z
    have e := (sw_nil_iff (lg := lg) hs).mpr rfl
    rw [yw_bar hB hk]
    refine br_c (fun q => h 100 (by omega) ?_) (fun q => h 1 (by omega) ?_)
    · rw [e]; exact cc_ev0 q
    · rw [e]; exact cc_ev1 hk (by rw [Bool.not_eq_true] at q; exact q)
  · refine yw_ev24 hk hP hs hl (fun q => h 0 (by omega) ?_) (fun q => h 100 (by omega) ?_) P 0 (by omega) (fun p hp => by omega)
    · obtain ⟨p, a, rfl, rfl⟩ := q
      rw [sw_pow P a]
      exact C_z rfl
    · refine cc_ev2 (fun e => z ((sw_nil_iff hs).mp e)) (fun e => q (sw_one P hs e))
end
end
section
/-! Y's least -/
section
variable {st dp ev si le : Int32} {dr pr lo co op_ : Nat → Int32}
theorem yc_ev {post : Int32 → Prop} {n x y : Int32} {k s P B : Nat} {lg : Nat → Nat} (hk : k < 4) (hP : P ≤ 8) (hs : s < 2 ^ P) (hB : B < 16) (hl : ∀ i, i < P → lo i = nI (lg i) ∧ lg i < 4)
    (h : ∀ r, r ≤ 200 → ct_C 1 (la_ev k) B (sw_ lg s P) (min r 100) → post (nI r)) :
    wpY_costOf post (st, dp, ev, si, le, dr, pr, lo, co, op_) n (nI k) x y (nI s) (nI P) (nI B) :=
  br_f (nI_ge (b := 4) hk (by decide)) (yw_ev hk hP hs hB hl h)
theorem yc_sk {post : Int32 → Prop} {n x y : Int32} {s P B : Nat} {lg : Nat → Nat} (hP : P ≤ 8) (hs : s < 2 ^ P)
    (h : ∀ r, r ≤ 200 → ct_C 0 la_skip B (sw_ lg s P) (min r 100) → post (nI r)) :
    wpY_costOf post (st, dp, ev, si, le, dr, pr, lo, co, op_) n (nI 4) x y (nI s) (nI P) (nI B) := by
  have p8 := y_p8 hP
  refine br_t (nI_le (a := 4) (b := 4) (by omega) (by decide)) (br_t rfl (pk_eq s 0 (fun z => h 0 (by omega) (C_z ((sw_nil_iff hs).mpr z))) (fun z => h 100 (by omega) (cc_skip (fun e => z ((sw_nil_iff hs).mp e))))))
theorem yc_bi {post : Int32 → Prop} {n : Int32} {k qx qy s P B e1 e2 : Nat} {A A' : pl_L} {lg cx cy : Nat → Nat} (h5 : 5 ≤ k) (h8 : k < 8) (hqx : qx < 16) (hqy : qy < 16) (hP : P ≤ 8) (hs : s < 2 ^ P) (he : e1 + e2 < 100)
    (rx : yr_ co qx P B lg e1 A cx (2 ^ P)) (ry : yr_ co qy P B lg e2 A' cy (2 ^ P))
    (h : ∀ r, r ≤ 200 → ct_C (e1 + e2) (la_bin k A A') B (sw_ lg s P) (min r 100) → post (nI r)) :
    wpY_costOf post (st, dp, ev, si, le, dr, pr, lo, co, op_) n (nI k) (nI qx) (nI qy) (nI s) (nI P) (nI B) := by
  have q : k = 5 ∨ k = 6 ∨ k = 7 := by omega
  refine br_t (nI_le (a := 4) (b := k) (by omega) (by omega)) ?_
  rcases q with rfl | rfl | rfl
  · exact br_f (by decide) (br_t rfl (yw_sq hqx hqy hP hs he rx ry h))
  · exact br_f (by decide) (br_f (by decide) (br_t rfl (yw_ch hqx hqy hP hs rx ry h)))
  · exact br_f (by decide) (br_f (by decide) (br_f (by decide) (br_t rfl (yw_bo hqx hqy hP hs he rx ry h))))
theorem yc_un {post : Int32 → Prop} {x : Int32} {k qn qy s P B e1 : Nat} {A : pl_L} {lg cy cn : Nat → Nat} (h8 : 8 ≤ k) (h9 : k ≤ 9) (hqn : qn < 16) (hqy : qy < 16) (hP : P ≤ 8) (hs : s < 2 ^ P)
    (ry : yr_ co qy P B lg e1 A cy (2 ^ P)) (rn : yr_ co qn P B lg e1 (la_un k A) cn s)
    (h : ∀ r, r ≤ 200 → ct_C e1 (la_un k A) B (sw_ lg s P) (min r 100) → post (nI r)) :
    wpY_costOf post (st, dp, ev, si, le, dr, pr, lo, co, op_) (nI qn) (nI k) x (nI qy) (nI s) (nI P) (nI B) := by
  have p8 := y_p8 hP
  have q : k = 8 ∨ k = 9 := by omega
  refine br_t (nI_le (a := 4) (b := k) (by omega) (by omega)) ?_
  rcases q with rfl | rfl
  · exact br_f (by decide) (br_f (by decide) (br_f (by decide) (br_f (by decide) (br_t rfl (yw_lo hqn hqy hP hs ry rn h)))))
  · refine br_f (by decide) (br_f (by decide) (br_f (by decide) (br_f (by decide) (br_f (by decide) ?_))))
    have hy := ry s hs
    have y1 := hy.2.1
    refine pk_eq s 0 (fun z => h 0 (by omega) (C_z (Or.inl ((sw_nil_iff hs).mpr z)))) (fun z => ?_)
    rw [yi_e, yi_c hqy (by omega), hy.1]
    refine ⟨yi_i hqy (by omega), h _ (by omega) ?_⟩
    rw [show min (cy s) 100 = cy s by omega]
    exact cc_opt (fun e => z ((sw_nil_iff hs).mp e)) hy.2
theorem y_nar : ∀ r, r ≤ 100 → (nI r).toInt8.toInt32.toInt8.toInt32 = nI r := by decide +kernel
theorem yl_73 {post : Int32 → SY → Prop} {J : Int32 → Int32 → (Nat → Int32) → (Nat → Int32) → (Nat → Int32) → (Nat → Int32) → (Nat → Int32) → Prop} {P B node e' d' k : Nat} {L' : pl_L} {lg : Nat → Nat} {x3 x6 x7 : Int32} (hP : P ≤ 8) (hn : node < 16)
    (hd : (k < 5 ∧ x3 + 1 = nI d') ∨ (5 ≤ k ∧ k < 8 ∧ x3 - 1 = nI d') ∨ (8 ≤ k ∧ k ≤ 9 ∧ x3 = nI d'))
    (hc : ∀ s, s < 2 ^ P → ∀ co' f, (∀ j, j < node * 256 → co' j = co j) → yr_ co' node P B lg e' L' f s → ∀ post' : Int32 → Prop, (∀ r, r ≤ 200 → ct_C e' L' B (sw_ lg s P) (min r 100) → post' (nI r)) → wpY_costOf post' (st, dp, ev, si, le, dr, pr, lo, co', op_) (nI node) (nI k) x7 x6 (nI s) (nI P) (nI B))
    (he : ∀ co' f, (∀ j, j < node * 256 → co' j = co j) → yr_ co' node P B lg e' L' f (2 ^ P) → wY_least_160 post J (nI P) (nI B) (nI node) (nI d') st dp ev si le dr pr lo co' op_) :
    ∀ d s, s + d = 2 ^ P → ∀ co' f, (∀ j, j < node * 256 → co' j = co j) → yr_ co' node P B lg e' L' f s → wY_least_73 post J (nI P) (nI B) x3 (nI node) (nI k) x6 x7 st dp ev si le (d + 1) (nI s) dr pr lo co' op_ := by
  have p8 := y_p8 hP
  have e1 : (1 : Int32) <<< (nI P &&& 31) = nI (2 ^ P) := y_one (by omega)
  intro d
  induction d with
  | zero =>
    intro s hs co' f fr yr
    have : s = 2 ^ P := by omega
    subst this
    refine br_t (by rw [e1]; exact nI_le (Nat.le_refl _) (by omega)) ?_
    have E := he co' f fr yr
    rcases hd with ⟨a, b⟩ | ⟨a, b, c⟩ | ⟨a, b, c⟩
    · rw [b]; exact br_f (nI_ge (b := 5) a (by decide)) E
    · rw [c]; exact br_t (nI_le (a := 5) a (by omega)) (br_f (nI_ge (b := 8) b (by decide)) E)
    · rw [c]; exact br_t (nI_le (a := 5) (by omega) (by omega)) (br_t (nI_le (a := 8) a (by omega)) E)
  | succ d ih =>
    intro s hs co' f fr yr
    have hs' : s < 2 ^ P := by omega
    refine br_f (by rw [e1]; exact nI_ge (by omega) (by omega)) ?_
    have nx : ∀ c, ct_C e' L' B (sw_ lg s P) c → wY_least_73 post J (nI P) (nI B) x3 (nI node) (nI k) x6 x7 st dp ev si le (d + 1) (nI (s + 1)) dr pr lo (upd co' (node * 256 + s) (nI c)) op_ := by
      intro c C
      refine ih (s + 1) (by omega) _ (st_put f s c) (fun j hj => by rw [pk_un (by omega)]; exact fr j hj) ?_
      intro t ht
      by_cases e : t = s
      · subst e
        rw [pk_us, pt_s]; exact ⟨rfl, C⟩
      · rw [pk_un (by omega), pt_n e]; exact yr t (by omega)
    refine hc s hs' co' f fr yr _ (fun r hr C => ?_)
    rw [yi_e, yi_c hn (by omega), vp_nar_byte, vp_nar_byte]
    refine pk_le 100 r (fun q => ⟨yi_i hn (by omega), ?_⟩) (fun q => ⟨yi_i hn (by omega), ?_⟩)
    · rw [show min r 100 = 100 by omega] at C
      refine nm_r (e' := upd co' (node * 256 + s) (nI 100)) (by rw [show (100 : Int32).toInt8.toInt32.toInt8.toInt32 = nI 100 from y_nar 100 (by omega)]) (nm_r (nI_1 s) (nx 100 C))
    · rw [show min r 100 = r by omega] at C
      refine nm_r (e' := upd co' (node * 256 + s) (nI r)) (by rw [y_nar r (by omega)]) (nm_r (nI_1 s) (nx r C))
theorem yl_160 {post : Int32 → SY → Prop} {J : Int32 → Int32 → (Nat → Int32) → (Nat → Int32) → (Nat → Int32) → (Nat → Int32) → (Nat → Int32) → Prop} {x1 x2 : Int32} {node d' : Nat} (h0 : 0 < d') (h1 : d' ≤ 16)
    (h : J (nI d') (nI (node + 1)) dr pr lo co (upd op_ (d' - 1) (nI node))) : wY_least_160 post J x1 x2 (nI node) (nI d') st dp ev si le dr pr lo co op_ := by
  have e : nI d' - 1 = nI (d' - 1) := pk_sub (a := d') (b := 1) (by omega)
  unfold wY_least_160
  rw [e]
  exact ⟨vp_in_nI (by omega) (by decide), nm_r (e' := upd op_ (d' - 1) (nI node)) (by rw [nI_clamp (by omega)]) (nm_r (nI_1 node) h)⟩
def yI_ (P B : Nat) (lg : Nat → Nat) (g : st_T) (node : Nat) (co opn : Nat → Int32) : Prop :=
  (∀ i, i < g.1 → ∃ q f, q < node ∧ opn i = nI q ∧ yr_ co q P B lg (g.2.1 i) (g.2.2 i) f (2 ^ P)) ∧ (0 < node → 0 < g.1 ∧ opn (g.1 - 1) = nI (node - 1))
theorem yI_s {P B : Nat} {lg : Nat → Nat} {g g' : st_T} {node e' : Nat} {L' : pl_L} {f : Nat → Nat} {co' opn : Nat → Int32} (hP : P ≤ 8) (h : yI_ P B lg g node co opn) (fr : ∀ j, j < node * 256 → co' j = co j) (yr : yr_ co' node P B lg e' L' f (2 ^ P))
    (hd : 0 < g'.1) (h1 : g'.2.1 (g'.1 - 1) = e') (h2 : g'.2.2 (g'.1 - 1) = L') (h3 : ∀ i, i < g'.1 - 1 → i < g.1 ∧ g'.2.1 i = g.2.1 i ∧ g'.2.2 i = g.2.2 i) : yI_ P B lg g' (node + 1) co' (upd opn (g'.1 - 1) (nI node)) := by
  have p8 := y_p8 hP
  refine ⟨fun i hi => ?_, fun _ => ⟨hd, pk_us⟩⟩
  by_cases e : i = g'.1 - 1
  · subst e
    refine ⟨node, f, by omega, pk_us, ?_⟩
    rw [h1, h2]; exact yr
  · obtain ⟨a, b, c⟩ := h3 i (by omega)
    obtain ⟨q, f', h4, h5, h6⟩ := h.1 i a
    refine ⟨q, f', by omega, by rw [pk_un e, h5], ?_⟩
    intro s hs
    rw [fr _ (by omega), b, c]
    exact h6 s hs
theorem yl_5 {post : Int32 → SY → Prop} {P B : Nat} {lg : Nat → Nat} {pc : List Nat} (hP : P ≤ 8) (hB : B < 16) (hl : ∀ i, i < P → lo i = nI (lg i) ∧ lg i < 4) (ok : st_ok pc) (h0 : 0 < pc.length) (h16 : pc.length ≤ 16) (hpr : ∀ i, i < pc.length → pr i = nI (pc.getD i 0)) (h1 : (st_run pc).1 = 1)
    (h : ∀ c co' op', ct_C ((st_run pc).2.1 0) ((st_run pc).2.2 0) B (wd_ lg P) c → post (nI c) (st, dp, ev, nI pc.length, le, dr, pr, lo, co', op')) :
    ∀ d node, node + d = pc.length → ∀ co op_, yI_ P B lg (st_run (pc.take node)) node co op_ → wY_least_5 post (nI P) (nI B) st dp ev (nI pc.length) le (d + 1) (nI (st_run (pc.take node)).1) (nI node) dr pr lo co op_ := by
  have p8 := y_p8 hP
  intro d
  induction d with
  | zero =>
    intro node hn co op_ I
    have e : node = pc.length := by omega
    subst e
    rw [List.take_length] at I ⊢
    refine br_t (nI_le (Nat.le_refl _) (by omega)) ?_
    obtain ⟨I1, I2⟩ := I
    have I2 := (I2 h0).2
    rw [h1] at I1 I2
    obtain ⟨q, f, a, b, r⟩ := I1 0 (by omega)
    have eq : q = pc.length - 1 := by
      have := b.symm.trans I2
      exact (nI_eq (by omega) (by omega)).mp this
    have pp := Nat.two_pow_pos P
    have ei : (((nI pc.length - 1) * 256) + ((1 : Int32) <<< (nI P &&& 31))) - 1 = nI ((pc.length - 1) * 256 + (2 ^ P - 1)) := by
      have e1 : nI pc.length - 1 = nI (pc.length - 1) := pk_sub (a := pc.length) (b := 1) (by omega)
      rw [e1, y_one (by omega), yi_e]
      have e2 : nI ((pc.length - 1) * 256 + 2 ^ P) - 1 = nI ((pc.length - 1) * 256 + 2 ^ P - 1) := pk_sub (a := (pc.length - 1) * 256 + 2 ^ P) (b := 1) (by omega)
      rw [e2, show (pc.length - 1) * 256 + 2 ^ P - 1 = (pc.length - 1) * 256 + (2 ^ P - 1) by omega]
    have R := r (2 ^ P - 1) (by omega)
    rw [ei, yi_c (by omega) (by omega)]
    refine ⟨yi_i (by omega) (by omega), ?_⟩
    subst eq
    rw [R.1]
    refine h _ _ _ ?_
    have R2 := R.2
    rw [sw_full P (Nat.le_refl _)] at R2
    exact R2
  | succ d ih =>
    intro node hn co op_ I
    have hn' : node < pc.length := by omega
    have n16 : node < 16 := by omega
    have IH := ih (node + 1) (by omega)
    rw [tk_s hn', sr_snoc] at IH
    have V := ok node hn'
    have Bd := sr_bound ok node (by omega)
    have Hp := hpr node hn'
    generalize st_run (pc.take node) = g at *
    generalize pc.getD node 0 = k at *
    obtain ⟨v1, v2, v3⟩ := V
    refine br_f (nI_ge (by omega) (by omega)) ⟨vp_in_nI n16 (by decide), nm_r (e' := nI k) (by rw [nI_clamp (by omega), Hp]) ?_⟩
    by_cases c4 : k ≤ 4
    · refine br_t (nI_le (b := 4) c4 (by decide)) (br_t (nI_le (b := 4) c4 (by decide)) ⟨2 ^ P + 1, ?_⟩)
      by_cases e4 : k = 4
      · subst e4
        rw [ss_sk] at IH
        refine yl_73 (e' := 0) (L' := la_skip) (d' := g.1 + 1) (lg := lg) (co := co) hP n16 (Or.inl ⟨by omega, nI_1 _⟩) (fun s hs co' f fr yr post' h' => yc_sk hP hs h') (fun co' f fr yr => ?_) (2 ^ P) 0 (by omega) co (fun _ => 0) (fun _ _ => rfl) (fun s hs => by omega)
        exact yl_160 (by omega) (by omega) (IH _ _ (yI_s hP I fr yr (by show 0 < g.1 + 1; omega) pt_s pt_s (fun i hi => ⟨hi, pt_n (Nat.ne_of_lt hi), pt_n (Nat.ne_of_lt hi)⟩)))
      · rw [ss_ev (by omega)] at IH
        refine yl_73 (e' := 1) (L' := la_ev k) (d' := g.1 + 1) (lg := lg) (co := co) hP n16 (Or.inl ⟨by omega, nI_1 _⟩) (fun s hs co' f fr yr post' h' => yc_ev (by omega) hP hs hB hl h') (fun co' f fr yr => ?_) (2 ^ P) 0 (by omega) co (fun _ => 0) (fun _ _ => rfl) (fun s hs => by omega)
        exact yl_160 (by omega) (by omega) (IH _ _ (yI_s hP I fr yr (by show 0 < g.1 + 1; omega) pt_s pt_s (fun i hi => ⟨hi, pt_n (Nat.ne_of_lt hi), pt_n (Nat.ne_of_lt hi)⟩)))
    · have n4 : ¬ nI k ≤ 4 := nI_ge (a := 4) (b := k) (by omega) (by omega)
      have pd : 1 ≤ g.1 := by
        by_cases c8 : k < 8
        · have := v2 (by omega) c8; omega
        · exact v3 (by omega)
      have ed1 : nI g.1 - 1 = nI (g.1 - 1) := pk_sub (a := g.1) (b := 1) (by omega)
      refine br_f n4 ?_
      rw [ed1, nI_clamp (by omega)]
      obtain ⟨qy, fy, ly, oy, ry⟩ := I.1 (g.1 - 1) (by omega)
      rw [oy]
      refine ⟨vp_in_nI (by omega) (by decide), br_f n4 ?_⟩
      have keep : ∀ co' : Nat → Int32, (∀ j, j < node * 256 → co' j = co j) → ∀ {q e L f}, q < node → yr_ co q P B lg e L f (2 ^ P) → yr_ co' q P B lg e L f (2 ^ P) := by
        intro co' fr q e L f hq r s hs
        rw [fr _ (by omega)]; exact r s hs
      by_cases c8 : k < 8
      · have d2 := v2 (by omega) c8
        have ed2 : nI g.1 - 2 = nI (g.1 - 2) := pk_sub (a := g.1) (b := 2) (by omega)
        obtain ⟨qx, fx, lx, ox, rx⟩ := I.1 (g.1 - 2) (by omega)
        refine br_f (nI_ge (b := 8) c8 (by decide)) ?_
        rw [ed2, nI_clamp (by omega), ox]
        refine ⟨vp_in_nI (by omega) (by decide), nm_e ⟨2 ^ P + 1, ?_⟩⟩
        rw [ss_bi (by omega) c8] at IH
        have es := sm_le2 (E := g.2.1) d2
        refine yl_73 (e' := g.2.1 (g.1 - 2) + g.2.1 (g.1 - 1)) (L' := la_bin k (g.2.2 (g.1 - 2)) (g.2.2 (g.1 - 1))) (d' := g.1 - 1) (lg := lg) (co := co) hP n16 (Or.inr (Or.inl ⟨by omega, c8, ed1⟩)) (fun s hs co' f fr yr post' h' => yc_bi (by omega) c8 (by omega) (by omega) hP hs (by omega) (keep co' fr lx rx) (keep co' fr ly ry) h') (fun co' f fr yr => ?_) (2 ^ P) 0 (by omega) co (fun _ => 0) (fun _ _ => rfl) (fun s hs => by omega)
        refine yl_160 (by omega) (by omega) (IH _ _ (yI_s hP I fr yr (by show 0 < g.1 - 1; omega) ?_ ?_ (fun i hi => ?_)))
        · show st_put _ (g.1 - 2) _ (g.1 - 1 - 1) = _
          rw [show g.1 - 1 - 1 = g.1 - 2 by omega, pt_s]
        · show st_put _ (g.1 - 2) _ (g.1 - 1 - 1) = _
          rw [show g.1 - 1 - 1 = g.1 - 2 by omega, pt_s]
        · have hi : i < g.1 - 1 - 1 := hi
          exact ⟨by omega, pt_n (by omega), pt_n (by omega)⟩
      · refine br_t (nI_le (a := 8) (by omega) (by omega)) ⟨2 ^ P + 1, ?_⟩
        rw [ss_un (by omega)] at IH
        refine yl_73 (e' := g.2.1 (g.1 - 1)) (L' := la_un k (g.2.2 (g.1 - 1))) (d' := g.1) (lg := lg) (co := co) hP n16 (Or.inr (Or.inr ⟨by omega, v1, rfl⟩)) (fun s hs co' f fr yr post' h' => yc_un (by omega) v1 n16 (by omega) hP hs (keep co' fr ly ry) yr h') (fun co' f fr yr => ?_) (2 ^ P) 0 (by omega) co (fun _ => 0) (fun _ _ => rfl) (fun s hs => by omega)
        refine yl_160 (by omega) (by omega) (IH _ _ (yI_s hP I fr yr (by show 0 < g.1; omega) rfl pt_s (fun i hi => ?_)))
        have hi : i < g.1 - 1 := hi
        exact ⟨by omega, rfl, pt_n (by omega)⟩
theorem yl_least {post : Int32 → SY → Prop} {P B : Nat} {lg : Nat → Nat} {pc : List Nat} (hP : P ≤ 8) (hB : B < 16) (hl : ∀ i, i < P → lo i = nI (lg i) ∧ lg i < 4) (ok : st_ok pc) (h0 : 0 < pc.length) (h16 : pc.length ≤ 16) (hpr : ∀ i, i < pc.length → pr i = nI (pc.getD i 0)) (h1 : (st_run pc).1 = 1)
    (h : ∀ c co' op', ct_C ((st_run pc).2.1 0) ((st_run pc).2.2 0) B (wd_ lg P) c → post (nI c) (st, dp, ev, nI pc.length, le, dr, pr, lo, co', op')) :
    wpY_least post (st, dp, ev, nI pc.length, le, dr, pr, lo, co, op_) (nI P) (nI B) :=
  ⟨pc.length + 1, yl_5 hP hB hl ok h0 h16 hpr h1 h pc.length 0 (by omega) co op_ ⟨fun i hi => absurd hi (by rw [List.take_zero]; exact Nat.not_lt_zero i), fun z => by omega⟩⟩
end
end
section
/-! the relation -/
def rl_D (dc : List Nat) (dr sz : Nat → Int32) (en mv : Nat → Int64) : Prop :=
  st_ok dc ∧ dc.length ≤ 16 ∧ (st_run dc).1 ≤ 8 ∧ st_sum (st_run dc).2.1 (st_run dc).1 ≤ 6 ∧ (∀ i, i < dc.length → dr i = nI (dc.getD i 0)) ∧
  ∀ i, i < (st_run dc).1 → ma_ sz en mv i ((st_run dc).2.1 i) ((st_run dc).2.2 i)
def rl_M (pc : List Nat) (n : Nat) (lg : Nat → Nat) (sz : Nat → Int32) (en mv re : Nat → Int64) : Prop :=
  ∃ N, sz 8 = nI N ∧ N ≤ 64 ∧ au_ok N (ma_D mv 8 N) (fun t => mb_ (en 8) t) ((st_run pc).2.2 0) ∧
    ∀ m, m ≤ n → (∀ t, mb_ (re m) t ↔ au_run (ma_D mv 8 N) 0 (wd_ lg m) t) ∧ ∃ t, mb_ (re m) t
def rl_P (pc : List Nat) (pr : Nat → Int32) : Prop :=
  st_ok pc ∧ 0 < pc.length ∧ pc.length ≤ 16 ∧ (st_run pc).1 = 1 ∧ (st_run pc).2.1 0 < 64 ∧ (∀ i, i < pc.length → pr i = nI (pc.getD i 0))
def rl_L (n : Nat) (lg : Nat → Nat) (lo yl : Nat → Int32) : Prop :=
  n ≤ 7 ∧ ∀ i, i < n → lo i = nI (lg i) ∧ yl i = nI (lg i) ∧ lg i < 4
def i_Rel (_k : Nat) (u : SX) (v : SY) : Prop :=
  ∃ (dc pc : List Nat) (d s n : Nat) (lg : Nat → Nat) (sz : Nat → Int32) (en mv : Nat → Int64) (lo : Nat → Int32) (re : Nat → Int64) (dr pr yl co op : Nat → Int32),
    u = (nI d, nI dc.length, nI s, nI n, sz, en, mv, lo, re) ∧
    v = (nI dc.length, nI d, nI s, nI pc.length, nI n, dr, pr, yl, co, op) ∧
    (st_run dc).1 = d ∧ st_sum (st_run dc).2.1 (st_run dc).1 = s ∧
    rl_D dc dr sz en mv ∧ rl_P pc pr ∧ rl_M pc n lg sz en mv re ∧ rl_L n lg lo yl
theorem i_up {k : Nat} {u : SX} {v : SY} (h : i_Rel k u v) : i_Rel (k + 2) u v := h
theorem D_fr {mv mv' : Nat → Int64} {x x' N : Nat} (h : ∀ s k, s < N → k < 4 → mv' (pl_ x' s k) = mv (pl_ x s k)) : ma_D mv' x' N = ma_D mv x N := by
  funext s k t
  apply propext
  constructor
  · rintro ⟨p, q, r⟩; rw [h s k p q] at r; exact ⟨p, q, r⟩
  · rintro ⟨p, q, r⟩; rw [← h s k p q] at r; exact ⟨p, q, r⟩
theorem M_fr {pc : List Nat} {n x : Nat} {lg : Nat → Nat} {sz sz' : Nat → Int32} {en mv en' mv' re : Nat → Int64} (hx : x < 8) (h : rl_M pc n lg sz en mv re) (f : fr_ x sz en mv sz' en' mv') : rl_M pc n lg sz' en' mv' re := by
  obtain ⟨N, a, b, c, d⟩ := h
  obtain ⟨f1, f2, f3⟩ := f 8 (by omega) (by omega)
  refine ⟨N, by rw [f1, a], b, ?_, ?_⟩
  · rw [D_fr (fun s k hs hk => f3 s k (by omega) hk), f2]; exact c
  · rw [D_fr (fun s k hs hk => f3 s k (by omega) hk)]; exact d
theorem gd_app {c : List Nat} {op i : Nat} (h : i < c.length) : (c ++ [op]).getD i 0 = c.getD i 0 := by
  simp only [List.getD_eq_getElem?_getD]
  rw [List.getElem?_append_left h]
theorem gd_last {c : List Nat} {op : Nat} : (c ++ [op]).getD c.length 0 = op := by
  simp only [List.getD_eq_getElem?_getD]
  rw [List.getElem?_append_right (Nat.le_refl _)]
  simp
theorem D_step {dc : List Nat} {op d' e' : Nat} {L' : pl_L} {g' : st_T} {dr sz sz' : Nat → Int32} {en mv en' mv' : Nat → Int64} (h : rl_D dc dr sz en mv) (hv : st_v (st_run dc).1 op) (hl : dc.length < 16) (hg : st_step (st_run dc) op = g')
    (h1 : g'.1 = d') (p0 : 0 < d') (p8 : d' ≤ 8) (hs : st_sum g'.2.1 d' ≤ 6) (h2 : g'.2.1 (d' - 1) = e') (h3 : g'.2.2 (d' - 1) = L') (h4 : ∀ i, i < d' - 1 → i < (st_run dc).1 ∧ g'.2.1 i = (st_run dc).2.1 i ∧ g'.2.2 i = (st_run dc).2.2 i)
    (f : fr_ (d' - 1) sz en mv sz' en' mv') (m : ma_ sz' en' mv' (d' - 1) e' L') : rl_D (dc ++ [op]) (upd dr dc.length (nI op)) sz' en' mv' := by
  obtain ⟨a1, a2, a3, a4, a5, a6⟩ := h
  have er : st_run (dc ++ [op]) = g' := by rw [sr_snoc, hg]
  refine ⟨sk_snoc a1 hv, by rw [List.length_append]; show dc.length + 1 ≤ _; omega, by rw [er, h1]; exact p8, by rw [er, h1]; exact hs, ?_, ?_⟩
  · intro i hi
    rw [List.length_append] at hi
    have hi : i < dc.length + 1 := hi
    by_cases e : i = dc.length
    · subst e; rw [pk_us, gd_last]
    · rw [pk_un e, gd_app (by omega)]; exact a5 i (by omega)
  · rw [er, h1]
    intro i hi
    by_cases e : i = d' - 1
    · subst e; rw [h2, h3]; exact m
    · obtain ⟨b1, b2, b3⟩ := h4 i (by omega)
      rw [b2, b3]
      have le := sm_le (E := (st_run dc).2.1) _ i b1
      exact fr_ma f e (by omega) (by omega) (a6 i b1)
theorem len_s {dc : List Nat} {op : Nat} : (dc ++ [op]).length = dc.length + 1 := by rw [List.length_append]; rfl
/-! small walks of X -/
theorem xm_nf {post : Int32 → Prop} {x : Int32} (h : x < 0 ∨ nI 4 ≤ x) (hp : post 0) : wpX_isName post x := by
  rcases h with h | h
  · exact br_t h hp
  · exact br_c (fun _ => hp) (fun _ => br_t h hp)
theorem xm_nt {post : Int32 → Prop} {j : Nat} (hj : j < 4) (hp : post 1) : wpX_isName post (nI j) :=
  br_f (nI_pos (by omega)) (br_f (nI_ge (b := 4) hj (by decide)) hp)
theorem n_lt4 {x : Int32} (h : nI 4 ≤ x) : ¬ x < 0 ∧ ¬ x ≤ 3 := by
  have h4 : (nI 4).toInt = 4 := by decide
  have h0 : (0 : Int32).toInt = 0 := by decide
  have h3 : (3 : Int32).toInt = 3 := by decide
  rw [Int32.le_iff_toInt_le, h4] at h
  rw [Int32.lt_iff_toInt_lt, Int32.le_iff_toInt_le, h0, h3]
  omega
theorem n_lt16 {x : Int32} (h : nI 16 ≤ x) : ¬ x < 0 ∧ ¬ x ≤ 15 ∧ ¬ x < 16 := by
  have h4 : (nI 16).toInt = 16 := by decide
  have h0 : (0 : Int32).toInt = 0 := by decide
  have h3 : (15 : Int32).toInt = 15 := by decide
  have h5 : (16 : Int32).toInt = 16 := by decide
  rw [Int32.le_iff_toInt_le, h4] at h
  rw [Int32.lt_iff_toInt_lt, Int32.le_iff_toInt_le, Int32.lt_iff_toInt_lt, h0, h3, h5]
  omega
end
section
/-! the building methods -/
theorem i_vc0 : wpX_init (fun u => wpY_init (fun v => i_Rel 0 u v)) := by
  refine xb_skip (x := 8) (by omega) (fun sz' en' mv' f m => nm_e (nm_e ?_))
  obtain ⟨N, a, b, c⟩ := m
  have b1 : N ≤ 1 := b
  refine ⟨[], [4], 0, 0, 0, fun _ => 0, sz', en', mv', fun _ => 0, _, fun _ => 0, _, fun _ => 0, fun _ => 0, fun _ => 0, rfl, rfl, rfl, rfl, ?_, ?_, ⟨N, a, by omega, c, ?_⟩, ?_⟩
  · exact ⟨sk_nil, Nat.zero_le _, Nat.zero_le _, Nat.zero_le _, fun i hi => absurd hi (Nat.not_lt_zero i), fun i hi => absurd hi (Nat.not_lt_zero i)⟩
  · refine ⟨sk_snoc (c := []) (op := 4) sk_nil ⟨by omega, fun h => by omega, fun h => by omega⟩, Nat.lt_succ_self 0, by decide, rfl, Nat.lt_of_le_of_lt (Nat.le_refl 0) (by omega), ?_⟩
    intro i hi
    have hi : i < 1 := hi
    have : i = 0 := by omega
    subst this
    rfl
  · intro m hm
    have : m = 0 := by omega
    subst this
    refine ⟨fun t => ?_, 0, ?_⟩
    · rw [pk_uLs, mb_1]; exact ⟨fun h => h.symm, fun h => Eq.symm h⟩
    · rw [pk_uLs, mb_1]
  · exact ⟨by omega, fun i hi => absurd hi (Nat.not_lt_zero i)⟩
theorem xm_ref16 {post : Int32 → Prop} {sd ec ll : Int32} {sz : Nat → Int32} {en mv : Nat → Int64} {lo : Nat → Int32} {re : Nat → Int64} {l : Nat} {w : Int32} (h : l = 16) (hp : post (-2)) : wpX_refusalWithFewerThan post (sd, nI l, ec, ll, sz, en, mv, lo, re) w := by
  subst h
  exact br_f (by decide) hp
theorem xm_refF {post : Int32 → Prop} {ec ll : Int32} {sz : Nat → Int32} {en mv : Nat → Int64} {lo : Nat → Int32} {re : Nat → Int64} {l d w : Nat} (h : l < 16) (hd : d < w) (hw : w < 3) (hp : post (-3)) : wpX_refusalWithFewerThan post (nI d, nI l, ec, ll, sz, en, mv, lo, re) (nI w) :=
  br_t (nI_lt (b := 16) h (by decide)) (br_f (nI_ge hd (by omega)) hp)
theorem xm_refT {post : Int32 → Prop} {ec ll : Int32} {sz : Nat → Int32} {en mv : Nat → Int64} {lo : Nat → Int32} {re : Nat → Int64} {l d w : Nat} (h : l < 16) (hd : w ≤ d) (hw : d < 9) (hp : post 0) : wpX_refusalWithFewerThan post (nI d, nI l, ec, ll, sz, en, mv, lo, re) (nI w) :=
  br_t (nI_lt (b := 16) h (by decide)) (br_t (nI_le hd (by omega)) hp)
theorem n_m1 {d : Nat} (h : 0 < d) : nI d + (-1) = nI (d - 1) := by
  obtain ⟨e, rfl⟩ : ∃ e, d = e + 1 := ⟨d - 1, by omega⟩
  exact pk_m1 e
theorem n_16 {l : Nat} (h : l = 16) : nI l = 16 := by subst h; rfl
theorem n_ne {l : Nat} (b : Nat) (h : l ≠ b) (hl : l < 2 ^ 31) (hb : b < 2 ^ 31) : ¬ nI l = nI b := fun e => h ((nI_eq hl hb).mp e)
theorem yn_note {post : Int32 → SY → Prop} {ev si le : Int32} {dr pr lo co op : Nat → Int32} {l d d' : Nat} {p0 p1 : Int32} (hl : l < 16) (hd : nI d + p1 = nI d') (h : post (nI d') (nI (l + 1), nI d', ev, si, le, upd dr l p0, pr, lo, co, op)) : wpY_note post (nI l, nI d, ev, si, le, dr, pr, lo, co, op) p0 p1 :=
  ⟨vp_in_nI hl (by decide), nm_r (e' := upd dr l p0) (by rw [nI_clamp (by omega)]) (nm_r (nI_1 l) (nm_r hd h))⟩
theorem i_vc_event {k : Nat} {u : SX} {v : SY} (I : i_Rel k u v) (hk : k + 2 ≤ 1024) (v1 : Int32) : wpX_event (fun r u' => wpY_event (fun r' v' => r' = r ∧ i_Rel (k + 2) u' v') v v1) u v1 := by
  have I0 := i_up I
  obtain ⟨dc, pc, d, s, n, lg, sz, en, mv, lo, re, dr, pr, yl, co, op, rfl, rfl, rfl, rfl, hD, hP, hM, hL⟩ := I
  have hD2 := hD.2.1
  have hD3 := hD.2.2.1
  have hD4 := hD.2.2.2.1
  unfold wpX_event
  dsimp only
  rcases pk_ix v1 (n := 4) (by decide) with h | h | ⟨j, hj, rfl⟩
  · refine xm_nf (Or.inl h) ?_
    exact br_t rfl (br_t h ⟨rfl, I0⟩)
  · refine xm_nf (Or.inr h) ?_
    exact br_t rfl (br_f (n_lt4 h).1 (br_f (n_lt4 h).2 ⟨rfl, I0⟩))
  · have y0 : ¬ nI j < 0 := nI_pos (by omega)
    have y3 : nI j ≤ 3 := nI_le (b := 3) (by omega) (by decide)
    refine xm_nt hj ?_
    refine br_f (by decide) ?_
    by_cases a : dc.length = 16
    · exact br_t (nI_le (a := 16) (by omega) (by omega)) (br_f y0 (br_t y3 (br_t (n_16 a) ⟨rfl, I0⟩)))
    · refine br_f (nI_ge (b := 16) (by omega) (by decide)) ?_
      by_cases b : (st_run dc).1 = 8
      · exact br_t (nI_le (a := 8) (by omega) (by omega)) (br_f y0 (br_t y3 (br_f (n_ne 16 a (by omega) (by decide)) (br_t (by rw [b]; rfl) ⟨rfl, I0⟩))))
      · refine br_f (nI_ge (b := 8) (by omega) (by decide)) ?_
        by_cases c : st_sum (st_run dc).2.1 (st_run dc).1 = 6
        · exact br_f (nI_nlt (b := 6) (by omega) (by omega)) (br_f y0 (br_t y3 (br_f (n_ne 16 a (by omega) (by decide)) (br_f (n_ne 8 b (by omega) (by decide)) (br_t (by rw [c]; rfl) ⟨rfl, I0⟩)))))
        · refine br_t (nI_lt (b := 6) (by omega) (by decide)) (xb_event (by omega) hj (fun sz' en' mv' f m => nm_r (nI_1 _) (nm_r (nI_1 _) ?_)))
          rw [nI_1]
          refine br_f y0 (br_t y3 (br_f (n_ne 16 a (by omega) (by decide)) (br_f (n_ne 8 b (by omega) (by decide)) (br_f (n_ne 6 c (by omega) (by decide)) (nm_r (nI_1 _) (yn_note (by omega) (nI_1 _) ⟨rfl, ?_⟩))))))
          refine ⟨dc ++ [j], pc, (st_run dc).1 + 1, st_sum (st_run dc).2.1 (st_run dc).1 + 1, n, lg, sz', en', mv', lo, re, _, pr, yl, co, op, by rw [len_s], by rw [len_s], by rw [sr_snoc, ss_ev hj], by rw [sr_snoc, ss_ev hj]; exact sm_push, ?_, hP, M_fr (by omega) hM f, hL⟩
          exact D_step hD ⟨by omega, fun _ => by omega, fun _ => by omega⟩ (by omega) (ss_ev hj) rfl (by omega) (by omega) (by rw [sm_push]; omega) pt_s pt_s (fun i hi => ⟨hi, pt_n (Nat.ne_of_lt hi), pt_n (Nat.ne_of_lt hi)⟩) f m
theorem i_vc_skip {k : Nat} {u : SX} {v : SY} (I : i_Rel k u v) (hk : k + 2 ≤ 1024) : wpX_skip (fun r u' => wpY_skip (fun r' v' => r' = r ∧ i_Rel (k + 2) u' v') v) u := by
  have I0 := i_up I
  obtain ⟨dc, pc, d, s, n, lg, sz, en, mv, lo, re, dr, pr, yl, co, op, rfl, rfl, rfl, rfl, hD, hP, hM, hL⟩ := I
  have hD2 := hD.2.1
  have hD3 := hD.2.2.1
  have hD4 := hD.2.2.2.1
  by_cases a : dc.length = 16
  · exact br_t (nI_le (a := 16) (by omega) (by omega)) (br_t (n_16 a) ⟨rfl, I0⟩)
  · refine br_f (nI_ge (b := 16) (by omega) (by decide)) ?_
    by_cases b : (st_run dc).1 = 8
    · exact br_f (nI_nlt (b := 8) (by omega) (by omega)) (br_f (n_ne 16 a (by omega) (by decide)) (br_t (by rw [b]; rfl) ⟨rfl, I0⟩))
    · refine br_t (nI_lt (b := 8) (by omega) (by decide)) (xb_skip (by omega) (fun sz' en' mv' f m => nm_r (nI_1 _) ?_))
      rw [nI_1]
      refine br_f (n_ne 16 a (by omega) (by decide)) (br_f (n_ne 8 b (by omega) (by decide)) (yn_note (by omega) (nI_1 _) ⟨rfl, ?_⟩))
      refine ⟨dc ++ [4], pc, (st_run dc).1 + 1, st_sum (st_run dc).2.1 (st_run dc).1, n, lg, sz', en', mv', lo, re, _, pr, yl, co, op, by rw [len_s], by rw [len_s], by rw [sr_snoc, ss_sk], by rw [sr_snoc, ss_sk]; exact sm_push, ?_, hP, M_fr (by omega) hM f, hL⟩
      exact D_step hD ⟨by omega, fun _ => by omega, fun _ => by omega⟩ (by omega) ss_sk rfl (by omega) (by omega) (by rw [sm_push]; omega) pt_s pt_s (fun i hi => ⟨hi, pt_n (Nat.ne_of_lt hi), pt_n (Nat.ne_of_lt hi)⟩) f m
theorem i_vc_seq {k : Nat} {u : SX} {v : SY} (I : i_Rel k u v) (hk : k + 2 ≤ 1024) : wpX_seq (fun r u' => wpY_seq (fun r' v' => r' = r ∧ i_Rel (k + 2) u' v') v) u := by
  have I0 := i_up I
  obtain ⟨dc, pc, d, s, n, lg, sz, en, mv, lo, re, dr, pr, yl, co, op, rfl, rfl, rfl, rfl, hD, hP, hM, hL⟩ := I
  have hD2 := hD.2.1
  have hD3 := hD.2.2.1
  have hD4 := hD.2.2.2.1
  have hD6 := hD.2.2.2.2.2
  unfold wpX_seq wpY_seq wpY_join
  dsimp only
  by_cases a : dc.length = 16
  · refine xm_ref16 a ?_
    exact br_f (by decide) (br_t (n_16 a) ⟨rfl, I0⟩)
  · by_cases b : (st_run dc).1 < 2
    · refine xm_refF (w := 2) (by omega) b (by omega) ?_
      exact br_f (by decide) (br_f (n_ne 16 a (by omega) (by decide)) (br_f (nI_ge (b := 2) b (by decide)) ⟨rfl, I0⟩))
    · refine xm_refT (w := 2) (by omega) (by omega) (by omega) ?_
      refine br_t rfl ?_
      have e1 : nI (st_run dc).1 - 1 = nI ((st_run dc).1 - 1) := pk_sub (a := (st_run dc).1) (b := 1) (by omega)
      have e2 : nI (st_run dc).1 - 2 = nI ((st_run dc).1 - 2) := pk_sub (a := (st_run dc).1) (b := 2) (by omega)
      have es := sm_le2 (E := (st_run dc).2.1) (d := (st_run dc).1) (by omega)
      rw [e1, e2]
      refine xb_seq (by omega) (by omega) (by omega) (by omega) (hD6 _ (by omega)) (hD6 _ (by omega)) (fun sz' en' mv' f m => nm_r (nI_1 _) ?_)
      rw [e1]
      refine br_f (n_ne 16 a (by omega) (by decide)) (br_t (nI_le (a := 2) (by omega) (by omega)) (yn_note (by omega) (n_m1 (by omega)) ⟨rfl, ?_⟩))
      have hf : (st_run dc).1 - 2 = (st_run dc).1 - 1 - 1 := by omega
      refine ⟨dc ++ [5], pc, (st_run dc).1 - 1, st_sum (st_run dc).2.1 (st_run dc).1, n, lg, sz', en', mv', lo, re, _, pr, yl, co, op, by rw [len_s], by rw [len_s], by rw [sr_snoc, ss_bi (by omega) (by omega)], by rw [sr_snoc, ss_bi (by omega) (by omega)]; exact sm_bin (by omega), ?_, hP, M_fr (by omega) hM f, hL⟩
      rw [hf] at f m
      refine D_step hD ⟨by omega, fun _ _ => by omega, fun _ => by omega⟩ (by omega) (ss_bi (by omega) (by omega)) rfl (by omega) (by omega) (Nat.le_trans (Nat.le_of_eq (sm_bin (by omega))) hD4) ?_ ?_ (fun i hi => ⟨by omega, pt_n (by omega), pt_n (by omega)⟩) f m
      · rw [← hf]; exact pt_s
      · rw [← hf]; exact pt_s
theorem i_vc_choice {k : Nat} {u : SX} {v : SY} (I : i_Rel k u v) (hk : k + 2 ≤ 1024) : wpX_choice (fun r u' => wpY_choice (fun r' v' => r' = r ∧ i_Rel (k + 2) u' v') v) u := by
  have I0 := i_up I
  obtain ⟨dc, pc, d, s, n, lg, sz, en, mv, lo, re, dr, pr, yl, co, op, rfl, rfl, rfl, rfl, hD, hP, hM, hL⟩ := I
  have hD2 := hD.2.1
  have hD3 := hD.2.2.1
  have hD4 := hD.2.2.2.1
  have hD6 := hD.2.2.2.2.2
  unfold wpX_choice wpY_choice wpY_join
  dsimp only
  by_cases a : dc.length = 16
  · refine xm_ref16 a ?_
    exact br_f (by decide) (br_t (n_16 a) ⟨rfl, I0⟩)
  · by_cases b : (st_run dc).1 < 2
    · refine xm_refF (w := 2) (by omega) b (by omega) ?_
      exact br_f (by decide) (br_f (n_ne 16 a (by omega) (by decide)) (br_f (nI_ge (b := 2) b (by decide)) ⟨rfl, I0⟩))
    · refine xm_refT (w := 2) (by omega) (by omega) (by omega) ?_
      refine br_t rfl ?_
      have e1 : nI (st_run dc).1 - 1 = nI ((st_run dc).1 - 1) := pk_sub (a := (st_run dc).1) (b := 1) (by omega)
      have e2 : nI (st_run dc).1 - 2 = nI ((st_run dc).1 - 2) := pk_sub (a := (st_run dc).1) (b := 2) (by omega)
      have es := sm_le2 (E := (st_run dc).2.1) (d := (st_run dc).1) (by omega)
      rw [e1, e2]
      refine xb_cho (by omega) (by omega) (by omega) (by omega) (hD6 _ (by omega)) (hD6 _ (by omega)) (fun sz' en' mv' f m => nm_r (nI_1 _) ?_)
      rw [e1]
      refine br_f (n_ne 16 a (by omega) (by decide)) (br_t (nI_le (a := 2) (by omega) (by omega)) (yn_note (by omega) (n_m1 (by omega)) ⟨rfl, ?_⟩))
      have hf : (st_run dc).1 - 2 = (st_run dc).1 - 1 - 1 := by omega
      refine ⟨dc ++ [6], pc, (st_run dc).1 - 1, st_sum (st_run dc).2.1 (st_run dc).1, n, lg, sz', en', mv', lo, re, _, pr, yl, co, op, by rw [len_s], by rw [len_s], by rw [sr_snoc, ss_bi (by omega) (by omega)], by rw [sr_snoc, ss_bi (by omega) (by omega)]; exact sm_bin (by omega), ?_, hP, M_fr (by omega) hM f, hL⟩
      rw [hf] at f m
      refine D_step hD ⟨by omega, fun _ _ => by omega, fun _ => by omega⟩ (by omega) (ss_bi (by omega) (by omega)) rfl (by omega) (by omega) (Nat.le_trans (Nat.le_of_eq (sm_bin (by omega))) hD4) ?_ ?_ (fun i hi => ⟨by omega, pt_n (by omega), pt_n (by omega)⟩) f m
      · rw [← hf]; exact pt_s
      · rw [← hf]; exact pt_s
theorem i_vc_both {k : Nat} {u : SX} {v : SY} (I : i_Rel k u v) (hk : k + 2 ≤ 1024) : wpX_both (fun r u' => wpY_both (fun r' v' => r' = r ∧ i_Rel (k + 2) u' v') v) u := by
  have I0 := i_up I
  obtain ⟨dc, pc, d, s, n, lg, sz, en, mv, lo, re, dr, pr, yl, co, op, rfl, rfl, rfl, rfl, hD, hP, hM, hL⟩ := I
  have hD2 := hD.2.1
  have hD3 := hD.2.2.1
  have hD4 := hD.2.2.2.1
  have hD6 := hD.2.2.2.2.2
  unfold wpX_both wpY_both wpY_join
  dsimp only
  by_cases a : dc.length = 16
  · refine xm_ref16 a ?_
    exact br_f (by decide) (br_t (n_16 a) ⟨rfl, I0⟩)
  · by_cases b : (st_run dc).1 < 2
    · refine xm_refF (w := 2) (by omega) b (by omega) ?_
      exact br_f (by decide) (br_f (n_ne 16 a (by omega) (by decide)) (br_f (nI_ge (b := 2) b (by decide)) ⟨rfl, I0⟩))
    · refine xm_refT (w := 2) (by omega) (by omega) (by omega) ?_
      refine br_t rfl ?_
      have e1 : nI (st_run dc).1 - 1 = nI ((st_run dc).1 - 1) := pk_sub (a := (st_run dc).1) (b := 1) (by omega)
      have e2 : nI (st_run dc).1 - 2 = nI ((st_run dc).1 - 2) := pk_sub (a := (st_run dc).1) (b := 2) (by omega)
      have es := sm_le2 (E := (st_run dc).2.1) (d := (st_run dc).1) (by omega)
      rw [e1, e2]
      refine xb_both (by omega) (by omega) (by omega) (by omega) (hD6 _ (by omega)) (hD6 _ (by omega)) (fun sz' en' mv' f m => nm_r (nI_1 _) ?_)
      rw [e1]
      refine br_f (n_ne 16 a (by omega) (by decide)) (br_t (nI_le (a := 2) (by omega) (by omega)) (yn_note (by omega) (n_m1 (by omega)) ⟨rfl, ?_⟩))
      have hf : (st_run dc).1 - 2 = (st_run dc).1 - 1 - 1 := by omega
      refine ⟨dc ++ [7], pc, (st_run dc).1 - 1, st_sum (st_run dc).2.1 (st_run dc).1, n, lg, sz', en', mv', lo, re, _, pr, yl, co, op, by rw [len_s], by rw [len_s], by rw [sr_snoc, ss_bi (by omega) (by omega)], by rw [sr_snoc, ss_bi (by omega) (by omega)]; exact sm_bin (by omega), ?_, hP, M_fr (by omega) hM f, hL⟩
      rw [hf] at f m
      refine D_step hD ⟨by omega, fun _ _ => by omega, fun _ => by omega⟩ (by omega) (ss_bi (by omega) (by omega)) rfl (by omega) (by omega) (Nat.le_trans (Nat.le_of_eq (sm_bin (by omega))) hD4) ?_ ?_ (fun i hi => ⟨by omega, pt_n (by omega), pt_n (by omega)⟩) f m
      · rw [← hf]; exact pt_s
      · rw [← hf]; exact pt_s
theorem i_vc_loop {k : Nat} {u : SX} {v : SY} (I : i_Rel k u v) (hk : k + 2 ≤ 1024) : wpX_loop (fun r u' => wpY_loop (fun r' v' => r' = r ∧ i_Rel (k + 2) u' v') v) u := by
  have I0 := i_up I
  obtain ⟨dc, pc, d, s, n, lg, sz, en, mv, lo, re, dr, pr, yl, co, op, rfl, rfl, rfl, rfl, hD, hP, hM, hL⟩ := I
  have hD2 := hD.2.1
  have hD3 := hD.2.2.1
  have hD4 := hD.2.2.2.1
  have hD6 := hD.2.2.2.2.2
  unfold wpX_loop wpY_loop wpY_change
  dsimp only
  by_cases a : dc.length = 16
  · refine xm_ref16 a ?_
    exact br_f (by decide) (br_t (n_16 a) ⟨rfl, I0⟩)
  · by_cases b : (st_run dc).1 < 1
    · refine xm_refF (w := 1) (by omega) b (by omega) ?_
      exact br_f (by decide) (br_f (n_ne 16 a (by omega) (by decide)) (br_t (by rw [show (st_run dc).1 = 0 by omega]; rfl) ⟨rfl, I0⟩))
    · refine xm_refT (w := 1) (by omega) (by omega) (by omega) ?_
      refine br_t rfl ?_
      have e1 : nI (st_run dc).1 - 1 = nI ((st_run dc).1 - 1) := pk_sub (a := (st_run dc).1) (b := 1) (by omega)
      have es := sm_le (E := (st_run dc).2.1) (st_run dc).1 ((st_run dc).1 - 1) (by omega)
      rw [e1]
      refine xb_loop (by omega) (by omega) (hD6 _ (by omega)) (fun sz' en' mv' f m => nm_r (nI_1 _) ?_)
      refine br_f (n_ne 16 a (by omega) (by decide)) (br_f (n_ne 0 (by omega) (by omega) (by decide)) (yn_note (by omega) (Int32.add_zero _) ⟨rfl, ?_⟩))
      refine ⟨dc ++ [8], pc, (st_run dc).1, st_sum (st_run dc).2.1 (st_run dc).1, n, lg, sz', en', mv', lo, re, _, pr, yl, co, op, by rw [len_s], by rw [len_s], by rw [sr_snoc, ss_un (by omega)], by rw [sr_snoc, ss_un (by omega)], ?_, hP, M_fr (by omega) hM f, hL⟩
      exact D_step hD ⟨by omega, fun _ _ => by omega, fun _ => by omega⟩ (by omega) (ss_un (by omega)) rfl (by omega) (by omega) hD4 rfl pt_s (fun i hi => ⟨by omega, rfl, pt_n (Nat.ne_of_lt hi)⟩) f m
theorem i_vc_option {k : Nat} {u : SX} {v : SY} (I : i_Rel k u v) (hk : k + 2 ≤ 1024) : wpX_option (fun r u' => wpY_option (fun r' v' => r' = r ∧ i_Rel (k + 2) u' v') v) u := by
  have I0 := i_up I
  obtain ⟨dc, pc, d, s, n, lg, sz, en, mv, lo, re, dr, pr, yl, co, op, rfl, rfl, rfl, rfl, hD, hP, hM, hL⟩ := I
  have hD2 := hD.2.1
  have hD3 := hD.2.2.1
  have hD4 := hD.2.2.2.1
  have hD6 := hD.2.2.2.2.2
  unfold wpX_option wpY_option wpY_change
  dsimp only
  by_cases a : dc.length = 16
  · refine xm_ref16 a ?_
    exact br_f (by decide) (br_t (n_16 a) ⟨rfl, I0⟩)
  · by_cases b : (st_run dc).1 < 1
    · refine xm_refF (w := 1) (by omega) b (by omega) ?_
      exact br_f (by decide) (br_f (n_ne 16 a (by omega) (by decide)) (br_t (by rw [show (st_run dc).1 = 0 by omega]; rfl) ⟨rfl, I0⟩))
    · refine xm_refT (w := 1) (by omega) (by omega) (by omega) ?_
      refine br_t rfl ?_
      have e1 : nI (st_run dc).1 - 1 = nI ((st_run dc).1 - 1) := pk_sub (a := (st_run dc).1) (b := 1) (by omega)
      have es := sm_le (E := (st_run dc).2.1) (st_run dc).1 ((st_run dc).1 - 1) (by omega)
      rw [e1, z10c (by omega)]
      obtain ⟨f, m⟩ := xb_opt (hD6 ((st_run dc).1 - 1) (by omega))
      refine ⟨z10 (by omega), z10 (by omega), nm_e (nm_r (nI_1 _) ?_)⟩
      refine br_f (n_ne 16 a (by omega) (by decide)) (br_f (n_ne 0 (by omega) (by omega) (by decide)) (yn_note (by omega) (Int32.add_zero _) ⟨rfl, ?_⟩))
      refine ⟨dc ++ [9], pc, (st_run dc).1, st_sum (st_run dc).2.1 (st_run dc).1, n, lg, _, _, _, lo, re, _, pr, yl, co, op, by rw [len_s], by rw [len_s], by rw [sr_snoc, ss_un (by omega)], by rw [sr_snoc, ss_un (by omega)], ?_, hP, M_fr (by omega) hM f, hL⟩
      exact D_step hD ⟨by omega, fun _ _ => by omega, fun _ => by omega⟩ (by omega) (ss_un (by omega)) rfl (by omega) (by omega) hD4 rfl pt_s (fun i hi => ⟨by omega, rfl, pt_n (Nat.ne_of_lt hi)⟩) f m
end
section
/-! the reading methods and the log -/
theorem au_let {n : Nat} {D : Nat → Nat → Nat → Prop} (hD : au_in n D) : ∀ (w : List Nat) (s t : Nat), au_run D s w t → ∀ c, c ∈ w → c < 4 := by
  intro w
  induction w with
  | nil => intro s t _ c hc; exact absurd hc List.not_mem_nil
  | cons k w ih =>
    intro s t h c hc
    obtain ⟨s', a, b⟩ := h
    rcases List.mem_cons.mp hc with rfl | hc
    · exact (hD _ _ _ a).2.1
    · exact ih s' t b c hc
theorem pr_e {N e c : Nat} {D : Nat → Nat → Nat → Prop} {E : Nat → Prop} {L : pl_L} {w : List Nat} (o : au_ok N D E L) (he : e < 64) (C : ct_C e L 0 w c) : c = 100 ↔ ¬ ∃ t, au_run D 0 w t := by
  constructor
  · rintro rfl ⟨t, ht⟩
    obtain ⟨u, t', a, b⟩ := o.2.2.2.2 t (au_lt o.2.1 w 0 t o.1 ht)
    have := C_lo C (m := u.length) ⟨u, rfl, fun x hx => ⟨au_let o.2.1 u t t' a x hx, Nat.zero_testBit x⟩, (o.2.2.2.1 _).mpr ⟨t', (au_app w u 0 t').mpr ⟨t, ht, a⟩, b⟩⟩
    omega
  · intro h
    by_cases q : c < 100
    · obtain ⟨_, u, _, _, l⟩ := C_at C q
      obtain ⟨t, a, _⟩ := (o.2.2.2.1 _).mp l
      obtain ⟨z, b, _⟩ := (au_app w u 0 t).mp a
      exact absurd ⟨z, b⟩ h
    · have := C.1; omega
theorem wd_c {lg lg' : Nat → Nat} : ∀ m, (∀ i, i < m → lg' i = lg i) → wd_ lg' m = wd_ lg m := by
  intro m
  induction m with
  | zero => intro _; rfl
  | succ m ih =>
    intro h
    show _ ++ _ = _ ++ _
    rw [ih (fun i hi => h i (by omega)), h m (by omega)]
theorem wd_put {lg : Nat → Nat} {n k m : Nat} (h : m ≤ n) : wd_ (st_put lg n k) m = wd_ lg m := wd_c m (fun i hi => pt_n (by omega))
theorem wd_new {lg : Nat → Nat} {n k : Nat} : wd_ (st_put lg n k) (n + 1) = wd_ lg n ++ [k] := by
  show wd_ _ n ++ [st_put lg n k n] = _
  rw [wd_put (Nat.le_refl _), pt_s]
section
variable {st dp ev le : Int32} {dr pr yl co op : Nat → Int32}
theorem yl_at {post : Int32 → SY → Prop} {n B : Nat} {lg : Nat → Nat} {pc : List Nat} {lo : Nat → Int32} (hn : n ≤ 7) (hB : B < 16) (hP : rl_P pc pr) (hL : rl_L n lg lo yl)
    (h : ∀ c co' op', ct_C ((st_run pc).2.1 0) ((st_run pc).2.2 0) B (wd_ lg n) c → post (nI c) (st, dp, ev, nI pc.length, le, dr, pr, yl, co', op')) :
    wpY_least post (st, dp, ev, nI pc.length, le, dr, pr, yl, co, op) (nI n) (nI B) :=
  yl_least (by omega) hB (fun i hi => (hL.2 i hi).2) hP.1 hP.2.1 hP.2.2.1 hP.2.2.2.2.2 hP.2.2.2.1 h
theorem yl_af {post : Int32 → SY → Prop} {n k : Nat} {lg : Nat → Nat} {pc : List Nat} {lo : Nat → Int32} (hk : k < 4) (hP : rl_P pc pr) (hL : rl_L n lg lo yl)
    (h : ∀ c co' op', ct_C ((st_run pc).2.1 0) ((st_run pc).2.2 0) 0 (wd_ lg n ++ [k]) c → post (nI c) (st, dp, ev, nI pc.length, nI n, dr, pr, upd yl n (nI k), co', op')) :
    wpY_leastAfter post (st, dp, ev, nI pc.length, nI n, dr, pr, yl, co, op) (nI k) := by
  have hn := hL.1
  refine ⟨vp_in_nI (by omega) (by decide), nm_r (e' := upd yl n (nI k)) (by rw [nI_clamp (by omega)]) ?_⟩
  rw [nI_1]
  refine yl_least (B := 0) (lg := st_put lg n k) (by omega) (by omega) (fun i hi => ?_) hP.1 hP.2.1 hP.2.2.1 hP.2.2.2.2.2 hP.2.2.2.1 (fun c co' op' C => ?_)
  · by_cases e : i = n
    · subst e; rw [pk_us, pt_s]; exact ⟨rfl, hk⟩
    · rw [pk_un e, pt_n e]; exact (hL.2 i (by omega)).2
  · rw [wd_new] at C
    exact h c co' op' C
theorem yd_13 {post : Int32 → SY → Prop} {si : Int32} {l : Nat} (hl : l ≤ 16)
    (h : ∀ pr', (∀ j, j < l → pr' j = dr j) → post 0 (0, 0, 0, nI l, 0, dr, pr', yl, co, op)) :
    ∀ d i, i + d = l → ∀ pr', (∀ j, j < i → pr' j = dr j) → wY_define_13 post (nI l) dp ev si le (d + 1) (nI i) dr pr' yl co op := by
  intro d
  induction d with
  | zero =>
    intro i hi pr' g
    have : i = l := by omega
    subst this
    exact br_t (nI_le (Nat.le_refl _) (by omega)) (h pr' g)
  | succ d ih =>
    intro i hi pr' g
    refine br_f (nI_ge (by omega) (by omega)) ⟨vp_in_nI (by omega) (by decide), vp_in_nI (by omega) (by decide), nm_r (e' := upd pr' i (dr i)) (by rw [nI_clamp (by omega)]) (nm_r (nI_1 i) (ih (i + 1) (by omega) _ (fun j hj => ?_)))⟩
    by_cases e : j = i
    · subst e; exact pk_us
    · rw [pk_un e]; exact g j (by omega)
end
theorem L_up {n k : Nat} {lg : Nat → Nat} {lo yl : Nat → Int32} (h : rl_L n lg lo yl) : rl_L n lg lo (upd yl n (nI k)) :=
  ⟨h.1, fun i hi => ⟨(h.2 i hi).1, by rw [pk_un (by omega)]; exact (h.2 i hi).2.1, (h.2 i hi).2.2⟩⟩
theorem M_mono {pc : List Nat} {n m : Nat} {lg : Nat → Nat} {sz : Nat → Int32} {en mv re : Nat → Int64} (hm : m ≤ n) (h : rl_M pc n lg sz en mv re) : rl_M pc m lg sz en mv re := by
  obtain ⟨N, a, b, c, d⟩ := h
  exact ⟨N, a, b, c, fun q hq => d q (by omega)⟩
theorem D_nil {dr sz : Nat → Int32} {en mv : Nat → Int64} : rl_D [] dr sz en mv :=
  ⟨sk_nil, Nat.zero_le _, Nat.zero_le _, Nat.zero_le _, fun i hi => absurd hi (Nat.not_lt_zero i), fun i hi => absurd hi (Nat.not_lt_zero i)⟩
theorem i_vc_steps {k : Nat} {u : SX} {v : SY} (I : i_Rel k u v) (hk : k + 2 ≤ 1024) : wpX_steps (fun r => wpY_steps (fun r' => r' = r ∧ i_Rel (k + 2) u v) v) u := by
  have I0 := i_up I
  obtain ⟨dc, pc, d, s, n, lg, sz, en, mv, lo, re, dr, pr, yl, co, op, rfl, rfl, rfl, rfl, hD, hP, hM, hL⟩ := I
  exact ⟨rfl, I0⟩
theorem i_vc_depth {k : Nat} {u : SX} {v : SY} (I : i_Rel k u v) (hk : k + 2 ≤ 1024) : wpX_depth (fun r => wpY_depth (fun r' => r' = r ∧ i_Rel (k + 2) u v) v) u := by
  have I0 := i_up I
  obtain ⟨dc, pc, d, s, n, lg, sz, en, mv, lo, re, dr, pr, yl, co, op, rfl, rfl, rfl, rfl, hD, hP, hM, hL⟩ := I
  exact ⟨rfl, I0⟩
theorem i_vc_length {k : Nat} {u : SX} {v : SY} (I : i_Rel k u v) (hk : k + 2 ≤ 1024) : wpX_length (fun r => wpY_length (fun r' => r' = r ∧ i_Rel (k + 2) u v) v) u := by
  have I0 := i_up I
  obtain ⟨dc, pc, d, s, n, lg, sz, en, mv, lo, re, dr, pr, yl, co, op, rfl, rfl, rfl, rfl, hD, hP, hM, hL⟩ := I
  exact ⟨rfl, I0⟩
theorem i_vc_discard {k : Nat} {u : SX} {v : SY} (I : i_Rel k u v) (hk : k + 2 ≤ 1024) : wpX_discard (fun u' => wpY_discard (fun v' => i_Rel (k + 2) u' v') v) u := by
  obtain ⟨dc, pc, d, s, n, lg, sz, en, mv, lo, re, dr, pr, yl, co, op, rfl, rfl, rfl, rfl, hD, hP, hM, hL⟩ := I
  exact ⟨[], pc, 0, 0, n, lg, sz, en, mv, lo, re, dr, pr, yl, co, op, rfl, rfl, rfl, rfl, D_nil, hP, hM, hL⟩
theorem i_vc_restart {k : Nat} {u : SX} {v : SY} (I : i_Rel k u v) (hk : k + 2 ≤ 1024) : wpX_restart (fun u' => wpY_restart (fun v' => i_Rel (k + 2) u' v') v) u := by
  obtain ⟨dc, pc, d, s, n, lg, sz, en, mv, lo, re, dr, pr, yl, co, op, rfl, rfl, rfl, rfl, hD, hP, hM, hL⟩ := I
  exact ⟨dc, pc, _, _, 0, lg, sz, en, mv, lo, re, dr, pr, yl, co, op, rfl, rfl, rfl, rfl, hD, hP, M_mono (Nat.zero_le _) hM, Nat.zero_le _, fun i hi => absurd hi (Nat.not_lt_zero i)⟩
theorem i_vc_define {k : Nat} {u : SX} {v : SY} (I : i_Rel k u v) (hk : k + 2 ≤ 1024) : wpX_define (fun r u' => wpY_define (fun r' v' => r' = r ∧ i_Rel (k + 2) u' v') v) u := by
  have I0 := i_up I
  obtain ⟨dc, pc, d, s, n, lg, sz, en, mv, lo, re, dr, pr, yl, co, op, rfl, rfl, rfl, rfl, hD, hP, hM, hL⟩ := I
  have hD2 := hD.2.1
  have hD3 := hD.2.2.1
  have hD4 := hD.2.2.2.1
  by_cases a : (st_run dc).1 = 1
  · have e1 : nI (st_run dc).1 = 1 := by rw [a]; rfl
    have h0 : 0 < dc.length := by
      cases dc with
      | nil => exact absurd a (by decide)
      | cons c w => exact Nat.succ_pos _
    have es := sm_le (E := (st_run dc).2.1) (st_run dc).1 0 (by omega)
    obtain ⟨N, z, b, ok⟩ := hD.2.2.2.2.2 0 (by omega)
    have N6 : N ≤ 64 := Nat.le_trans b (p6 (by omega))
    refine br_t e1 ?_
    refine xw_copy (y := 0) (x := 8) (n := N) (by omega) (by omega) (by omega) N6 z (fun mv' g => ?_)
    refine br_t e1 ⟨dc.length + 1, yd_13 hD2 (fun pr' gp => ⟨rfl, ?_⟩) dc.length 0 (by omega) pr (fun j hj => by omega)⟩
    refine ⟨[], dc, 0, 0, 0, lg, _, _, mv', lo, re, dr, pr', yl, co, op, rfl, rfl, rfl, rfl, D_nil, ⟨hD.1, h0, hD2, a, by omega, fun i hi => by rw [gp i hi]; exact hD.2.2.2.2.1 i hi⟩, ⟨N, pk_us, N6, ?_, fun m hm => ?_⟩, Nat.zero_le _, fun i hi => absurd hi (Nat.not_lt_zero i)⟩
    · rw [D_fr (x := 0) (mv := mv) (fun s k hs hk => (g 8 s k (by omega) hk).1 ⟨rfl, hs⟩), pk_uLs]
      exact ok
    · have : m = 0 := by omega
      subst this
      obtain ⟨N', _, _, _, q⟩ := hM
      exact q 0 (Nat.zero_le _)
  · have e1 : ¬ nI (st_run dc).1 = 1 := n_ne 1 a (by omega) (by decide)
    exact br_f e1 (br_f e1 ⟨rfl, I0⟩)
theorem i_vc_undo {k : Nat} {u : SX} {v : SY} (I : i_Rel k u v) (hk : k + 2 ≤ 1024) : wpX_undo (fun r u' => wpY_undo (fun r' v' => r' = r ∧ i_Rel (k + 2) u' v') v) u := by
  have I0 := i_up I
  obtain ⟨dc, pc, d, s, n, lg, sz, en, mv, lo, re, dr, pr, yl, co, op, rfl, rfl, rfl, rfl, hD, hP, hM, hL⟩ := I
  have hn := hL.1
  by_cases a : n = 0
  · have e0 : nI n = 0 := by rw [a]; rfl
    exact br_t e0 (br_t e0 ⟨rfl, I0⟩)
  · have e0 : ¬ nI n = 0 := n_ne 0 a (by omega) (by decide)
    have e1 : nI n - 1 = nI (n - 1) := pk_sub (a := n) (b := 1) (by omega)
    have l := hL.2 (n - 1) (by omega)
    refine br_f e0 (nm_r e1 ⟨vp_in_nI (by omega) (by decide), br_f e0 (nm_r e1 ⟨vp_in_nI (by omega) (by decide), ?_, ?_⟩)⟩)
    · rw [nI_clamp (by omega), l.1, l.2.1]
    · exact ⟨dc, pc, _, _, n - 1, lg, sz, en, mv, lo, re, dr, pr, yl, co, op, rfl, rfl, rfl, rfl, hD, hP, M_mono (by omega) hM, by omega, fun i hi => hL.2 i (by omega)⟩
theorem i_vc_at {k : Nat} {u : SX} {v : SY} (I : i_Rel k u v) (hk : k + 2 ≤ 1024) (v1 : Int32) : wpX_at (fun r => wpY_at (fun r' => r' = r ∧ i_Rel (k + 2) u v) v v1) u v1 := by
  have I0 := i_up I
  obtain ⟨dc, pc, d, s, n, lg, sz, en, mv, lo, re, dr, pr, yl, co, op, rfl, rfl, rfl, rfl, hD, hP, hM, hL⟩ := I
  have hn := hL.1
  by_cases a : v1 < 0
  · exact br_t a (br_t a ⟨rfl, I0⟩)
  · obtain ⟨j, hj, rfl⟩ := nI_of a
    by_cases b : j < n
    · have lt := nI_lt b (by omega)
      have l := hL.2 j b
      refine br_f a (br_t lt ⟨vp_in_nI (by omega) (by decide), br_f a (br_t lt ⟨vp_in_nI (by omega) (by decide), ?_, I0⟩)⟩)
      rw [nI_clamp hj, l.1, l.2.1]
    · have lt := nI_nlt (a := j) (b := n) (by omega) hj
      exact br_f a (br_f lt (br_f a (br_f lt ⟨rfl, I0⟩)))
theorem i_vc_feed {k : Nat} {u : SX} {v : SY} (I : i_Rel k u v) (hk : k + 2 ≤ 1024) (v1 : Int32) : wpX_feed (fun r u' => wpY_feed (fun r' v' => r' = r ∧ i_Rel (k + 2) u' v') v v1) u v1 := by
  have I0 := i_up I
  obtain ⟨dc, pc, d, s, n, lg, sz, en, mv, lo, re, dr, pr, yl, co, op, rfl, rfl, rfl, rfl, hD, hP, hM, hL⟩ := I
  have hn := hL.1
  unfold wpX_feed
  dsimp only
  rcases pk_ix v1 (n := 4) (by decide) with h | h | ⟨j, hj, rfl⟩
  · refine xm_nf (Or.inl h) ?_
    exact br_t rfl (br_t h ⟨rfl, I0⟩)
  · refine xm_nf (Or.inr h) ?_
    exact br_t rfl (br_f (n_lt4 h).1 (br_f (n_lt4 h).2 ⟨rfl, I0⟩))
  · have y0 : ¬ nI j < 0 := nI_pos (by omega)
    have y3 : nI j ≤ 3 := nI_le (b := 3) (by omega) (by decide)
    refine xm_nt hj ?_
    refine br_f (by decide) ?_
    by_cases a : n = 7
    · exact br_f (nI_nlt (b := 7) (by omega) (by omega)) (br_f y0 (br_t y3 (br_t (by rw [a]; rfl) ⟨rfl, I0⟩)))
    · have n7 := n_ne 7 a (by omega) (by decide)
      obtain ⟨N, z, N6, ok, R⟩ := hM
      have Rn := (R n (Nat.le_refl _)).1
      refine br_t (nI_lt (b := 7) (by omega) (by decide)) ⟨vp_in_nI (by omega) (by decide), ?_⟩
      rw [nI_clamp (by omega)]
      refine xq_sa hj N6 z (fun r g => ?_)
      have gr : ∀ t, mb_ r t ↔ au_run (ma_D mv 8 N) 0 (wd_ lg n ++ [j]) t := by
        intro t
        rw [g t, au_app]
        constructor
        · rintro ⟨s, q1, q2⟩; exact ⟨s, (Rn s).mp q1, t, q2, rfl⟩
        · rintro ⟨s, q1, t', q2, rfl⟩; exact ⟨s, (Rn s).mpr q1, q2⟩
      refine br_c (fun r0 => ?_) (fun r0 => ?_)
      · refine br_f y0 (br_t y3 (br_f n7 ?_))
        refine yl_af hj hP hL (fun c co' op' C => ?_)
        have c1 : c = 100 := (pr_e ok hP.2.2.2.2.1 C).mpr (fun ⟨t, ht⟩ => mb_z.mp r0 t ((gr t).mpr ht))
        subst c1
        exact br_t rfl ⟨rfl, dc, pc, _, _, n, lg, sz, en, mv, lo, re, dr, pr, _, co', op', rfl, rfl, rfl, rfl, hD, hP, ⟨N, z, N6, ok, R⟩, L_up hL⟩
      · obtain ⟨t0, ht0⟩ := mb_nz.mp r0
        refine ⟨vp_in_nI (by omega) (by decide), nm_e (nm_r (nI_1 n) ⟨vp_in_nI (by omega) (by decide), nm_e ?_⟩)⟩
        refine br_f y0 (br_t y3 (br_f n7 ?_))
        refine yl_af hj hP hL (fun c co' op' C => ?_)
        have c1 : c ≠ 100 := fun e => (pr_e ok hP.2.2.2.2.1 C).mp e ⟨t0, (gr t0).mp ht0⟩
        have c2 := C.1
        refine br_f (n_ne 100 c1 (by omega) (by decide)) (nm_r (nI_1 n) ⟨rfl, ?_⟩)
        refine ⟨dc, pc, _, _, n + 1, st_put lg n j, sz, en, mv, _, _, dr, pr, _, co', op', rfl, rfl, rfl, rfl, hD, hP, ⟨N, z, N6, ok, fun m hm => ?_⟩, by omega, fun i hi => ?_⟩
        · rw [nI_clamp (by omega)]
          by_cases e : m = n + 1
          · subst e
            rw [pk_uLs, wd_new]
            exact ⟨gr, t0, ht0⟩
          · rw [pk_uLn e, wd_put (by omega)]
            exact R m (by omega)
        · by_cases e : i = n
          · subst e; rw [pk_us, pk_us, pt_s]; exact ⟨rfl, rfl, hj⟩
          · rw [pk_un e, pk_un e, pt_n e]; exact hL.2 i (by omega)
theorem i_vc_mayStop {k : Nat} {u : SX} {v : SY} (I : i_Rel k u v) (hk : k + 2 ≤ 1024) : wpX_mayStop (fun r => wpY_mayStop (fun r' v' => r' = r ∧ i_Rel (k + 2) u v') v) u := by
  obtain ⟨dc, pc, d, s, n, lg, sz, en, mv, lo, re, dr, pr, yl, co, op, rfl, rfl, rfl, rfl, hD, hP, hM, hL⟩ := I
  have hn := hL.1
  obtain ⟨N, z, N6, ok, R⟩ := hM
  have Rn := (R n (Nat.le_refl _)).1
  refine ⟨vp_in_nI (by omega) (by decide), ?_⟩
  rw [nI_clamp (by omega)]
  have key : (¬ (re n &&& en 8) = 0) ↔ (st_run pc).2.2 0 (wd_ lg n) := by
    rw [mb_nz, ok.2.2.2.1]
    constructor
    · rintro ⟨t, ht⟩
      obtain ⟨a, b⟩ := (mb_and _ _ _).mp ht
      exact ⟨t, (Rn t).mp a, b⟩
    · rintro ⟨t, a, b⟩
      exact ⟨t, (mb_and _ _ _).mpr ⟨(Rn t).mpr a, b⟩⟩
  refine br_c (fun q => ?_) (fun q => ?_)
  · unfold wpY_mayStop
    dsimp only
    refine yl_at (B := 0) hn (by omega) hP hL (fun c co' op' C => ?_)
    have c1 : c ≠ 0 := fun e => key.mpr ((C_0 C).mp e) q
    have c2 := C.1
    exact br_f (n_ne 0 c1 (by omega) (by decide)) ⟨rfl, dc, pc, _, _, n, lg, sz, en, mv, lo, re, dr, pr, yl, co', op', rfl, rfl, rfl, rfl, hD, hP, ⟨N, z, N6, ok, R⟩, hL⟩
  · unfold wpY_mayStop
    dsimp only
    refine yl_at (B := 0) hn (by omega) hP hL (fun c co' op' C => ?_)
    have c1 : c = 0 := (C_0 C).mpr (key.mp q)
    subst c1
    exact br_t rfl ⟨rfl, dc, pc, _, _, n, lg, sz, en, mv, lo, re, dr, pr, yl, co', op', rfl, rfl, rfl, rfl, hD, hP, ⟨N, z, N6, ok, R⟩, hL⟩
theorem i_vc_remaining {k : Nat} {u : SX} {v : SY} (I : i_Rel k u v) (hk : k + 2 ≤ 1024) (v1 : Int32) : wpX_remaining (fun r => wpY_remaining (fun r' v' => r' = r ∧ i_Rel (k + 2) u v') v v1) u v1 := by
  have I0 := i_up I
  obtain ⟨dc, pc, d, s, n, lg, sz, en, mv, lo, re, dr, pr, yl, co, op, rfl, rfl, rfl, rfl, hD, hP, hM, hL⟩ := I
  have hn := hL.1
  obtain ⟨N, z, N6, ok, R⟩ := hM
  have Rn := (R n (Nat.le_refl _)).1
  rcases pk_ix v1 (n := 16) (by decide) with h | h | ⟨j, hj, rfl⟩
  · exact br_t h (br_t h ⟨rfl, I0⟩)
  · obtain ⟨h1, h2, h3⟩ := n_lt16 h
    exact br_f h1 (br_f h3 (br_f h1 (br_f h2 ⟨rfl, I0⟩)))
  · have y0 : ¬ nI j < 0 := nI_pos (by omega)
    have y3 : nI j ≤ 15 := nI_le (b := 15) (by omega) (by decide)
    have e := hP.2.2.2.2.1
    refine br_f y0 (br_t (nI_lt (b := 16) hj (by decide)) ⟨vp_in_nI (by omega) (by decide), ?_⟩)
    rw [nI_clamp (by omega)]
    refine xq_le hj N6 z ok Rn (fun c hc can no => ?_) (fun no => ?_)
    · refine br_f y0 (br_t y3 ?_)
      refine yl_at hn hj hP hL (fun c' co' op' C => ?_)
      have l := C_lo C can
      have l2 := (C_at C (by omega)).2
      have e1 : c' = c := by
        rcases Nat.lt_or_ge c' c with q | q
        · exact absurd l2 (no c' q)
        · omega
      subst e1
      exact br_f (n_ne 100 (by omega) (by omega) (by decide)) ⟨rfl, dc, pc, _, _, n, lg, sz, en, mv, lo, re, dr, pr, yl, co', op', rfl, rfl, rfl, rfl, hD, hP, ⟨N, z, N6, ok, R⟩, hL⟩
    · refine br_f y0 (br_t y3 ?_)
      refine yl_at hn hj hP hL (fun c' co' op' C => ?_)
      have e1 : c' = 100 := by
        by_cases q : c' < 100
        · have := C_at C q
          exact absurd this.2 (no c' (by omega))
        · have := C.1; omega
      subst e1
      exact br_t rfl ⟨rfl, dc, pc, _, _, n, lg, sz, en, mv, lo, re, dr, pr, yl, co', op', rfl, rfl, rfl, rfl, hD, hP, ⟨N, z, N6, ok, R⟩, hL⟩
end
section
/-! next, advice, needed -/
noncomputable def bv_ (Q : Nat → Prop) : Nat → Nat
  | 0 => 0
  | k + 1 => bv_ Q k + @ite Nat (Q k) (Classical.propDecidable _) (2 ^ k) 0
theorem bv_t {Q : Nat → Prop} {k : Nat} (h : Q k) : bv_ Q (k + 1) = bv_ Q k + 2 ^ k := by
  show _ + @ite Nat (Q k) (Classical.propDecidable _) (2 ^ k) 0 = _
  rw [if_pos h]
theorem bv_f {Q : Nat → Prop} {k : Nat} (h : ¬ Q k) : bv_ Q (k + 1) = bv_ Q k := by
  show _ + @ite Nat (Q k) (Classical.propDecidable _) (2 ^ k) 0 = _
  rw [if_neg h, Nat.add_zero]
theorem bv_lt {Q : Nat → Prop} : ∀ k, bv_ Q k < 2 ^ k := by
  intro k
  induction k with
  | zero => exact Nat.lt_succ_self 0
  | succ k ih =>
    have p := Nat.two_pow_pos k
    rw [Nat.pow_succ]
    by_cases h : Q k
    · rw [bv_t h]; omega
    · rw [bv_f h]; omega
theorem n_or : ∀ k, k < 4 → ∀ v, v < 8 → v < 2 ^ k → nI v ||| nI (2 ^ k) = nI (v + 2 ^ k) := by decide +kernel
theorem pw_8 {k : Nat} (h : k < 4) : 2 ^ k ≤ 8 := by
  have := Nat.pow_le_pow_right (n := 2) (by decide) (show k ≤ 3 by omega)
  exact this
theorem bv_or {Q : Nat → Prop} {k : Nat} (hk : k < 4) (h : Q k) : nI (bv_ Q k) ||| ((1 : Int32) <<< (nI k &&& 31)) = nI (bv_ Q (k + 1)) := by
  have l := bv_lt (Q := Q) k
  have l2 : 2 ^ k ≤ 8 := pw_8 hk
  rw [y_one (by omega), n_or k hk _ (by omega) l, bv_t h]
theorem bv_add {Q : Nat → Prop} {k : Nat} (hk : k < 4) (h : Q k) : nI (bv_ Q k) + ((1 : Int32) <<< (nI k &&& 31)) = nI (bv_ Q (k + 1)) := by
  rw [y_one (by omega), nI_add, bv_t h]
def lc_ (L : pl_L) (B : Nat) (w : List Nat) (c : Nat) : Prop := ct_can L B w c ∧ ∀ m, m < c → ¬ ct_can L B w m
theorem lc_u {L : pl_L} {B : Nat} {w : List Nat} {c c' : Nat} (h : lc_ L B w c) (g : lc_ L B w c') : c = c' := by
  rcases Nat.lt_trichotomy c c' with q | q | q
  · exact absurd h.1 (g.2 c q)
  · exact q
  · exact absurd g.1 (h.2 c' q)
theorem C_lc1 {e : Nat} {L : pl_L} {B : Nat} {w : List Nat} {c : Nat} (h : ct_C e L B w c) (g : c < 100) : lc_ L B w c :=
  ⟨(C_at h g).2, fun m hm q => by have := (C_lo h q).1; omega⟩
theorem C_lc2 {e : Nat} {L : pl_L} {B : Nat} {w : List Nat} {c c' : Nat} (he : e < 64) (h : ct_C e L B w c) (g : lc_ L B w c') : c = c' := by
  have l := C_lo h g.1
  exact lc_u (C_lc1 h (by omega)) g
section
variable {sd sc ec : Int32} {sz : Nat → Int32} {en mv : Nat → Int64} {lo : Nat → Int32} {re : Nat → Int64}
theorem xn_next {post : Int32 → Prop} {n N : Nat} {lg : Nat → Nat} (hn : n ≤ 7) (N6 : N ≤ 64) (z : sz 8 = nI N) (Rn : ∀ t, mb_ (re n) t ↔ au_run (ma_D mv 8 N) 0 (wd_ lg n) t)
    (h : post (nI (bv_ (fun k => ∃ t, au_run (ma_D mv 8 N) 0 (wd_ lg n ++ [k]) t) 4))) :
    ∀ d k, k + d = 4 → wX_next_4 post sd sc ec (nI n) sz en mv lo re (d + 1) (nI (bv_ (fun k => ∃ t, au_run (ma_D mv 8 N) 0 (wd_ lg n ++ [k]) t) k)) (nI k) := by
  intro d
  induction d with
  | zero =>
    intro k hk
    have : k = 4 := by omega
    subst this
    exact br_t (nI_le (a := 4) (b := 4) (by omega) (by decide)) h
  | succ d ih =>
    intro k hk'
    have hk : k < 4 := by omega
    have IH := ih (k + 1) (by omega)
    refine br_f (nI_ge (b := 4) hk (by decide)) ⟨vp_in_nI (by omega) (by decide), ?_⟩
    rw [nI_clamp (by omega)]
    refine xq_sa hk N6 z (fun r g => ?_)
    have gr : ∀ t, mb_ r t ↔ au_run (ma_D mv 8 N) 0 (wd_ lg n ++ [k]) t := by
      intro t
      rw [g t, au_app]
      constructor
      · rintro ⟨s, q1, q2⟩; exact ⟨s, (Rn s).mp q1, t, q2, rfl⟩
      · rintro ⟨s, q1, t', q2, rfl⟩; exact ⟨s, (Rn s).mpr q1, q2⟩
    refine br_c (fun r0 => ?_) (fun r0 => ?_)
    · rw [bv_f (fun ⟨t, ht⟩ => mb_z.mp r0 t ((gr t).mpr ht))] at IH
      exact nm_r (nI_1 k) IH
    · obtain ⟨t0, ht0⟩ := mb_nz.mp r0
      exact nm_r (bv_or hk ⟨t0, (gr t0).mp ht0⟩) (nm_r (nI_1 k) IH)
theorem xn_needed {post : Int32 → Prop} {n N : Nat} {L : pl_L} {lg : Nat → Nat} (hn : n ≤ 7) (N6 : N ≤ 64) (z : sz 8 = nI N) (ok : au_ok N (ma_D mv 8 N) (fun t => mb_ (en 8) t) L) (Rn : ∀ t, mb_ (re n) t ↔ au_run (ma_D mv 8 N) 0 (wd_ lg n) t)
    (h : post (nI (bv_ (fun k => ∀ m, m < 64 → ¬ ct_can L (2 ^ k) (wd_ lg n) m) 4))) :
    ∀ d k, k + d = 4 → wX_needed_4 post sd sc ec (nI n) sz en mv lo re (d + 1) (nI (bv_ (fun k => ∀ m, m < 64 → ¬ ct_can L (2 ^ k) (wd_ lg n) m) k)) (nI k) := by
  intro d
  induction d with
  | zero =>
    intro k hk
    have : k = 4 := by omega
    subst this
    exact br_t (nI_le (a := 4) (b := 4) (by omega) (by decide)) h
  | succ d ih =>
    intro k hk'
    have hk : k < 4 := by omega
    have IH := ih (k + 1) (by omega)
    have l2 : 2 ^ k ≤ 8 := pw_8 hk
    refine br_f (nI_ge (b := 4) hk (by decide)) ⟨vp_in_nI (by omega) (by decide), ?_⟩
    have e1 : (1 : Int32) <<< (nI k &&& 31) = nI (2 ^ k) := y_one (by omega)
    have X : ∀ p : Int32 → Prop, (∀ c, c < 64 → ct_can L (2 ^ k) (wd_ lg n) c → (∀ m, m < c → ¬ ct_can L (2 ^ k) (wd_ lg n) m) → p (nI c)) → ((∀ m, m < 64 → ¬ ct_can L (2 ^ k) (wd_ lg n) m) → p (-4)) → wpX_leastToEnd p (sd, sc, ec, nI n, sz, en, mv, lo, re) (re (nI n).toNatClampNeg) ((1 : Int32) <<< (nI k &&& 31)) := by
      intro p h1 h2
      rw [e1, nI_clamp (by omega)]
      exact xq_le (by omega) N6 z ok Rn h1 h2
    refine X _ (fun c hc can no => ?_) (fun no => ?_)
    · have ne : ¬ nI c = -4 := by
        intro e
        have h1 := congrArg Int32.toInt e
        rw [nI_toInt (by omega), show (-4 : Int32).toInt = -4 by decide] at h1
        omega
      rw [bv_f (fun q => q c hc can)] at IH
      exact br_f ne (nm_r (nI_1 k) IH)
    · exact br_t rfl (nm_r (bv_or hk no) (nm_r (nI_1 k) IH))
theorem xa_24 {post : Int32 → Prop} {n N : Nat} {L : pl_L} {lg : Nat → Nat} {Q : Nat → Prop} {x1 : Int32} (hn : n ≤ 7) (N6 : N ≤ 64) (z : sz 8 = nI N) (ok : au_ok N (ma_D mv 8 N) (fun t => mb_ (en 8) t) L) (Rn : ∀ t, mb_ (re n) t ↔ au_run (ma_D mv 8 N) 0 (wd_ lg n) t)
    (A1 : ∀ k, k < 4 → ∀ c, c < 64 → lc_ L 0 (wd_ lg n ++ [k]) c → (nI c = x1 - 1 ↔ Q k)) (A2 : ∀ k, k < 4 → (∀ m, m < 64 → ¬ ct_can L 0 (wd_ lg n ++ [k]) m) → ((-4 : Int32) = x1 - 1 ↔ Q k))
    (h1 : ∀ k, k < 4 → Q k → (∀ k', k' < k → ¬ Q k') → post (nI k)) (h2 : (∀ k, k < 4 → ¬ Q k) → post (-4)) :
    ∀ d k, k + d = 4 → (∀ k', k' < k → ¬ Q k') → wX_advice_24 post x1 sd sc ec (nI n) sz en mv lo re (d + 1) (nI k) := by
  intro d
  induction d with
  | zero =>
    intro k hk no
    have : k = 4 := by omega
    subst this
    exact br_t (nI_le (a := 4) (b := 4) (by omega) (by decide)) (h2 no)
  | succ d ih =>
    intro k hk' no
    have hk : k < 4 := by omega
    refine br_f (nI_ge (b := 4) hk (by decide)) ⟨vp_in_nI (by omega) (by decide), ?_⟩
    rw [nI_clamp (by omega)]
    refine xq_sa hk N6 z (fun r g => ?_)
    have gr : ∀ t, mb_ r t ↔ au_run (ma_D mv 8 N) 0 (wd_ lg n ++ [k]) t := by
      intro t
      rw [g t, au_app]
      constructor
      · rintro ⟨s, q1, q2⟩; exact ⟨s, (Rn s).mp q1, t, q2, rfl⟩
      · rintro ⟨s, q1, t', q2, rfl⟩; exact ⟨s, (Rn s).mpr q1, q2⟩
    have step : ∀ r25 : Int32, (r25 = x1 - 1 ↔ Q k) → ((r25 = (x1 - 1) → (post (nI k))) ∧ (¬ r25 = (x1 - 1) → (∀ x2_36 : Int32, x2_36 = nI k + 1 → (wX_advice_24 post x1 sd sc ec (nI n) sz en mv lo re (d + 1) x2_36)))) := by
      intro r25 e
      refine br_c (fun q => h1 k hk (e.mp q) no) (fun q => nm_r (nI_1 k) (ih (k + 1) (by omega) (fun k' h' qk => ?_)))
      by_cases e' : k' = k
      · subst e'; exact q (e.mpr qk)
      · exact no k' (by omega) qk
    exact xq_le (B := 0) (by omega) N6 z ok gr (fun c hc can no' => step (nI c) (A1 k hk c hc ⟨can, no'⟩)) (fun no' => step (-4) (A2 k hk no'))
end
section
variable {st dp ev : Int32} {dr pr : Nat → Int32}
theorem yn_next {post : Int32 → SY → Prop} {n : Nat} {lg : Nat → Nat} {pc : List Nat} {lo : Nat → Int32} {Q : Nat → Prop} (hP : rl_P pc pr)
    (hQ : ∀ k c, k < 4 → ct_C ((st_run pc).2.1 0) ((st_run pc).2.2 0) 0 (wd_ lg n ++ [k]) c → (c = 100 ↔ ¬ Q k))
    (h : ∀ yl co op, rl_L n lg lo yl → post (nI (bv_ Q 4)) (st, dp, ev, nI pc.length, nI n, dr, pr, yl, co, op)) :
    ∀ d k, k + d = 4 → ∀ yl co op, rl_L n lg lo yl → wY_next_4 post (d + 1) (nI (bv_ Q k)) (nI k) st dp ev (nI pc.length) (nI n) dr pr yl co op := by
  intro d
  induction d with
  | zero =>
    intro k hk yl co op hL
    have : k = 4 := by omega
    subst this
    exact br_t (nI_le (a := 4) (b := 4) (by omega) (by decide)) (h yl co op hL)
  | succ d ih =>
    intro k hk' yl co op hL
    have hk : k < 4 := by omega
    refine br_f (nI_ge (b := 4) hk (by decide)) ?_
    refine yl_af hk hP hL (fun c co' op' C => ?_)
    have IH := ih (k + 1) (by omega) _ co' op' (L_up (k := k) hL)
    have e := hQ k c hk C
    have c2 := C.1
    refine pk_le 100 c (fun q => ?_) (fun q => ?_)
    · rw [bv_f (e.mp (by omega))] at IH
      exact nm_r (nI_1 k) IH
    · have qk : Q k := Classical.byContradiction (fun nq => by have := e.mpr nq; omega)
      exact nm_r (bv_add hk qk) (nm_r (nI_1 k) IH)
theorem yn_needed {post : Int32 → SY → Prop} {n : Nat} {lg : Nat → Nat} {pc : List Nat} {lo yl : Nat → Int32} {Q : Nat → Prop} (hP : rl_P pc pr) (hL : rl_L n lg lo yl)
    (hQ : ∀ k c, k < 4 → ct_C ((st_run pc).2.1 0) ((st_run pc).2.2 0) (2 ^ k) (wd_ lg n) c → (c = 100 ↔ Q k))
    (h : ∀ co op, post (nI (bv_ Q 4)) (st, dp, ev, nI pc.length, nI n, dr, pr, yl, co, op)) :
    ∀ d k, k + d = 4 → ∀ co op, wY_needed_4 post (d + 1) (nI (bv_ Q k)) (nI k) st dp ev (nI pc.length) (nI n) dr pr yl co op := by
  intro d
  induction d with
  | zero =>
    intro k hk co op
    have : k = 4 := by omega
    subst this
    exact br_t (nI_le (a := 4) (b := 4) (by omega) (by decide)) (h co op)
  | succ d ih =>
    intro k hk' co op
    have hk : k < 4 := by omega
    have l2 : 2 ^ k ≤ 8 := pw_8 hk
    have hn := hL.1
    refine br_f (nI_ge (b := 4) hk (by decide)) ?_
    have e1 : (1 : Int32) <<< (nI k &&& 31) = nI (2 ^ k) := y_one (by omega)
    have Y : ∀ p : Int32 → SY → Prop, (∀ c co' op', ct_C ((st_run pc).2.1 0) ((st_run pc).2.2 0) (2 ^ k) (wd_ lg n) c → p (nI c) (st, dp, ev, nI pc.length, nI n, dr, pr, yl, co', op')) → wpY_least p (st, dp, ev, nI pc.length, nI n, dr, pr, yl, co, op) (nI n) ((1 : Int32) <<< (nI k &&& 31)) := by
      intro p h'
      rw [e1]
      exact yl_at hn (by omega) hP hL h'
    refine Y _ (fun c co' op' C => ?_)
    have IH := ih (k + 1) (by omega) co' op'
    have e := hQ k c hk C
    have c2 := C.1
    refine pk_eq c 100 (fun q => ?_) (fun q => ?_)
    · exact nm_r (bv_add hk (e.mp q)) (nm_r (nI_1 k) IH)
    · rw [bv_f (fun nq => q (e.mpr nq))] at IH
      exact nm_r (nI_1 k) IH
theorem ya_12 {post : Int32 → SY → Prop} {n : Nat} {lg : Nat → Nat} {pc : List Nat} {lo : Nat → Int32} {Q : Nat → Prop} {x1 : Int32} (hP : rl_P pc pr)
    (hQ : ∀ k c, k < 4 → ct_C ((st_run pc).2.1 0) ((st_run pc).2.2 0) 0 (wd_ lg n ++ [k]) c → (nI c = x1 - 1 ↔ Q k))
    (h1 : ∀ k, k < 4 → Q k → (∀ k', k' < k → ¬ Q k') → ∀ yl co op, rl_L n lg lo yl → post (nI k) (st, dp, ev, nI pc.length, nI n, dr, pr, yl, co, op))
    (h2 : (∀ k, k < 4 → ¬ Q k) → ∀ yl co op, rl_L n lg lo yl → post (-4) (st, dp, ev, nI pc.length, nI n, dr, pr, yl, co, op)) :
    ∀ d k, k + d = 4 → (∀ k', k' < k → ¬ Q k') → ∀ yl co op, rl_L n lg lo yl → wY_advice_12 post x1 (d + 1) (nI k) st dp ev (nI pc.length) (nI n) dr pr yl co op := by
  intro d
  induction d with
  | zero =>
    intro k hk no yl co op hL
    have : k = 4 := by omega
    subst this
    exact br_t (nI_le (a := 4) (b := 4) (by omega) (by decide)) (h2 no yl co op hL)
  | succ d ih =>
    intro k hk' no yl co op hL
    have hk : k < 4 := by omega
    refine br_f (nI_ge (b := 4) hk (by decide)) ?_
    refine yl_af hk hP hL (fun c co' op' C => ?_)
    have e := hQ k c hk C
    refine br_c (fun q => h1 k hk (e.mp q) no _ co' op' (L_up hL)) (fun q => nm_r (nI_1 k) (ih (k + 1) (by omega) (fun k' h' qk => ?_) _ co' op' (L_up hL)))
    by_cases e' : k' = k
    · subst e'; exact q (e.mpr qk)
    · exact no k' (by omega) qk
end
theorem i_vc_next {k : Nat} {u : SX} {v : SY} (I : i_Rel k u v) (hk : k + 2 ≤ 1024) : wpX_next (fun r => wpY_next (fun r' v' => r' = r ∧ i_Rel (k + 2) u v') v) u := by
  obtain ⟨dc, pc, d, s, n, lg, sz, en, mv, lo, re, dr, pr, yl, co, op, rfl, rfl, rfl, rfl, hD, hP, hM, hL⟩ := I
  have hn := hL.1
  obtain ⟨N, z, N6, ok, R⟩ := hM
  have Rn := (R n (Nat.le_refl _)).1
  refine ⟨5, xn_next hn N6 z Rn ?_ 4 0 (by omega)⟩
  refine ⟨5, yn_next (lo := lo) hP (fun k c hk C => pr_e ok hP.2.2.2.2.1 C) (fun yl' co' op' hL' => ⟨rfl, ?_⟩) 4 0 (by omega) yl co op hL⟩
  exact ⟨dc, pc, _, _, n, lg, sz, en, mv, lo, re, dr, pr, yl', co', op', rfl, rfl, rfl, rfl, hD, hP, ⟨N, z, N6, ok, R⟩, hL'⟩
theorem i_vc_needed {k : Nat} {u : SX} {v : SY} (I : i_Rel k u v) (hk : k + 2 ≤ 1024) : wpX_needed (fun r => wpY_needed (fun r' v' => r' = r ∧ i_Rel (k + 2) u v') v) u := by
  obtain ⟨dc, pc, d, s, n, lg, sz, en, mv, lo, re, dr, pr, yl, co, op, rfl, rfl, rfl, rfl, hD, hP, hM, hL⟩ := I
  have hn := hL.1
  obtain ⟨N, z, N6, ok, R⟩ := hM
  have Rn := (R n (Nat.le_refl _)).1
  have e := hP.2.2.2.2.1
  refine ⟨5, xn_needed hn N6 z ok Rn ?_ 4 0 (by omega)⟩
  refine ⟨5, yn_needed hP hL (fun k c hk C => ⟨fun q m _ can => ?_, fun q => ?_⟩) (fun co' op' => ⟨rfl, ?_⟩) 4 0 (by omega) co op⟩
  · have := C_lo C can; omega
  · by_cases q' : c < 100
    · have := C_at C q'
      exact absurd this.2 (q c (by omega))
    · have := C.1; omega
  · exact ⟨dc, pc, _, _, n, lg, sz, en, mv, lo, re, dr, pr, yl, co', op', rfl, rfl, rfl, rfl, hD, hP, ⟨N, z, N6, ok, R⟩, hL⟩
theorem n_c4 {c : Nat} (h : c < 2 ^ 31) : ¬ nI c = -4 ∧ ¬ nI c = -5 ∧ ¬ nI c = -1 := by
  refine ⟨fun e => ?_, fun e => ?_, fun e => ?_⟩ <;> have h1 := congrArg Int32.toInt e
  · rw [nI_toInt h, show (-4 : Int32).toInt = -4 by decide] at h1; omega
  · rw [nI_toInt h, show (-5 : Int32).toInt = -5 by decide] at h1; omega
  · rw [nI_toInt h, show (-1 : Int32).toInt = -1 by decide] at h1; omega
def ad_Q (L : pl_L) (w : List Nat) (k : Nat) : Prop := ∃ c, c < 64 ∧ 0 < c ∧ lc_ L 0 w c ∧ lc_ L 0 (w ++ [k]) (c - 1)
theorem ad_Y {e c ck k : Nat} {L : pl_L} {w : List Nat} (he : e < 64) (C : ct_C e L 0 w c) (Ck : ct_C e L 0 (w ++ [k]) ck) : nI ck = nI c - 1 ↔ ad_Q L w k := by
  have c1 := C.1
  have ck1 := Ck.1
  by_cases c0 : c = 0
  · subst c0
    constructor
    · intro q; exact absurd q (n_c4 (by omega)).2.2
    · rintro ⟨c', _, p, l, _⟩
      have := C_lc2 he C l
      omega
  · have e1 : nI c - 1 = nI (c - 1) := pk_sub (a := c) (b := 1) (by omega)
    rw [e1, nI_eq (by omega) (by omega)]
    constructor
    · intro q
      have k1 : ck < 100 := by omega
      have k2 := C_at Ck k1
      by_cases c100 : c < 100
      · have k3 := C_at C c100
        exact ⟨c, by omega, by omega, C_lc1 C c100, by rw [← q]; exact C_lc1 Ck k1⟩
      · omega
    · rintro ⟨c', _, p, l, l'⟩
      have a1 := C_lc2 he C l
      have a2 := C_lc2 he Ck l'
      omega
theorem i_vc_advice {k : Nat} {u : SX} {v : SY} (I : i_Rel k u v) (hk : k + 2 ≤ 1024) : wpX_advice (fun r => wpY_advice (fun r' v' => r' = r ∧ i_Rel (k + 2) u v') v) u := by
  obtain ⟨dc, pc, d, s, n, lg, sz, en, mv, lo, re, dr, pr, yl, co, op, rfl, rfl, rfl, rfl, hD, hP, hM, hL⟩ := I
  have hn := hL.1
  obtain ⟨N, z, N6, ok, R⟩ := hM
  have Rn := (R n (Nat.le_refl _)).1
  have e := hP.2.2.2.2.1
  have fin : ∀ r : Int32, (∀ k, k < 4 → ad_Q ((st_run pc).2.2 0) (wd_ lg n) k → (∀ k', k' < k → ¬ ad_Q ((st_run pc).2.2 0) (wd_ lg n) k') → nI k = r) → ((∀ k, k < 4 → ¬ ad_Q ((st_run pc).2.2 0) (wd_ lg n) k) → (-4 : Int32) = r) →
      wpY_advice (fun r' v' => r' = r ∧ i_Rel (k + 2) (nI (st_run dc).1, nI dc.length, nI (st_sum (st_run dc).2.1 (st_run dc).1), nI n, sz, en, mv, lo, re) v') (nI dc.length, nI (st_run dc).1, nI (st_sum (st_run dc).2.1 (st_run dc).1), nI pc.length, nI n, dr, pr, yl, co, op) := by
    intro r g1 g2
    have J : ∀ yl' co' op', rl_L n lg lo yl' → i_Rel (k + 2) (nI (st_run dc).1, nI dc.length, nI (st_sum (st_run dc).2.1 (st_run dc).1), nI n, sz, en, mv, lo, re) (nI dc.length, nI (st_run dc).1, nI (st_sum (st_run dc).2.1 (st_run dc).1), nI pc.length, nI n, dr, pr, yl', co', op') :=
      fun yl' co' op' hL' => ⟨dc, pc, _, _, n, lg, sz, en, mv, lo, re, dr, pr, yl', co', op', rfl, rfl, rfl, rfl, hD, hP, ⟨N, z, N6, ok, R⟩, hL'⟩
    unfold wpY_advice
    dsimp only
    refine yl_at (B := 0) hn (by omega) hP hL (fun c co' op' C => ⟨5, ?_⟩)
    exact ya_12 (lo := lo) (Q := ad_Q ((st_run pc).2.2 0) (wd_ lg n)) hP (fun k ck hk Ck => ad_Y e C Ck) (fun k hk q no yl' co' op' hL' => ⟨g1 k hk q no, J yl' co' op' hL'⟩) (fun no yl' co' op' hL' => ⟨g2 no, J yl' co' op' hL'⟩) 4 0 (by omega) (fun k' h' => by omega) yl co' op' hL
  have last : ∀ x1 : Int32, (∀ k, k < 4 → ∀ c, c < 64 → lc_ ((st_run pc).2.2 0) 0 (wd_ lg n ++ [k]) c → (nI c = x1 - 1 ↔ ad_Q ((st_run pc).2.2 0) (wd_ lg n) k)) → (∀ k, k < 4 → (∀ m, m < 64 → ¬ ct_can ((st_run pc).2.2 0) 0 (wd_ lg n ++ [k]) m) → ((-4 : Int32) = x1 - 1 ↔ ad_Q ((st_run pc).2.2 0) (wd_ lg n) k)) →
      ∃ n24 : Nat, wX_advice_24 (fun r => wpY_advice (fun r' v' => r' = r ∧ i_Rel (k + 2) (nI (st_run dc).1, nI dc.length, nI (st_sum (st_run dc).2.1 (st_run dc).1), nI n, sz, en, mv, lo, re) v') (nI dc.length, nI (st_run dc).1, nI (st_sum (st_run dc).2.1 (st_run dc).1), nI pc.length, nI n, dr, pr, yl, co, op)) x1 (nI (st_run dc).1) (nI dc.length) (nI (st_sum (st_run dc).2.1 (st_run dc).1)) (nI n) sz en mv lo re n24 0 := by
    intro x1 A1 A2
    refine ⟨5, xa_24 (Q := ad_Q ((st_run pc).2.2 0) (wd_ lg n)) hn N6 z ok Rn A1 A2 (fun k hk q no => fin _ (fun k' hk' q' no' => ?_) (fun no' => absurd q (no' k hk))) (fun no => fin _ (fun k' hk' q' _ => absurd q' (no k' hk')) (fun _ => rfl)) 4 0 (by omega) (fun k' h' => by omega)⟩
    have : k' = k := by
      rcases Nat.lt_trichotomy k' k with a | a | a
      · exact absurd q' (no k' a)
      · exact a
      · exact absurd q (no' k a)
    rw [this]
  refine ⟨vp_in_nI (by omega) (by decide), ?_⟩
  rw [nI_clamp (by omega)]
  refine xq_le (B := 0) (by omega) N6 z ok Rn (fun c hc can no => ?_) (fun no => ?_)
  · have lc : lc_ ((st_run pc).2.2 0) 0 (wd_ lg n) c := ⟨can, no⟩
    refine pk_eq c 0 (fun c0 => ?_) (fun c0 => ?_)
    · have nq : ∀ k, ¬ ad_Q ((st_run pc).2.2 0) (wd_ lg n) k := by
        rintro k ⟨c', _, p, l, _⟩
        have := lc_u lc l
        omega
      exact fin _ (fun k _ q _ => absurd q (nq k)) (fun _ => rfl)
    · have e1 : nI c - 1 = nI (c - 1) := pk_sub (a := c) (b := 1) (by omega)
      refine last (nI c) (fun k hk ck hck lk => ?_) (fun k hk nok => ?_)
      · rw [e1, nI_eq (by omega) (by omega)]
        constructor
        · rintro rfl; exact ⟨c, hc, by omega, lc, lk⟩
        · rintro ⟨c', _, p, l, l'⟩
          have a1 := lc_u lc l
          have a2 := lc_u lk l'
          omega
      · rw [e1]
        constructor
        · intro q; exact absurd q.symm (n_c4 (by omega)).1
        · rintro ⟨c', h64, p, l, l'⟩
          exact absurd l'.1 (nok (c' - 1) (by omega))
  · have nq : ∀ k, ¬ ad_Q ((st_run pc).2.2 0) (wd_ lg n) k := by
      rintro k ⟨c', h64, p, l, _⟩
      exact no c' h64 l.1
    refine br_f (by decide) (last (-4) (fun k hk ck hck lk => ?_) (fun k hk nok => ?_))
    · exact ⟨fun q => absurd q (n_c4 (by omega)).2.1, fun q => absurd q (nq k)⟩
    · exact ⟨fun q => absurd q (by decide), fun q => absurd q (nq k)⟩
end
