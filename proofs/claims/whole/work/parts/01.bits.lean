theorem pk_us {f : Nat → Int32} {k : Nat} {x : Int32} : upd f k x k = x := if_pos rfl
theorem pk_un {f : Nat → Int32} {k j : Nat} {x : Int32} (h : j ≠ k) : upd f k x j = f j := if_neg h
theorem pk_uLs {f : Nat → Int64} {k : Nat} {x : Int64} : vp_updL f k x k = x := if_pos rfl
theorem pk_uLn {f : Nat → Int64} {k j : Nat} {x : Int64} (h : j ≠ k) : vp_updL f k x j = f j := if_neg h
theorem pk_sub {a b : Nat} (h : b ≤ a) : nI a - nI b = nI (a - b) := by
  obtain ⟨c, rfl⟩ : ∃ c, a = c + b := ⟨a - b, by omega⟩
  rw [← nI_add, Int32.add_sub_cancel, Nat.add_sub_cancel]
theorem pk_m1 (n : Nat) : nI (n + 1) + (-1) = nI n := by
  rw [← nI_1, Int32.add_assoc, show (1 : Int32) + (-1) = 0 from rfl, Int32.add_zero]
theorem pk_mul (a b : Nat) : nI a * nI b = nI (a * b) := (Int32.ofNat_mul a b).symm
theorem pk_ix (x : Int32) {n : Nat} (hn : n < 2 ^ 31) : x < 0 ∨ nI n ≤ x ∨ ∃ j : Nat, j < n ∧ x = nI j := by
  by_cases h : x < 0
  · exact Or.inl h
  · obtain ⟨j, hj, rfl⟩ := nI_of h
    by_cases h2 : j < n
    · exact Or.inr (Or.inr ⟨j, h2, rfl⟩)
    · exact Or.inr (Or.inl (nI_le (by omega) hj))
theorem pk_le {x y : Int32} {A B : Prop} (a b : Nat) (f : a ≤ b → A) (g : b < a → B) (hx : x = nI a := by rfl) (hy : y = nI b := by rfl) (ha : a < 2 ^ 31 := by omega) (hb : b < 2 ^ 31 := by omega) : (x ≤ y → A) ∧ (¬ x ≤ y → B) := by
  subst hx hy
  rw [nI_leI ha hb]
  exact ⟨f, fun z => g (by omega)⟩
theorem pk_lt {x y : Int32} {A B : Prop} (a b : Nat) (f : a < b → A) (g : b ≤ a → B) (hx : x = nI a := by rfl) (hy : y = nI b := by rfl) (ha : a < 2 ^ 31 := by omega) (hb : b < 2 ^ 31 := by omega) : (x < y → A) ∧ (¬ x < y → B) := by
  subst hx hy
  rw [nI_ltI ha hb]
  exact ⟨f, fun z => g (by omega)⟩
theorem pk_eq {x y : Int32} {A B : Prop} (a b : Nat) (f : a = b → A) (g : a ≠ b → B) (hx : x = nI a := by rfl) (hy : y = nI b := by rfl) (ha : a < 2 ^ 31 := by omega) (hb : b < 2 ^ 31 := by omega) : (x = y → A) ∧ (¬ x = y → B) := by
  subst hx hy
  rw [nI_eq ha hb]
  exact ⟨f, g⟩
theorem pk_in {x : Int32} (n N : Nat) (h : n < N) (hx : x = nI n := by rfl) (hN : N < 2 ^ 31 := by omega) : vp_in x N := by
  subst hx
  exact vp_in_nI h hN
theorem pk_cl {x : Int32} (n : Nat) (hx : x = nI n := by rfl) (h : n < 2 ^ 31 := by omega) : x.toNatClampNeg = n := by
  subst hx
  exact nI_clamp h
theorem pk_tn {n : Nat} (h : n < 2 ^ 32) : (nI n).toBitVec.toNat = n := Nat.mod_eq_of_lt h
theorem pk_and (x : Int32) {m : Int32} (k : Nat) (hm : m.toBitVec.toNat = 2 ^ k - 1) : x &&& m = nI (x.toBitVec.toNat % 2 ^ k) := by
  apply Int32.toBitVec_inj.mp
  apply BitVec.eq_of_toNat_eq
  rw [Int32.toBitVec_and, BitVec.toNat_and, hm, Nat.and_two_pow_sub_one_eq_mod]
  show _ = (BitVec.ofNat 32 _).toNat
  rw [BitVec.toNat_ofNat]
  exact (Nat.mod_eq_of_lt (Nat.lt_of_le_of_lt (Nat.mod_le _ _) x.toBitVec.isLt)).symm
theorem pk_andN {n : Nat} (h : n < 2 ^ 32) {m : Int32} (k : Nat) (hm : m.toBitVec.toNat = 2 ^ k - 1) : nI n &&& m = nI (n % 2 ^ k) := by
  rw [pk_and _ k hm, pk_tn h]
theorem pk_shl (a s : Int32) (k : Nat) (hs : (s.toBitVec.smod 32).toNat = k) : (a <<< s).toBitVec.toNat = a.toBitVec.toNat * 2 ^ k % 2 ^ 32 := by
  show (a.toBitVec <<< (s.toBitVec.smod 32).toNat).toNat = _
  rw [hs, BitVec.toNat_shiftLeft, Nat.shiftLeft_eq]
theorem pk_shlN {n : Nat} (s : Int32) (k : Nat) (hs : (s.toBitVec.smod 32).toNat = k) (h : n * 2 ^ k < 2 ^ 32) : nI n <<< s = nI (n * 2 ^ k) := by
  apply Int32.toBitVec_inj.mp
  apply BitVec.eq_of_toNat_eq
  have hn : n < 2 ^ 32 := Nat.lt_of_le_of_lt (Nat.le_mul_of_pos_right n (Nat.two_pow_pos k)) h
  rw [pk_shl _ _ k hs, pk_tn hn, pk_tn h, Nat.mod_eq_of_lt h]
theorem pk_shr (a s : Int32) (k : Nat) (hs : (s.toBitVec.smod 32).toNat = k) : (a >>> s).toInt = a.toInt >>> k := by
  show (a.toBitVec.sshiftRight (s.toBitVec.smod 32).toNat).toInt = _
  rw [hs, BitVec.toInt_sshiftRight]
  rfl
theorem pk_shrN {n : Nat} (h : n < 2 ^ 31) (s : Int32) (k : Nat) (hs : (s.toBitVec.smod 32).toNat = k) : nI n >>> s = nI (n / 2 ^ k) := by
  apply Int32.toInt_inj.mp
  have h2 : n / 2 ^ k ≤ n := Nat.div_le_self _ _
  rw [pk_shr _ _ k hs, nI_toInt h, nI_toInt (by omega), Int.shiftRight_eq_div_pow]
  rfl
theorem pk_vb (z : Int32) : vp_nar .byte z.toInt8.toInt32 = z.toInt8.toInt32 := by rw [vp_nar_byte]; simp
theorem pk_least (P : Nat → Prop) (h : ∃ k, P k) : ∃ k, P k ∧ ∀ j, j < k → ¬ P j := by
  obtain ⟨k, hk⟩ := h
  induction k using Nat.strongRecOn with
  | ind k ih =>
    by_cases e : ∃ j, j < k ∧ P j
    · obtain ⟨j, hj, pj⟩ := e
      exact ih j hj pj
    · exact ⟨k, hk, fun j hj pj => e ⟨j, hj, pj⟩⟩
theorem s_l : ∀ n, n < 32 → ((nI n &&& 31).toBitVec.smod 32).toNat = n := by decide +kernel
theorem nx_and (a b : Nat) : nI a &&& nI b = nI (a &&& b) := by
  apply Int32.toBitVec_inj.1
  show BitVec.ofNat 32 a &&& BitVec.ofNat 32 b = BitVec.ofNat 32 (a &&& b)
  apply BitVec.eq_of_getLsbD_eq
  intro i hi
  simp [hi]
theorem ts_nf {x : Bool} (h : ¬ x = false) : x = true := by cases x <;> first | rfl | exact absurd rfl h
theorem ts_nt {x : Bool} (h : ¬ x = true) : x = false := by cases x <;> first | rfl | exact absurd rfl h
theorem ts_bit {w : Int64} {s : UInt64} {j : Nat} (hj : j < 64) (hs : s.toNat = j) : ((w.toUInt64 >>> s).toInt64 &&& 1) = 0 ↔ w.toBitVec.getLsbD j = false := by
  have e : (w.toUInt64 >>> s).toInt64.toBitVec = w.toBitVec >>> j := by
    apply BitVec.eq_of_toNat_eq
    show (w.toUInt64 >>> s).toNat = _
    rw [UInt64.toNat_shiftRight, hs, Nat.mod_eq_of_lt hj, BitVec.toNat_ushiftRight]
    rfl
  rw [← Int64.toBitVec_inj, Int64.toBitVec_and, e]
  show w.toBitVec >>> j &&& 1#64 = 0#64 ↔ _
  constructor
  · intro h
    have t := congrArg (fun x => x.getLsbD 0) h
    simpa using t
  · intro h
    apply BitVec.eq_of_getLsbD_eq
    intro i hi
    cases i with
    | zero => simp [h]
    | succ i => simp
theorem wb_tb (n : Nat) : (lN n).toBitVec = BitVec.ofNat 64 n := rfl
theorem wb_inj {a b : Int64} (h : a.toBitVec = b.toBitVec) : a = b := Int64.toBitVec_inj.mp h
theorem wb_tn {n : Nat} (h : n < 2 ^ 64) : (lN n).toBitVec.toNat = n := by rw [wb_tb, BitVec.toNat_ofNat, Nat.mod_eq_of_lt h]
theorem wb_c : ∀ k, k < 64 → ((nI k).toInt64 &&& 63) = lN k := by decide +kernel
theorem wb_cu : ∀ k, k < 64 → ((nI k).toInt64.toUInt64 &&& Int64.toUInt64 63) = UInt64.ofNat k := by decide +kernel
theorem wb_sm : ∀ k, k < 64 → (BitVec.ofNat 64 k).smod 64 = BitVec.ofNat 64 k := by decide +kernel
/-! the bits of a long as a set of states -/
def mb_ (x : Int64) (i : Nat) : Prop := x.toBitVec.getLsbD i = true
theorem mb_or (x y : Int64) (i : Nat) : mb_ (x ||| y) i ↔ mb_ x i ∨ mb_ y i := by
  unfold mb_; rw [Int64.toBitVec_or, BitVec.getLsbD_or, Bool.or_eq_true]
theorem mb_and (x y : Int64) (i : Nat) : mb_ (x &&& y) i ↔ mb_ x i ∧ mb_ y i := by
  unfold mb_; rw [Int64.toBitVec_and, BitVec.getLsbD_and, Bool.and_eq_true]
theorem mb_big {x : Int64} {i : Nat} (h : mb_ x i) : i < 64 := by
  rcases Nat.lt_or_ge i 64 with g | g
  · exact g
  · unfold mb_ at h; rw [BitVec.getLsbD_of_ge _ _ g] at h; exact absurd h (by decide)
theorem mb_0 (i : Nat) : ¬ mb_ 0 i := by
  unfold mb_
  rw [show (0 : Int64).toBitVec = 0#64 from rfl, BitVec.getLsbD_zero]; decide
theorem mb_ext {x y : Int64} (h : ∀ i, mb_ x i ↔ mb_ y i) : x = y := by
  apply Int64.toBitVec_inj.mp
  apply BitVec.eq_of_getLsbD_eq
  intro i _
  have := h i
  unfold mb_ at this
  exact Bool.eq_iff_iff.mpr this
theorem mb_z {x : Int64} : x = 0 ↔ ∀ i, ¬ mb_ x i := by
  constructor
  · intro h i; rw [h]; exact mb_0 i
  · intro h; exact mb_ext (fun i => ⟨fun a => absurd a (h i), fun a => absurd a (mb_0 i)⟩)
theorem mb_nz {x : Int64} : ¬ x = 0 ↔ ∃ i, mb_ x i := by
  rw [mb_z]
  constructor
  · intro h
    exact Classical.byContradiction fun g => h fun i hi => g ⟨i, hi⟩
  · rintro ⟨i, hi⟩ h
    exact h i hi
theorem mb_1 (i : Nat) : mb_ 1 i ↔ i = 0 := by
  constructor
  · intro h
    have g := mb_big h
    unfold mb_ at h
    exact (by decide +kernel : ∀ i, i < 64 → (1 : Int64).toBitVec.getLsbD i = true → i = 0) i g h
  · rintro rfl; unfold mb_; decide +kernel
theorem mb_2 (i : Nat) : mb_ 2 i ↔ i = 1 := by
  constructor
  · intro h
    have g := mb_big h
    unfold mb_ at h
    exact (by decide +kernel : ∀ i, i < 64 → (2 : Int64).toBitVec.getLsbD i = true → i = 1) i g h
  · rintro rfl; unfold mb_; decide +kernel
theorem mb_m2 (i : Nat) (hi : i < 64) : mb_ (-2) i ↔ 1 ≤ i := by
  unfold mb_
  exact (by decide +kernel : ∀ i, i < 64 → ((-2 : Int64).toBitVec.getLsbD i = true ↔ 1 ≤ i)) i hi
theorem mb_shl {k : Nat} (hk : k < 64) (x : Int64) {i : Nat} (hi : i < 64) : mb_ (x <<< ((nI k).toInt64 &&& 63)) i ↔ k ≤ i ∧ mb_ x (i - k) := by
  unfold mb_
  rw [wb_c k hk, Int64.toBitVec_shiftLeft, wb_tb, wb_sm k hk, BitVec.shiftLeft_eq', BitVec.toNat_ofNat, Nat.mod_eq_of_lt (show k < 2 ^ 64 by omega), BitVec.getLsbD_shiftLeft]
  rcases Nat.lt_or_ge i k with h | h
  · simp [h, Nat.not_le.mpr h]
  · simp [hi, h, Nat.not_lt.mpr h]
theorem mb_bit {k : Nat} (hk : k < 64) (i : Nat) : mb_ ((1 : Int64) <<< ((nI k).toInt64 &&& 63)) i ↔ i = k := by
  constructor
  · intro h
    have g := mb_big h
    rw [mb_shl hk _ g, mb_1] at h
    omega
  · rintro rfl
    rw [mb_shl hk _ hk, mb_1]
    omega
theorem mb_lN {b k : Nat} (hb : b < 2 ^ 64) : mb_ (lN b) k ↔ b.testBit k = true := by
  unfold mb_
  rw [wb_tb, BitVec.getLsbD_ofNat]
  rcases Nat.lt_or_ge k 64 with h | h
  · simp [h]
  · simp only [decide_eq_false (Nat.not_lt.mpr h), Bool.false_and]
    rw [Nat.testBit_lt_two_pow (Nat.lt_of_lt_of_le hb (Nat.pow_le_pow_right (by decide) h))]
theorem mb_test {x : Int64} {k : Nat} (hk : k < 64) : (((x.toUInt64 >>> ((nI k).toInt64.toUInt64 &&& Int64.toUInt64 63)).toInt64) &&& 1) = 0 ↔ ¬ mb_ x k := by
  have h1 : (UInt64.ofNat k).toNat = k := by
    show (BitVec.ofNat 64 k).toNat = k
    rw [BitVec.toNat_ofNat, Nat.mod_eq_of_lt (by omega)]
  rw [wb_cu k hk, ts_bit hk h1]
  unfold mb_
  exact Bool.not_eq_true _ |>.symm ▸ Iff.rfl
theorem mb_has {post : Int32 → Prop} {x : Int64} {k : Nat} (hk : k < 64) (h1 : mb_ x k → post 1) (h0 : ¬ mb_ x k → post 0) : wpX_has post x (nI k) := by
  unfold wpX_has
  rw [mb_test hk]
  exact ⟨h0, fun h => h1 (Classical.byContradiction h)⟩
/-- place -/
def pl_ (z s k : Nat) : Nat := z * 256 + s * 4 + k
theorem pl_inj {z s k z' s' k' : Nat} (hs : s < 64) (hk : k < 4) (hs' : s' < 64) (hk' : k' < 4) (h : pl_ z s k = pl_ z' s' k') : z = z' ∧ s = s' ∧ k = k' := by
  unfold pl_ at h; omega
theorem pl_lt {z s k : Nat} (hz : z < 10) (hs : s < 64) (hk : k < 4) : pl_ z s k < 2560 := by unfold pl_; omega
theorem pl_wp {post : Int32 → Prop} {z s k : Nat} (hz : z < 10) (hs : s < 64) (hk : k < 4) (h : post (nI (pl_ z s k))) : wpX_place post (nI z) (nI s) (nI k) := by
  have hl := pl_lt hz hs hk
  have e : ((nI z * 256) + (nI s * 4)) + nI k = nI (pl_ z s k) := by
    unfold pl_
    rw [← nI_add, ← nI_add, ← pk_mul, ← pk_mul]; rfl
  unfold wpX_place
  refine nm_r e ?_
  refine br_f (nI_pos (by omega)) ?_
  exact br_f (nI_ge (b := 2560) hl (by decide)) h
/-- a write over the grid of one machine -/
def gx_ (mv mv' : Nat → Int64) (x : Nat) (P : Nat → Nat → Prop) (R : Nat → Nat → Int64 → Prop) : Prop :=
  ∀ z s k, s < 64 → k < 4 → ((z = x ∧ P s k) → R s k (mv' (pl_ z s k))) ∧ (¬ (z = x ∧ P s k) → mv' (pl_ z s k) = mv (pl_ z s k))
theorem gx_0 {mv : Nat → Int64} {x : Nat} {P : Nat → Nat → Prop} {R : Nat → Nat → Int64 → Prop} (h : ∀ s k, k < 4 → ¬ P s k) : gx_ mv mv x P R :=
  fun _ s k _ hk => ⟨fun g => absurd g.2 (h s k hk), fun _ => rfl⟩
theorem gx_s {mv mv' : Nat → Int64} {x : Nat} {P P' : Nat → Nat → Prop} {R : Nat → Nat → Int64 → Prop} (h : gx_ mv mv' x P R) {s k : Nat} (hs : s < 64) (hk : k < 4) {v : Int64} (hv : R s k v) (hP : ∀ s' k', k' < 4 → (P' s' k' ↔ P s' k' ∨ (s' = s ∧ k' = k))) : gx_ mv (vp_updL mv' (pl_ x s k) v) x P' R := by
  intro z s' k' hs' hk'
  have g := h z s' k' hs' hk'
  by_cases e : z = x ∧ s' = s ∧ k' = k
  · obtain ⟨rfl, rfl, rfl⟩ := e
    rw [pk_uLs]
    exact ⟨fun _ => hv, fun n => absurd ⟨rfl, (hP s' k' hk').mpr (Or.inr ⟨rfl, rfl⟩)⟩ n⟩
  · rw [pk_uLn (fun q => e (pl_inj hs' hk' hs hk q))]
    refine ⟨fun a => g.1 ⟨a.1, ?_⟩, fun n => g.2 fun a => n ⟨a.1, (hP s' k' hk').mpr (Or.inl a.2)⟩⟩
    rcases (hP s' k' hk').mp a.2 with q | q
    · exact q
    · exact absurd ⟨a.1, q.1, q.2⟩ e
theorem gx_c {mv mv' : Nat → Int64} {x : Nat} {P P' : Nat → Nat → Prop} {R : Nat → Nat → Int64 → Prop} (h : gx_ mv mv' x P R) (hP : ∀ s k, s < 64 → k < 4 → (P' s k ↔ P s k)) : gx_ mv mv' x P' R := by
  intro z s k hs hk
  have g := h z s k hs hk
  exact ⟨fun a => g.1 ⟨a.1, (hP s k hs hk).mp a.2⟩, fun n => g.2 fun a => n ⟨a.1, (hP s k hs hk).mpr a.2⟩⟩
