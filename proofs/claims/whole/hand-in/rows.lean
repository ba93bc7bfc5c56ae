section
/-! rows of kit/rows pasted (pk_, b_, wb_), then rows on bits of our own -/
theorem pk_us {f : Nat → Int32} {k : Nat} {x : Int32} : upd f k x k = x := if_pos rfl
theorem pk_un {f : Nat → Int32} {k j : Nat} {x : Int32} (h : j ≠ k) : upd f k x j = f j := if_neg h
theorem pk_sub {a b : Nat} (h : b ≤ a) : nI a - nI b = nI (a - b) := by
  obtain ⟨c, rfl⟩ : ∃ c, a = c + b := ⟨a - b, by omega⟩
  rw [← nI_add, Int32.add_sub_cancel, Nat.add_sub_cancel]
theorem pk_m1 (n : Nat) : nI (n + 1) + (-1) = nI n := by
  rw [← nI_1, Int32.add_assoc, show (1 : Int32) + (-1) = 0 from rfl, Int32.add_zero]
theorem pk_mul (a b : Nat) : nI a * nI b = nI (a * b) := (Int32.ofNat_mul a b).symm
theorem pk_div {a d : Nat} (ha : a < 2 ^ 31) (h0 : 0 < d) (hd : d < 2 ^ 31) : nI a / nI d = nI (a / d) := by
  apply Int32.toInt_inj.mp
  rw [lg_idiv_nonneg (by rw [nI_toInt ha]; omega) (by rw [nI_toInt hd]; omega), nI_toInt ha, nI_toInt hd, nI_toInt (Nat.lt_of_le_of_lt (Nat.div_le_self a d) ha)]
  first | rfl | exact (Int.natCast_ediv _ _).symm
theorem pk_rem {a d : Nat} (ha : a < 2 ^ 31) (h0 : 0 < d) (hd : d < 2 ^ 31) : nI a - nI a / nI d * nI d = nI (a % d) := by
  rw [pk_div ha h0 hd, pk_mul, pk_sub (Nat.div_mul_le_self a d)]
  exact congrArg nI (by have := Nat.div_add_mod' a d; omega)
theorem pk_sub_toInt {a b : Nat} (ha : a < 2 ^ 30) (hb : b < 2 ^ 30) : (nI a - nI b).toInt = (a : Int) - b := by
  rw [Int32.toInt_sub, nI_toInt (by omega), nI_toInt (by omega)]
  exact Int.bmod_eq_of_le (by omega) (by omega)
theorem pk_sneg {a b : Nat} (hb : b < 2 ^ 30) (h : a < b) : nI a - nI b < 0 := by
  rw [Int32.lt_iff_toInt_lt, pk_sub_toInt (by omega) hb, show (0 : Int32).toInt = 0 from by decide]
  omega
theorem pk_ix (x : Int32) {n : Nat} (hn : n < 2 ^ 31) : x < 0 ∨ nI n ≤ x ∨ ∃ j : Nat, j < n ∧ x = nI j := by
  by_cases h : x < 0
  · exact Or.inl h
  · obtain ⟨j, hj, rfl⟩ := nI_of h
    by_cases h2 : j < n
    · exact Or.inr (Or.inr ⟨j, h2, rfl⟩)
    · exact Or.inr (Or.inl (nI_le (by omega) hj))
theorem pk_le {x y : Int32} {A B : Prop} (a b : Nat) (f : a ≤ b → A) (g : b < a → B) (hx : x = nI a := by rfl) (hy : y = nI b := by rfl) (ha : a < 2 ^ 31 := by omega) (hb : b < 2 ^ 31 := by omega) : (x ≤ y → A) ∧ (¬ x ≤ y → B) := by
  subst hx hy
  rw [nI_leI ha hb]
  exact ⟨f, fun z => g (by omega)⟩
theorem pk_lt {x y : Int32} {A B : Prop} (a b : Nat) (f : a < b → A) (g : b ≤ a → B) (hx : x = nI a := by rfl) (hy : y = nI b := by rfl) (ha : a < 2 ^ 31 := by omega) (hb : b < 2 ^ 31 := by omega) : (x < y → A) ∧ (¬ x < y → B) := by
  subst hx hy
  rw [nI_ltI ha hb]
  exact ⟨f, fun z => g (by omega)⟩
theorem pk_eq {x y : Int32} {A B : Prop} (a b : Nat) (f : a = b → A) (g : a ≠ b → B) (hx : x = nI a := by rfl) (hy : y = nI b := by rfl) (ha : a < 2 ^ 31 := by omega) (hb : b < 2 ^ 31 := by omega) : (x = y → A) ∧ (¬ x = y → B) := by
  subst hx hy
  rw [nI_eq ha hb]
  exact ⟨f, g⟩
theorem pk_in {x : Int32} (n N : Nat) (h : n < N) (hx : x = nI n := by rfl) (hN : N < 2 ^ 31 := by omega) : vp_in x N := by
  subst hx
  exact vp_in_nI h hN
theorem pk_cl {x : Int32} (n : Nat) (hx : x = nI n := by rfl) (h : n < 2 ^ 31 := by omega) : x.toNatClampNeg = n := by
  subst hx
  exact nI_clamp h
theorem pk_tn {n : Nat} (h : n < 2 ^ 32) : (nI n).toBitVec.toNat = n := Nat.mod_eq_of_lt h
theorem pk_and (x : Int32) {m : Int32} (k : Nat) (hm : m.toBitVec.toNat = 2 ^ k - 1) : x &&& m = nI (x.toBitVec.toNat % 2 ^ k) := by
  apply Int32.toBitVec_inj.mp
  apply BitVec.eq_of_toNat_eq
  rw [Int32.toBitVec_and, BitVec.toNat_and, hm, Nat.and_two_pow_sub_one_eq_mod]
  show _ = (BitVec.ofNat 32 _).toNat
  rw [BitVec.toNat_ofNat]
  exact (Nat.mod_eq_of_lt (Nat.lt_of_le_of_lt (Nat.mod_le _ _) x.toBitVec.isLt)).symm
theorem pk_andE (x : Int32) {m : Int32} (k : Nat) (hm : m.toBitVec.toNat = 2 ^ k - 1) : ∃ j : Nat, j < 2 ^ k ∧ x &&& m = nI j := ⟨_, Nat.mod_lt _ (Nat.two_pow_pos k), pk_and x k hm⟩
def bt (x : Int32) (i : Nat) : Bool := x.toBitVec.getLsbD i
theorem b_ext {x y : Int32} (h : ∀ i, i < 32 → bt x i = bt y i) : x = y := Int32.toBitVec_inj.mp (BitVec.eq_of_getLsbD_eq (fun i hi => h i hi))
theorem b_or (x y : Int32) (i : Nat) : bt (x ||| y) i = (bt x i || bt y i) := by unfold bt; rw [Int32.toBitVec_or, BitVec.getLsbD_or]
theorem b_and (x y : Int32) (i : Nat) : bt (x &&& y) i = (bt x i && bt y i) := by unfold bt; rw [Int32.toBitVec_and, BitVec.getLsbD_and]
theorem b_xor (x y : Int32) (i : Nat) : bt (x ^^^ y) i = (bt x i ^^ bt y i) := by unfold bt; rw [Int32.toBitVec_xor, BitVec.getLsbD_xor]
theorem b_big {x : Int32} {i : Nat} (h : 32 ≤ i) : bt x i = false := BitVec.getLsbD_of_ge _ _ h
theorem b_255 (i : Nat) : bt 255 i = decide (i < 8) := by
  rcases Nat.lt_or_ge i 32 with h | h
  · exact (by decide +kernel : ∀ i, i < 32 → bt 255 i = decide (i < 8)) i h
  · rw [b_big h, decide_eq_false (by omega)]
theorem b_m1 : ∀ i, i < 32 → bt (-1) i = true := by decide +kernel
theorem b_0 (i : Nat) : bt 0 i = false := BitVec.getLsbD_zero
theorem s_l : ∀ n, n < 32 → ((nI n &&& 31).toBitVec.smod 32).toNat = n := by decide +kernel
theorem s_u : ∀ n, n < 32 → (((nI n).toUInt32 &&& Int32.toUInt32 31).toBitVec % 32).toNat = n := by decide +kernel
theorem b_shl (n : Nat) (hn : n < 32) (x : Int32) {i : Nat} (hi : i < 32) : bt (x <<< (nI n &&& 31)) i = (decide (n ≤ i) && bt x (i - n)) := by
  unfold bt
  rw [Int32.toBitVec_shiftLeft]
  show (x.toBitVec <<< ((nI n &&& 31).toBitVec.smod 32).toNat).getLsbD i = _
  rw [s_l n hn, BitVec.getLsbD_shiftLeft]
  rcases Nat.lt_or_ge i n with h | h
  · simp [h, Nat.not_le.mpr h]
  · simp [hi, h, Nat.not_lt.mpr h]
theorem b_ushr (n : Nat) (hn : n < 32) (x : Int32) (i : Nat) : bt ((x.toUInt32 >>> ((nI n).toUInt32 &&& Int32.toUInt32 31)).toInt32) i = bt x (n + i) := by
  show (x.toUInt32 >>> ((nI n).toUInt32 &&& Int32.toUInt32 31)).toBitVec.getLsbD i = x.toUInt32.toBitVec.getLsbD (n + i)
  rw [UInt32.toBitVec_shiftRight]
  show (x.toUInt32.toBitVec >>> (((nI n).toUInt32 &&& Int32.toUInt32 31).toBitVec % 32).toNat).getLsbD i = _
  rw [s_u n hn, BitVec.getLsbD_ushiftRight]
theorem b_sshr (n : Nat) (hn : n < 32) (x : Int32) {i : Nat} (hi : i < 32) : bt (x >>> (nI n &&& 31)) i = if n + i < 32 then bt x (n + i) else bt x 31 := by
  unfold bt
  rw [Int32.toBitVec_shiftRight]
  show (x.toBitVec.sshiftRight ((nI n &&& 31).toBitVec.smod 32).toNat).getLsbD i = _
  rw [s_l n hn, BitVec.getLsbD_sshiftRight, BitVec.msb_eq_getLsbD_last]
  simp [hi]
theorem wb_tb (n : Nat) : (lN n).toBitVec = BitVec.ofNat 64 n := rfl
theorem wb_inj {a b : Int64} (h : a.toBitVec = b.toBitVec) : a = b := Int64.toBitVec_inj.mp h
theorem wb_of (x : Int64) : ∃ n, n < 2 ^ 64 ∧ x = lN n := ⟨x.toBitVec.toNat, x.toBitVec.isLt, wb_inj (by rw [wb_tb]; simp)⟩
theorem wb_of32 (x : Int32) : ∃ n, n < 2 ^ 32 ∧ x = nI n := ⟨x.toBitVec.toNat, x.toBitVec.isLt, Int32.toBitVec_inj.mp (by show _ = BitVec.ofNat 32 _; simp)⟩
theorem wb_c : ∀ k, k < 64 → ((nI k).toInt64 &&& 63) = lN k := by decide +kernel
theorem wb_cu : ∀ k, k < 64 → ((nI k).toInt64.toUInt64 &&& Int64.toUInt64 63) = UInt64.ofNat k := by decide +kernel
theorem wb_sm : ∀ k, k < 64 → (BitVec.ofNat 64 k).smod 64 = BitVec.ofNat 64 k := by decide +kernel
/-! ===== rows of our own on bits ===== -/
/-- every bit of x is one of y -/
def rf_sub (x y : Int32) : Prop := ∀ t, bt x t = true → bt y t = true
/-- no bit from 8 on -/
def rf_b8 (x : Int32) : Prop := ∀ t, 8 ≤ t → bt x t = false
theorem rf_nf {b : Bool} (h : ¬ b = true) : b = false := by cases b <;> first | rfl | exact absurd rfl h
theorem rf_nt {b : Bool} (h : ¬ b = false) : b = true := by cases b <;> first | rfl | exact absurd rfl h
theorem rf_beq {a b : Bool} (h : a = true ↔ b = true) : a = b := by cases a <;> cases b <;> simp at h <;> rfl
theorem rf_subr (x : Int32) : rf_sub x x := fun _ h => h
theorem rf_subt {x y z : Int32} (h : rf_sub x y) (k : rf_sub y z) : rf_sub x z := fun t e => k t (h t e)
theorem rf_suba {x y : Int32} (h : rf_sub x y) (k : rf_sub y x) : x = y := b_ext (fun i _ => rf_beq ⟨h i, k i⟩)
theorem rf_sub0 (x : Int32) : rf_sub 0 x := fun t h => by rw [b_0] at h; exact absurd h (by decide)
theorem rf_b80 : rf_b8 0 := fun t _ => b_0 t
theorem rf_orl (x y : Int32) : rf_sub x (x ||| y) := fun t h => by rw [b_or, h]; rfl
theorem rf_orr (x y : Int32) : rf_sub y (x ||| y) := fun t h => by rw [b_or, h, Bool.or_true]
theorem rf_ors {x y z : Int32} (h : rf_sub x z) (k : rf_sub y z) : rf_sub (x ||| y) z := fun t e => by
  rw [b_or] at e
  cases hx : bt x t
  · rw [hx, Bool.false_or] at e; exact k t e
  · exact h t hx
theorem rf_b8or {x y : Int32} (h : rf_b8 x) (k : rf_b8 y) : rf_b8 (x ||| y) := fun t e => by rw [b_or, h t e, k t e]; rfl
theorem rf_b8and {x y : Int32} (h : rf_b8 x) : rf_b8 (x &&& y) := fun t e => by rw [b_and, h t e]; rfl
theorem rf_b8lt {x : Int32} (h : rf_b8 x) {t : Nat} (e : bt x t = true) : t < 8 := by
  rcases Nat.lt_or_ge t 8 with z | z
  · exact z
  · rw [h t z] at e; exact absurd e (by decide)
theorem rf_b8ext {x y : Int32} (h : rf_b8 x) (k : rf_b8 y) (e : ∀ i, i < 8 → (bt x i = true ↔ bt y i = true)) : x = y := b_ext (fun i _ => by
  rcases Nat.lt_or_ge i 8 with z | z
  · exact rf_beq (e i z)
  · rw [h i z, k i z])
/-- what is new of x over y -/
theorem rf_fr (x y : Int32) : y ||| (x &&& (y ^^^ (-1))) = y ||| x := b_ext (fun i hi => by
  rw [b_or, b_or, b_and, b_xor, b_m1 i hi]
  cases bt x i <;> cases bt y i <;> rfl)
theorem rf_fr0 (x y : Int32) : x &&& (y ^^^ (-1)) = 0 ↔ rf_sub x y := by
  constructor
  · intro h t e
    rcases Nat.lt_or_ge t 32 with z | z
    · have k : bt (x &&& (y ^^^ (-1))) t = false := by rw [h, b_0]
      rw [b_and, b_xor, b_m1 t z, e] at k
      cases hy : bt y t
      · rw [hy] at k; exact absurd k (by decide)
      · rfl
    · rw [b_big z] at e; exact absurd e (by decide)
  · intro h
    apply b_ext
    intro i hi
    rw [b_and, b_xor, b_m1 i hi, b_0]
    cases hx : bt x i
    · rfl
    · rw [h i hx]; rfl
theorem rf_or0 (x y : Int32) : x ||| y = 0 ↔ x = 0 ∧ y = 0 := by
  constructor
  · intro h
    have k : ∀ i, (bt x i || bt y i) = false := fun i => by rw [← b_or, h, b_0]
    exact ⟨b_ext fun i _ => by have := k i; rw [b_0]; cases hx : bt x i <;> simp [hx] at this ⊢, b_ext fun i _ => by have := k i; rw [b_0]; cases hx : bt y i <;> simp [hx] at this ⊢⟩
  · rintro ⟨rfl, rfl⟩; rfl
theorem rf_orid {x y : Int32} (h : rf_sub y x) : x ||| y = x := rf_suba (rf_ors (rf_subr x) h) (rf_orl x y)
theorem b_1 (i : Nat) : bt 1 i = decide (i = 0) := by
  rcases Nat.lt_or_ge i 32 with h | h
  · exact (by decide +kernel : ∀ i, i < 32 → bt 1 i = decide (i = 0)) i h
  · rw [b_big h, decide_eq_false (by omega)]
theorem rf_one (s : Nat) (hs : s < 32) (i : Nat) : bt ((1 : Int32) <<< (nI s &&& 31)) i = decide (i = s) := by
  rcases Nat.lt_or_ge i 32 with hi | hi
  · rw [b_shl s hs 1 hi, b_1]
    rcases Nat.lt_or_ge i s with z | z
    · rw [decide_eq_false (show ¬ s ≤ i by omega), decide_eq_false (show ¬ i = s by omega)]; rfl
    · rw [decide_eq_true z, Bool.true_and]
      exact decide_eq_decide.mpr (by omega)
  · rw [b_big hi, decide_eq_false (by omega)]
theorem rf_b81 (s : Nat) (hs : s < 8) : rf_b8 ((1 : Int32) <<< (nI s &&& 31)) := fun t ht => by rw [rf_one s (by omega)]; exact decide_eq_false (by omega)
theorem rf_tX (x : Int32) (s : Nat) (hs : s < 32) : ((x.toUInt32 >>> ((nI s).toUInt32 &&& Int32.toUInt32 31)).toInt32 &&& 1) = nI (bt x s).toNat := by
  apply b_ext
  intro i hi
  rw [b_and, b_ushr s hs, b_1]
  by_cases z : i = 0
  · subst z
    rw [decide_eq_true rfl, Bool.and_true, Nat.add_zero]
    cases bt x s
    · exact (b_0 0).symm
    · exact (b_1 0).symm
  · rw [decide_eq_false z, Bool.and_false]
    cases bt x s
    · exact (b_0 i).symm
    · exact ((b_1 i).trans (decide_eq_false z)).symm
theorem rf_tY (x : Int32) (s : Nat) (hs : s < 32) : ((x >>> (nI s &&& 31)) &&& 1) = nI (bt x s).toNat := by
  apply b_ext
  intro i hi
  rw [b_and, b_sshr s hs _ hi, b_1]
  by_cases z : i = 0
  · subst z
    rw [decide_eq_true rfl, Bool.and_true, if_pos (by omega), Nat.add_zero]
    cases bt x s
    · exact (b_0 0).symm
    · exact (b_1 0).symm
  · rw [decide_eq_false z, Bool.and_false]
    cases bt x s
    · exact (b_0 i).symm
    · exact ((b_1 i).trans (decide_eq_false z)).symm
theorem rf_brX {A B : Prop} (x : Int32) (s : Nat) (hs : s < 32) (f : bt x s = false → A) (g : bt x s = true → B) : (((x.toUInt32 >>> ((nI s).toUInt32 &&& Int32.toUInt32 31)).toInt32 &&& 1) = 0 → A) ∧ (¬ ((x.toUInt32 >>> ((nI s).toUInt32 &&& Int32.toUInt32 31)).toInt32 &&& 1) = 0 → B) := by
  rw [rf_tX x s hs]
  cases h : bt x s
  · exact br_t rfl (f h)
  · exact br_f (by decide) (g h)
theorem rf_brY {A B : Prop} (x : Int32) (s : Nat) (hs : s < 32) (f : bt x s = true → A) (g : bt x s = false → B) : (((x >>> (nI s &&& 31)) &&& 1) = 1 → A) ∧ (¬ ((x >>> (nI s &&& 31)) &&& 1) = 1 → B) := by
  rw [rf_tY x s hs]
  cases h : bt x s
  · exact br_f (by decide) (g h)
  · exact br_t rfl (f h)
/-- how many of the first n bits -/
def rf_pc (x : Int32) : Nat → Nat
  | 0 => 0
  | n + 1 => rf_pc x n + (bt x n).toNat
theorem rf_pcle (x : Int32) : ∀ n, rf_pc x n ≤ n
  | 0 => Nat.le_refl _
  | n + 1 => by
    have := rf_pcle x n
    have h : (bt x n).toNat ≤ 1 := by cases bt x n <;> decide
    show rf_pc x n + _ ≤ _
    omega
theorem rf_pcm {x y : Int32} (h : rf_sub x y) : ∀ n, rf_pc x n ≤ rf_pc y n
  | 0 => Nat.le_refl _
  | n + 1 => by
    have := rf_pcm h n
    have k : (bt x n).toNat ≤ (bt y n).toNat := by
      cases hx : bt x n
      · exact Nat.zero_le _
      · rw [h n hx]; exact Nat.le_refl _
    show rf_pc x n + _ ≤ rf_pc y n + _
    omega
theorem rf_pce {x y : Int32} (h : rf_sub x y) : ∀ n, rf_pc y n ≤ rf_pc x n → ∀ i, i < n → bt y i = bt x i
  | 0 => fun _ i hi => absurd hi (Nat.not_lt_zero i)
  | n + 1 => fun e i hi => by
    have e : rf_pc y n + (bt y n).toNat ≤ rf_pc x n + (bt x n).toNat := e
    have a := rf_pcm h n
    have k : (bt x n).toNat ≤ (bt y n).toNat := by
      cases hx : bt x n
      · exact Nat.zero_le _
      · rw [h n hx]; exact Nat.le_refl _
    rcases Nat.lt_or_ge i n with z | z
    · exact rf_pce h n (by omega) i z
    · obtain rfl : i = n := by omega
      have q : (bt y i).toNat = (bt x i).toNat := by omega
      revert q
      cases bt y i <;> cases bt x i <;> decide
theorem rf_pc8 {x y : Int32} (h : rf_sub x y) (hy : rf_b8 y) (e : rf_pc y 8 ≤ rf_pc x 8) : y = x := b_ext (fun i _ => by
  rcases Nat.lt_or_ge i 8 with z | z
  · exact rf_pce h 8 e i z
  · rw [hy i z]
    cases hx : bt x i
    · rfl
    · rw [← hy i z, h i hx])
theorem rf_pc1 (x : Int32) : ∀ n, 1 ≤ rf_pc x n ↔ ∃ i, i < n ∧ bt x i = true
  | 0 => ⟨fun h => absurd h (show ¬ 1 ≤ 0 by decide), fun ⟨i, h, _⟩ => absurd h (Nat.not_lt_zero i)⟩
  | n + 1 => by
    have ih := rf_pc1 x n
    constructor
    · intro h
      have h : 1 ≤ rf_pc x n + (bt x n).toNat := h
      cases hx : bt x n
      · rw [hx] at h
        obtain ⟨i, a, b⟩ := ih.mp h
        exact ⟨i, by omega, b⟩
      · exact ⟨n, by omega, hx⟩
    · rintro ⟨i, a, b⟩
      show 1 ≤ rf_pc x n + (bt x n).toNat
      rcases Nat.lt_or_ge i n with z | z
      · have := ih.mpr ⟨i, z, b⟩
        omega
      · obtain rfl : i = n := by omega
        rw [b]
        exact Nat.le_add_left _ _
theorem rf_pc2 (x : Int32) : ∀ n, 2 ≤ rf_pc x n ↔ ∃ i j, i < j ∧ j < n ∧ bt x i = true ∧ bt x j = true
  | 0 => ⟨fun h => absurd h (show ¬ 2 ≤ 0 by decide), fun ⟨i, j, _, h, _⟩ => absurd h (Nat.not_lt_zero j)⟩
  | n + 1 => by
    have ih := rf_pc2 x n
    constructor
    · intro h
      have h : 2 ≤ rf_pc x n + (bt x n).toNat := h
      cases hx : bt x n
      · rw [hx] at h
        obtain ⟨i, j, a, b, c⟩ := ih.mp h
        exact ⟨i, j, a, by omega, c⟩
      · rw [hx] at h
        have h : 2 ≤ rf_pc x n + 1 := h
        obtain ⟨i, a, b⟩ := (rf_pc1 x n).mp (by omega)
        exact ⟨i, n, a, by omega, b, hx⟩
    · rintro ⟨i, j, a, b, c, d⟩
      show 2 ≤ rf_pc x n + (bt x n).toNat
      rcases Nat.lt_or_ge j n with z | z
      · have := ih.mpr ⟨i, j, a, z, c, d⟩
        omega
      · obtain rfl : j = n := by omega
        have := (rf_pc1 x j).mpr ⟨i, a, c⟩
        rw [d]
        show 2 ≤ rf_pc x j + 1
        omega
/-! ===== longs by their bits ===== -/
def rf_l (x : Int64) (i : Nat) : Bool := x.toBitVec.getLsbD i
theorem rf_lor (x y : Int64) (i : Nat) : rf_l (x ||| y) i = (rf_l x i || rf_l y i) := by unfold rf_l; rw [Int64.toBitVec_or, BitVec.getLsbD_or]
theorem rf_land (x y : Int64) (i : Nat) : rf_l (x &&& y) i = (rf_l x i && rf_l y i) := by unfold rf_l; rw [Int64.toBitVec_and, BitVec.getLsbD_and]
theorem rf_l0 (i : Nat) : rf_l 0 i = false := BitVec.getLsbD_zero
theorem rf_l1 : ∀ i, i < 64 → rf_l 1 i = decide (i = 0) := by decide +kernel
theorem rf_i64 (x : Int32) (h : rf_b8 x) (i : Nat) (hi : i < 64) : rf_l x.toInt64 i = bt x i := by
  unfold rf_l
  rw [Int32.toBitVec_toInt64, BitVec.getLsbD_signExtend, BitVec.msb_eq_getLsbD_last, decide_eq_true hi, Bool.true_and]
  have e : x.toBitVec.getLsbD (32 - 1) = false := h 31 (by decide)
  rw [e]
  split
  · rfl
  · rw [b_big (by omega)]
theorem rf_lshl (y : Int64) (k : Nat) (hk : k < 64) (i : Nat) (hi : i < 64) : rf_l (y <<< ((nI k).toInt64 &&& 63)) i = (decide (k ≤ i) && rf_l y (i - k)) := by
  rw [wb_c k hk]
  unfold rf_l
  rw [Int64.toBitVec_shiftLeft, wb_tb, wb_sm k hk, BitVec.shiftLeft_eq', BitVec.toNat_ofNat, Nat.mod_eq_of_lt (show k < 2 ^ 64 by omega), BitVec.getLsbD_shiftLeft]
  rcases Nat.lt_or_ge i k with h | h
  · simp [h, Nat.not_le.mpr h]
  · simp [hi, h, Nat.not_lt.mpr h]
theorem rf_lshr (y : Int64) (k : Nat) (hk : k < 64) (i : Nat) : rf_l ((y.toUInt64 >>> ((nI k).toInt64.toUInt64 &&& Int64.toUInt64 63)).toInt64) i = rf_l y (k + i) := by
  rw [wb_cu k hk]
  show (y.toUInt64 >>> UInt64.ofNat k).toBitVec.getLsbD i = y.toUInt64.toBitVec.getLsbD (k + i)
  rw [UInt64.toBitVec_shiftRight]
  show (y.toUInt64.toBitVec >>> ((UInt64.ofNat k).toBitVec % 64)).getLsbD i = _
  have e : ((UInt64.ofNat k).toBitVec % 64).toNat = k := by
    rw [BitVec.toNat_umod]
    show (BitVec.ofNat 64 k).toNat % 64 = k
    rw [BitVec.toNat_ofNat, Nat.mod_eq_of_lt (show k < 2 ^ 64 by omega), Nat.mod_eq_of_lt hk]
  rw [BitVec.ushiftRight_eq', e, BitVec.getLsbD_ushiftRight]
theorem rf_m8 (s : Nat) : nI s * 8 = nI (s * 8) := pk_mul s 8
theorem rf_put (x : Int32) (h : rf_b8 x) (s a b : Nat) (hs : s < 8) (ha : a < 8) (hb : b < 8) : rf_l (x.toInt64 <<< ((nI s * 8).toInt64 &&& 63)) (a * 8 + b) = (decide (a = s) && bt x b) := by
  rw [rf_m8, rf_lshl _ _ (by omega) _ (by omega)]
  rcases Nat.lt_trichotomy a s with z | z | z
  · rw [decide_eq_false (by omega), decide_eq_false (by omega)]; rfl
  · subst z
    rw [decide_eq_true (by omega), decide_eq_true rfl, rf_i64 x h _ (by omega), show a * 8 + b - a * 8 = b by omega]
  · rw [decide_eq_true (by omega), decide_eq_false (by omega), rf_i64 x h _ (by omega), h _ (by omega)]; rfl
theorem rf_row (x : Int64) (s : Nat) (hs : s < 8) (i : Nat) : bt (((x.toUInt64 >>> ((nI s * 8).toInt64.toUInt64 &&& Int64.toUInt64 63)).toInt64).toInt32 &&& 255) i = (decide (i < 8) && rf_l x (s * 8 + i)) := by
  rw [b_and, b_255, rf_m8, Bool.and_comm]
  rcases Nat.lt_or_ge i 8 with z | z
  · congr 1
    rw [← rf_lshr x (s * 8) (by omega) i]
    unfold bt rf_l
    rw [Int64.toBitVec_toInt32, BitVec.getLsbD_signExtend, decide_eq_true (show i < 32 by omega), Bool.true_and, if_pos (show i < 64 by omega)]
  · rw [decide_eq_false (by omega)]; rfl
theorem rf_tr (x : Int64) (s t a b : Nat) (hs : s < 8) (ht : t < 8) (ha : a < 8) (hb : b < 8) : rf_l ((((x.toUInt64 >>> (((nI s * 8) + nI t).toInt64.toUInt64 &&& Int64.toUInt64 63)).toInt64) &&& 1) <<< (((nI t * 8) + nI s).toInt64 &&& 63)) (a * 8 + b) = (decide (a = t ∧ b = s) && rf_l x (s * 8 + t)) := by
  rw [rf_m8, rf_m8, nI_add, nI_add, rf_lshl _ _ (by omega) _ (by omega)]
  rcases Nat.lt_or_ge (a * 8 + b) (t * 8 + s) with z | z
  · rw [decide_eq_false (by omega), decide_eq_false (by omega)]; rfl
  · rw [decide_eq_true z, Bool.true_and, rf_land, rf_lshr _ _ (by omega), rf_l1 _ (by omega)]
    by_cases e : a = t ∧ b = s
    · obtain ⟨rfl, rfl⟩ := e
      rw [Nat.sub_self, decide_eq_true rfl, decide_eq_true ⟨rfl, rfl⟩, Bool.and_true, Bool.true_and, Nat.add_zero]
    · rw [decide_eq_false e, decide_eq_false (by omega), Bool.and_false, Bool.false_and]
end
section
/-! ===== the smallest sets, by masks; a sweep over them; counting ===== -/
/-- (P, H) keeps every statement given: allocs al, copies cs, nl loads, ns stores -/
def rg_Cl (al cs lt lb lf sb sf so : Nat → Int32) (nl ns : Nat) (P H : Nat → Int32) : Prop :=
  (∀ v, v < 12 → rf_sub (al v) (P v)) ∧
  (∀ v w, v < 12 → w < 12 → bt (cs v) w = true → rf_sub (P w) (P v)) ∧
  (∀ i s, i < nl → s < 8 → bt (P (lb i).toNatClampNeg) s = true → rf_sub (H (s * 2 + (lf i).toNatClampNeg)) (P (lt i).toNatClampNeg)) ∧
  (∀ i s, i < ns → s < 8 → bt (P (sb i).toNatClampNeg) s = true → rf_sub (P (so i).toNatClampNeg) (H (s * 2 + (sf i).toNatClampNeg)))
def rg_Wi (P H p h : Nat → Int32) : Prop := (∀ v, v < 12 → rf_sub (p v) (P v)) ∧ (∀ i, i < 16 → rf_sub (h i) (H i))
def rg_Mo (N : Nat) (p0 p : Nat → Int32) : Prop := ∀ j, j < N → rf_sub (p0 j) (p j)
def rg_Eq (N : Nat) (p0 p : Nat → Int32) : Prop := ∀ j, j < N → p j = p0 j
def rg_B8 (N : Nat) (p : Nat → Int32) : Prop := ∀ j, j < N → rf_b8 (p j)
/-- (p, h) is the smallest pair that keeps C -/
def rg_Le (C : (Nat → Int32) → (Nat → Int32) → Prop) (p h : Nat → Int32) : Prop :=
  rg_B8 12 p ∧ rg_B8 16 h ∧ C p h ∧ ∀ P H, C P H → rg_Wi P H p h
theorem rg_uniq {C : (Nat → Int32) → (Nat → Int32) → Prop} {p h q g : Nat → Int32} (a : rg_Le C p h) (b : rg_Le C q g) : rg_Eq 12 q p ∧ rg_Eq 16 g h := by
  obtain ⟨_, _, a1, a2⟩ := a
  obtain ⟨_, _, b1, b2⟩ := b
  have x := a2 _ _ b1
  have y := b2 _ _ a1
  exact ⟨fun j hj => rf_suba (x.1 j hj) (y.1 j hj), fun j hj => rf_suba (x.2 j hj) (y.2 j hj)⟩
/-- a sweep that began at (p0, h0) stands at (p, h); D: what holds of (p0, h0) if nothing was added -/
def rg_SI (C : (Nat → Int32) → (Nat → Int32) → Prop) (D : Prop) (p0 h0 p h : Nat → Int32) : Prop :=
  rg_Mo 12 p0 p ∧ rg_Mo 16 h0 h ∧ rg_B8 12 p ∧ rg_B8 16 h ∧ (∀ P H, C P H → rg_Wi P H p h) ∧ (rg_Eq 12 p0 p → rg_Eq 16 h0 h → D)
theorem rg_upMo {N v : Nat} {p0 p : Nat → Int32} {x : Int32} (m : rg_Mo N p0 p) : rg_Mo N p0 (upd p v (p v ||| x)) := by
  intro j hj
  by_cases e : j = v
  · subst e; rw [pk_us]; exact rf_subt (m j hj) (rf_orl _ _)
  · rw [pk_un e]; exact m j hj
theorem rg_upB8 {N v : Nat} {p : Nat → Int32} {x : Int32} (m : rg_B8 N p) (hx : rf_b8 x) : rg_B8 N (upd p v (p v ||| x)) := by
  intro j hj
  by_cases e : j = v
  · subst e; rw [pk_us]; exact rf_b8or (m j hj) hx
  · rw [pk_un e]; exact m j hj
theorem rg_upE {N v : Nat} {p0 p : Nat → Int32} {x : Int32} (m : rg_Mo N p0 p) (hv : v < N) (e : rg_Eq N p0 (upd p v (p v ||| x))) : rg_Eq N p0 p ∧ rf_sub x (p0 v) := by
  have ev := e v hv
  rw [pk_us] at ev
  have pv : p v = p0 v := rf_suba (by rw [← ev]; exact rf_orl _ _) (m v hv)
  refine ⟨fun j hj => ?_, by rw [← ev]; exact rf_orr _ _⟩
  by_cases z : j = v
  · rw [z]; exact pv
  · have := e j hj
    rw [pk_un z] at this
    exact this
theorem rg_opp {C : (Nat → Int32) → (Nat → Int32) → Prop} {D D' : Prop} {p0 h0 p h : Nat → Int32} {v : Nat} {x : Int32} (S : rg_SI C D p0 h0 p h) (hv : v < 12) (hx : rf_b8 x) (hw : ∀ P H, C P H → rg_Wi P H p h → rf_sub x (P v)) (k : D → rg_Eq 12 p0 p → rg_Eq 16 h0 h → rf_sub x (p0 v) → D') : rg_SI C D' p0 h0 (upd p v (p v ||| x)) h := by
  obtain ⟨a, b, c, d, e, f⟩ := S
  refine ⟨rg_upMo a, b, rg_upB8 c hx, d, fun P H hc => ⟨fun j hj => ?_, (e P H hc).2⟩, fun q r => ?_⟩
  · by_cases z : j = v
    · subst z; rw [pk_us]; exact rf_ors ((e P H hc).1 j hj) (hw P H hc (e P H hc))
    · rw [pk_un z]; exact (e P H hc).1 j hj
  · have := rg_upE a hv q
    exact k (f this.1 r) this.1 r this.2
theorem rg_oph {C : (Nat → Int32) → (Nat → Int32) → Prop} {D D' : Prop} {p0 h0 p h : Nat → Int32} {v : Nat} {x : Int32} (S : rg_SI C D p0 h0 p h) (hv : v < 16) (hx : rf_b8 x) (hw : ∀ P H, C P H → rg_Wi P H p h → rf_sub x (H v)) (k : D → rg_Eq 12 p0 p → rg_Eq 16 h0 h → rf_sub x (h0 v) → D') : rg_SI C D' p0 h0 p (upd h v (h v ||| x)) := by
  obtain ⟨a, b, c, d, e, f⟩ := S
  refine ⟨a, rg_upMo b, c, rg_upB8 d hx, fun P H hc => ⟨(e P H hc).1, fun j hj => ?_⟩, fun q r => ?_⟩
  · by_cases z : j = v
    · subst z; rw [pk_us]; exact rf_ors ((e P H hc).2 j hj) (hw P H hc (e P H hc))
    · rw [pk_un z]; exact (e P H hc).2 j hj
  · have := rg_upE b hv r
    exact k (f q this.1) q this.1 this.2
theorem rg_opn {C : (Nat → Int32) → (Nat → Int32) → Prop} {D D' : Prop} {p0 h0 p h : Nat → Int32} (S : rg_SI C D p0 h0 p h) (k : D → rg_Eq 12 p0 p → rg_Eq 16 h0 h → D') : rg_SI C D' p0 h0 p h := by
  obtain ⟨a, b, c, d, e, f⟩ := S
  exact ⟨a, b, c, d, e, fun q r => k (f q r) q r⟩
theorem rg_op0 {C : (Nat → Int32) → (Nat → Int32) → Prop} {D : Prop} {p h : Nat → Int32} (c : rg_B8 12 p) (d : rg_B8 16 h) (e : ∀ P H, C P H → rg_Wi P H p h) (k : D) : rg_SI C D p h p h :=
  ⟨fun _ _ => rf_subr _, fun _ _ => rf_subr _, c, d, e, fun _ _ => k⟩
/-- g tells whether something was added -/
def rg_G (g : Int32) (p0 h0 p h : Nat → Int32) : Prop := g = 0 ↔ (rg_Eq 12 p0 p ∧ rg_Eq 16 h0 h)
theorem rg_upid {p : Nat → Int32} {v j : Nat} {x : Int32} (h : rf_sub x (p v)) : upd p v (p v ||| x) j = p j := by
  by_cases e : j = v
  · subst e; rw [pk_us, rf_orid h]
  · rw [pk_un e]
theorem rg_Gp {g x : Int32} {p0 h0 p h : Nat → Int32} {v : Nat} (m : rg_Mo 12 p0 p) (hv : v < 12) (G : rg_G g p0 h0 p h) : rg_G (g ||| (x &&& (p v ^^^ (-1)))) p0 h0 (upd p v (p v ||| x)) h := by
  unfold rg_G at *
  rw [rf_or0, rf_fr0, G]
  constructor
  · rintro ⟨⟨a, b⟩, c⟩
    exact ⟨fun j hj => by rw [rg_upid c]; exact a j hj, b⟩
  · rintro ⟨a, b⟩
    have := rg_upE m hv a
    exact ⟨⟨this.1, b⟩, by rw [this.1 v hv]; exact this.2⟩
theorem rg_Gh {g x : Int32} {p0 h0 p h : Nat → Int32} {v : Nat} (m : rg_Mo 16 h0 h) (hv : v < 16) (G : rg_G g p0 h0 p h) : rg_G (g ||| (x &&& (h v ^^^ (-1)))) p0 h0 p (upd h v (h v ||| x)) := by
  unfold rg_G at *
  rw [rf_or0, rf_fr0, G]
  constructor
  · rintro ⟨⟨a, b⟩, c⟩
    exact ⟨a, fun j hj => by rw [rg_upid c]; exact b j hj⟩
  · rintro ⟨a, b⟩
    have := rg_upE m hv b
    exact ⟨⟨a, this.1⟩, by rw [this.1 v hv]; exact this.2⟩
/-- what a loop in a loop has done -/
def rg_Dn (N : Nat) (Q : Nat → Nat → Prop) (i j : Nat) : Prop := ∀ a b, b < N → (a < i ∨ (a = i ∧ b < j)) → Q a b
theorem rg_Dn0 {N : Nat} {Q : Nat → Nat → Prop} : rg_Dn N Q 0 0 := fun a b _ h => by omega
theorem rg_DnS {N : Nat} {Q : Nat → Nat → Prop} {i j : Nat} (h : rg_Dn N Q i j) (q : Q i j) : rg_Dn N Q i (j + 1) := fun a b hb h' => by
  by_cases z : a = i ∧ b = j
  · rw [z.1, z.2]; exact q
  · exact h a b hb (by omega)
theorem rg_DnE {N : Nat} {Q : Nat → Nat → Prop} {i : Nat} (h : rg_Dn N Q i N) : rg_Dn N Q (i + 1) 0 := fun a b hb h' => h a b hb (by omega)
theorem rg_DnA {N M : Nat} {Q : Nat → Nat → Prop} (h : rg_Dn N Q M 0) {a b : Nat} (ha : a < M) (hb : b < N) : Q a b := h a b hb (Or.inl ha)
/-- how many sites in the first n sets -/
def rg_ct (f : Nat → Int32) : Nat → Nat
  | 0 => 0
  | n + 1 => rg_ct f n + rf_pc (f n) 8
theorem rg_ctle (f : Nat → Int32) : ∀ n, rg_ct f n ≤ 8 * n
  | 0 => Nat.le_refl _
  | n + 1 => by
    have a := rg_ctle f n
    have b := rf_pcle (f n) 8
    show rg_ct f n + _ ≤ _
    omega
theorem rg_ctm {f g : Nat → Int32} : ∀ n, rg_Mo n f g → rg_ct f n ≤ rg_ct g n
  | 0 => fun _ => Nat.le_refl _
  | n + 1 => fun m => by
    have a := rg_ctm n (fun j hj => m j (by omega))
    have b := rf_pcm (m n (by omega)) 8
    show rg_ct f n + _ ≤ rg_ct g n + _
    omega
theorem rg_cte {f g : Nat → Int32} : ∀ n, rg_Mo n f g → rg_B8 n g → rg_ct g n ≤ rg_ct f n → rg_Eq n f g
  | 0 => fun _ _ _ j hj => absurd hj (Nat.not_lt_zero j)
  | n + 1 => fun m k e j hj => by
    have e : rg_ct g n + rf_pc (g n) 8 ≤ rg_ct f n + rf_pc (f n) 8 := e
    have m' : rg_Mo n f g := fun j hj => m j (by omega)
    have a := rg_ctm n m'
    have b := rf_pcm (m n (by omega)) 8
    rcases Nat.lt_or_ge j n with z | z
    · exact rg_cte n m' (fun j hj => k j (by omega)) (by omega) j z
    · obtain rfl : j = n := by omega
      exact rf_pc8 (m j (by omega)) (k j (by omega)) (by omega)
theorem rg_ctE {f g : Nat → Int32} : ∀ n, rg_Eq n f g → rg_ct g n = rg_ct f n
  | 0 => fun _ => rfl
  | n + 1 => fun e => by
    have a := rg_ctE n (fun j hj => e j (by omega))
    show rg_ct g n + rf_pc (g n) 8 = rg_ct f n + rf_pc (f n) 8
    rw [a, e n (by omega)]
/-- a sweep that adds no site leaves all as it was -/
theorem rg_same {C : (Nat → Int32) → (Nat → Int32) → Prop} {D : Prop} {p0 h0 p h : Nat → Int32} (S : rg_SI C D p0 h0 p h) (e : rg_ct p 12 + rg_ct h 16 ≤ rg_ct p0 12 + rg_ct h0 16) : rg_Eq 12 p0 p ∧ rg_Eq 16 h0 h := by
  obtain ⟨a, b, c, d, _, _⟩ := S
  have x := rg_ctm 12 a
  have y := rg_ctm 16 b
  exact ⟨rg_cte 12 a c (by omega), rg_cte 16 b d (by omega)⟩
theorem rg_grow {C : (Nat → Int32) → (Nat → Int32) → Prop} {D : Prop} {p0 h0 p h : Nat → Int32} (S : rg_SI C D p0 h0 p h) : rg_ct p0 12 + rg_ct h0 16 ≤ rg_ct p 12 + rg_ct h 16 := by
  have x := rg_ctm 12 S.1
  have y := rg_ctm 16 S.2.1
  omega
/-- indices -/
theorem rg_lt {x : Int32} {n : Nat} (h : vp_in x n) (hn : n < 2 ^ 31) : x.toNatClampNeg < n := by
  obtain ⟨j, hj, rfl⟩ := vp_in_of h hn
  rw [nI_clamp (by omega)]; exact hj
theorem rg_slot {y : Int32} {s : Nat} (hs : s < 8) (hy : vp_in y 2) : vp_in (nI s * 2 + y) 16 ∧ (nI s * 2 + y).toNatClampNeg = s * 2 + y.toNatClampNeg := by
  obtain ⟨j, hj, rfl⟩ := vp_in_of hy (by decide)
  have e : nI s * 2 + nI j = nI (s * 2 + j) := by rw [← nI_add, ← pk_mul]; rfl
  rw [e, nI_clamp (by omega), nI_clamp (by omega)]
  exact ⟨vp_in_nI (by omega) (by omega), rfl⟩
/-- the three kinds of statement, at one place each -/
def rg_Qc (cs p : Nat → Int32) (v w : Nat) : Prop := bt (cs v) w = true → rf_sub (p w) (p v)
def rg_Ql (lt lb lf p h : Nat → Int32) (i s : Nat) : Prop := bt (p (lb i).toNatClampNeg) s = true → rf_sub (h (s * 2 + (lf i).toNatClampNeg)) (p (lt i).toNatClampNeg)
def rg_Qs (sb sf so p h : Nat → Int32) (i s : Nat) : Prop := bt (p (sb i).toNatClampNeg) s = true → rf_sub (p (so i).toNatClampNeg) (h (s * 2 + (sf i).toNatClampNeg))
/-- the statements' numbers are within -/
def rg_RL (lt lb lf : Nat → Int32) (nl : Nat) : Prop := ∀ i, i < nl → vp_in (lt i) 12 ∧ vp_in (lb i) 12 ∧ vp_in (lf i) 2
theorem rg_mk {al cs lt lb lf sb sf so p h : Nat → Int32} {nl ns : Nat} (a : ∀ v, v < 12 → rf_sub (al v) (p v)) (b : rg_Dn 12 (rg_Qc cs p) 12 0) (c : rg_Dn 8 (rg_Ql lt lb lf p h) nl 0) (d : rg_Dn 8 (rg_Qs sb sf so p h) ns 0) : rg_Cl al cs lt lb lf sb sf so nl ns p h :=
  ⟨a, fun _ _ hv hw => rg_DnA b hv hw, fun _ _ hi hs => rg_DnA c hi hs, fun _ _ hi hs => rg_DnA d hi hs⟩
theorem rg_ClE {al cs lt lb lf sb sf so p h q g : Nat → Int32} {nl ns : Nat} (hL : rg_RL lt lb lf nl) (hS : rg_RL so sb sf ns) (e : rg_Eq 12 p q) (f : rg_Eq 16 h g) (c : rg_Cl al cs lt lb lf sb sf so nl ns p h) : rg_Cl al cs lt lb lf sb sf so nl ns q g := by
  obtain ⟨c1, c2, c3, c4⟩ := c
  refine ⟨fun v hv => by rw [e v hv]; exact c1 v hv, fun v w hv hw hb => by rw [e v hv, e w hw]; exact c2 v w hv hw hb, fun i s hi hs hb => ?_, fun i s hi hs hb => ?_⟩
  · obtain ⟨a1, a2, a3⟩ := hL i hi
    have a1 := rg_lt a1 (by decide)
    have a2 := rg_lt a2 (by decide)
    have a3 := rg_lt a3 (by decide)
    rw [e _ a1, f _ (by omega)]
    rw [e _ a2] at hb
    exact c3 i s hi hs hb
  · obtain ⟨a1, a2, a3⟩ := hS i hi
    have a1 := rg_lt a1 (by decide)
    have a2 := rg_lt a2 (by decide)
    have a3 := rg_lt a3 (by decide)
    rw [e _ a1, f _ (by omega)]
    rw [e _ a2] at hb
    exact c4 i s hi hs hb
end
section
/-! ===== the component's settle ===== -/
abbrev rx_J : Type := Int32 → Int32 → Int32 → Int32 → Int32 → Int32 → Int32 → (Nat → Int32) → (Nat → Int32) → (Nat → Int32) → (Nat → Int32) → (Nat → Int32) → (Nat → Int32) → (Nat → Int32) → (Nat → Int32) → (Nat → Int32) → (Nat → Int32) → (Nat → Int32) → (Nat → Int32) → (Nat → Int32) → (Nat → Int32) → (Nat → Int32) → (Nat → Int32) → Prop
section
variable {nl ns nr nc : Nat} {oc : Int32} {vs ss cs lt lb lf sb sf so rt rv ra ap av af aw al : Nat → Int32}
theorem rx_has (post : Int32 → Prop) (x : Int32) (s : Nat) (hs : s < 32) (f : bt x s = false → post 0) (g : bt x s = true → post 1) : wpX_hasSite post ((nI nl), (nI ns), oc, (nI nr), (nI nc), vs, ss, cs, lt, lb, lf, sb, sf, so, rt, rv, ra, ap, av, af, aw) x (nI s) := rf_brX x s hs f g
theorem rx_growV (post : Int32 → SX → Prop) {v x : Int32} (hv : vp_in v 12) (k : post (x &&& (vs v.toNatClampNeg ^^^ (-1))) ((nI nl), (nI ns), oc, (nI nr), (nI nc), upd vs v.toNatClampNeg (vs v.toNatClampNeg ||| x), ss, cs, lt, lb, lf, sb, sf, so, rt, rv, ra, ap, av, af, aw)) : wpX_growVariable post ((nI nl), (nI ns), oc, (nI nr), (nI nc), vs, ss, cs, lt, lb, lf, sb, sf, so, rt, rv, ra, ap, av, af, aw) v x := ⟨hv, nm_e ⟨hv, hv, nm_r (by rw [rf_fr]) k⟩⟩
theorem rx_growS (post : Int32 → SX → Prop) {v x : Int32} (hv : vp_in v 16) (k : post (x &&& (ss v.toNatClampNeg ^^^ (-1))) ((nI nl), (nI ns), oc, (nI nr), (nI nc), vs, upd ss v.toNatClampNeg (ss v.toNatClampNeg ||| x), cs, lt, lb, lf, sb, sf, so, rt, rv, ra, ap, av, af, aw)) : wpX_growSlot post ((nI nl), (nI ns), oc, (nI nr), (nI nc), vs, ss, cs, lt, lb, lf, sb, sf, so, rt, rv, ra, ap, av, af, aw) v x := ⟨hv, nm_e ⟨hv, hv, nm_r (by rw [rf_fr]) k⟩⟩
theorem rx_c12 {E : Prop} {g0 : Int32} {p0 h0 : Nat → Int32} {post : Int32 → SX → Prop} {J4 : rx_J} {v : Nat} (hv : v < 12)
    (hJ : ∀ g p, rg_SI (rg_Cl al cs lt lb lf sb sf so nl ns) (E ∧ rg_Dn 12 (rg_Qc cs p0) (v + 1) 0) p0 h0 p ss → rg_G (g0 ||| g) p0 h0 p ss → J4 g (nI (v + 1)) (nI nl) (nI ns) oc (nI nr) (nI nc) p ss cs lt lb lf sb sf so rt rv ra ap av af aw) :
    ∀ d w g p, w + d = 12 → rg_SI (rg_Cl al cs lt lb lf sb sf so nl ns) (E ∧ rg_Dn 12 (rg_Qc cs p0) v w) p0 h0 p ss → rg_G (g0 ||| g) p0 h0 p ss → wX_spreadCopies_12 post J4 (nI v) (d + 1) g (nI w) (nI nl) (nI ns) oc (nI nr) (nI nc) p ss cs lt lb lf sb sf so rt rv ra ap av af aw := by
  intro d
  have ev : (nI v).toNatClampNeg = v := nI_clamp (by omega)
  induction d with
  | zero =>
    intro w g p hw S G
    obtain rfl : w = 12 := by omega
    exact br_t (by decide) (nm_r (nI_1 v) (hJ g p (rg_opn S fun a _ _ => ⟨a.1, rg_DnE a.2⟩) G))
  | succ d ih =>
    intro w g p hw S G
    have ew : (nI w).toNatClampNeg = w := nI_clamp (by omega)
    refine br_f (nI_ge (b := 12) (by omega) (by decide)) ⟨vp_in_nI hv (by decide), rf_brX _ w (by omega) (fun hb => ?_) (fun hb => ?_)⟩
    · rw [ev] at hb
      exact nm_r (nI_1 w) (ih (w + 1) g p (by omega) (rg_opn S fun a _ _ => ⟨a.1, rg_DnS a.2 (fun z => absurd z (by rw [hb]; decide))⟩) G)
    · rw [ev] at hb
      refine ⟨vp_in_nI (by omega) (by decide), rx_growV _ (vp_in_nI hv (by decide)) (nm_e (nm_r (nI_1 w) ?_))⟩
      rw [ev, ew]
      exact ih (w + 1) _ _ (by omega) (rg_opp S hv (S.2.2.1 w (by omega)) (fun P H hc wi => rf_subt (wi.1 w (by omega)) (hc.2.1 v w hv (by omega) hb)) (fun a q _ z => ⟨a.1, rg_DnS a.2 (fun _ => by rw [← q w (by omega)]; exact z)⟩)) (by rw [← Int32.or_assoc]; exact rg_Gp S.1 hv G)
theorem rx_c4 {E : Prop} {g0 : Int32} {p0 h0 : Nat → Int32} {post : Int32 → SX → Prop}
    (hP : ∀ g p, rg_SI (rg_Cl al cs lt lb lf sb sf so nl ns) (E ∧ rg_Dn 12 (rg_Qc cs p0) 12 0) p0 h0 p ss → rg_G (g0 ||| g) p0 h0 p ss → post g ((nI nl), (nI ns), oc, (nI nr), (nI nc), p, ss, cs, lt, lb, lf, sb, sf, so, rt, rv, ra, ap, av, af, aw)) :
    ∀ d v g p, v + d = 12 → rg_SI (rg_Cl al cs lt lb lf sb sf so nl ns) (E ∧ rg_Dn 12 (rg_Qc cs p0) v 0) p0 h0 p ss → rg_G (g0 ||| g) p0 h0 p ss → wX_spreadCopies_4 post (d + 1) g (nI v) (nI nl) (nI ns) oc (nI nr) (nI nc) p ss cs lt lb lf sb sf so rt rv ra ap av af aw := by
  intro d
  induction d with
  | zero =>
    intro v g p hv S G
    obtain rfl : v = 12 := by omega
    exact br_t (by decide) (hP g p S G)
  | succ d ih =>
    intro v g p hv S G
    exact br_f (nI_ge (b := 12) (by omega) (by decide)) ⟨13, rx_c12 (by omega) (fun g p S G => ih (v + 1) g p (by omega) S G) 12 0 g p rfl S G⟩
theorem rx_copies {E : Prop} {g0 : Int32} {p0 h0 p : Nat → Int32} {post : Int32 → SX → Prop}
    (S : rg_SI (rg_Cl al cs lt lb lf sb sf so nl ns) E p0 h0 p ss) (G : rg_G g0 p0 h0 p ss)
    (hP : ∀ g p, rg_SI (rg_Cl al cs lt lb lf sb sf so nl ns) (E ∧ rg_Dn 12 (rg_Qc cs p0) 12 0) p0 h0 p ss → rg_G (g0 ||| g) p0 h0 p ss → post g ((nI nl), (nI ns), oc, (nI nr), (nI nc), p, ss, cs, lt, lb, lf, sb, sf, so, rt, rv, ra, ap, av, af, aw)) :
    wpX_spreadCopies post ((nI nl), (nI ns), oc, (nI nr), (nI nc), p, ss, cs, lt, lb, lf, sb, sf, so, rt, rv, ra, ap, av, af, aw) :=
  ⟨13, rx_c4 hP 12 0 0 p rfl (rg_opn S fun a _ _ => ⟨a, rg_Dn0⟩) (by rw [Int32.or_zero]; exact G)⟩
theorem rx_l14 {E : Prop} {g0 : Int32} {p0 h0 : Nat → Int32} {post : Int32 → SX → Prop} {J4 : rx_J} {i : Nat} (hi : i < nl) (hn : nl ≤ 20) (hL : rg_RL lt lb lf nl)
    (hJ : ∀ g p, rg_SI (rg_Cl al cs lt lb lf sb sf so nl ns) (E ∧ rg_Dn 8 (rg_Ql lt lb lf p0 h0) (i + 1) 0) p0 h0 p ss → rg_G (g0 ||| g) p0 h0 p ss → J4 g (nI (i + 1)) (nI nl) (nI ns) oc (nI nr) (nI nc) p ss cs lt lb lf sb sf so rt rv ra ap av af aw) :
    ∀ d s g p, s + d = 8 → rg_SI (rg_Cl al cs lt lb lf sb sf so nl ns) (E ∧ rg_Dn 8 (rg_Ql lt lb lf p0 h0) i s) p0 h0 p ss → rg_G (g0 ||| g) p0 h0 p ss → wX_spreadLoads_14 post J4 (nI i) (d + 1) g (nI s) (nI nl) (nI ns) oc (nI nr) (nI nc) p ss cs lt lb lf sb sf so rt rv ra ap av af aw := by
  intro d
  have ei : (nI i).toNatClampNeg = i := nI_clamp (by omega)
  have hin : vp_in (nI i) 20 := vp_in_nI (by omega) (by decide)
  obtain ⟨r1, r2, r3⟩ := hL i hi
  have l1 := rg_lt r1 (by decide)
  have l2 := rg_lt r2 (by decide)
  have l3 := rg_lt r3 (by decide)
  induction d with
  | zero =>
    intro s g p hs S G
    obtain rfl : s = 8 := by omega
    exact br_t (by decide) (nm_r (nI_1 i) (hJ g p (rg_opn S fun a _ _ => ⟨a.1, rg_DnE a.2⟩) G))
  | succ d ih =>
    intro s g p hs S G
    have es := rg_slot (s := s) (by omega) r3
    refine br_f (nI_ge (b := 8) (by omega) (by decide)) ⟨hin, ?_⟩
    rw [ei]
    refine ⟨r2, rx_has _ _ s (by omega) (fun hb => ?_) (fun hb => ?_)⟩
    · exact br_t rfl (nm_r (nI_1 s) (ih (s + 1) g p (by omega) (rg_opn S fun a q _ => ⟨a.1, rg_DnS a.2 (fun z => absurd z (by rw [← q _ l2, hb]; decide))⟩) G))
    · refine br_f (by decide) ⟨hin, nm_e ⟨hin, es.1, rx_growV _ r1 (nm_e (nm_r (nI_1 s) ?_))⟩⟩
      rw [es.2]
      exact ih (s + 1) _ _ (by omega) (rg_opp S l1 (S.2.2.2.1 _ (by omega)) (fun P H hc wi => rf_subt (wi.2 _ (by omega)) (hc.2.2.1 i s hi (by omega) (wi.1 _ l2 _ hb))) (fun a q r z => ⟨a.1, rg_DnS a.2 (fun _ => by rw [← r _ (by omega)]; exact z)⟩)) (by rw [← Int32.or_assoc]; exact rg_Gp S.1 l1 G)
theorem rx_l4 {E : Prop} {g0 : Int32} {p0 h0 : Nat → Int32} {post : Int32 → SX → Prop} (hn : nl ≤ 20) (hL : rg_RL lt lb lf nl)
    (hP : ∀ g p, rg_SI (rg_Cl al cs lt lb lf sb sf so nl ns) (E ∧ rg_Dn 8 (rg_Ql lt lb lf p0 h0) nl 0) p0 h0 p ss → rg_G (g0 ||| g) p0 h0 p ss → post g ((nI nl), (nI ns), oc, (nI nr), (nI nc), p, ss, cs, lt, lb, lf, sb, sf, so, rt, rv, ra, ap, av, af, aw)) :
    ∀ d i g p, i + d = nl → rg_SI (rg_Cl al cs lt lb lf sb sf so nl ns) (E ∧ rg_Dn 8 (rg_Ql lt lb lf p0 h0) i 0) p0 h0 p ss → rg_G (g0 ||| g) p0 h0 p ss → wX_spreadLoads_4 post (d + 1) g (nI i) (nI nl) (nI ns) oc (nI nr) (nI nc) p ss cs lt lb lf sb sf so rt rv ra ap av af aw := by
  intro d
  induction d with
  | zero =>
    intro i g p hi S G
    obtain rfl : i = nl := by omega
    exact br_t (nI_le (Nat.le_refl _) (by omega)) (hP g p S G)
  | succ d ih =>
    intro i g p hi S G
    exact br_f (nI_ge (by omega) (by omega)) ⟨9, rx_l14 (by omega) hn hL (fun g p S G => ih (i + 1) g p (by omega) S G) 8 0 g p rfl S G⟩
theorem rx_loads {E : Prop} {g0 : Int32} {p0 h0 p : Nat → Int32} {post : Int32 → SX → Prop} (hn : nl ≤ 20) (hL : rg_RL lt lb lf nl)
    (S : rg_SI (rg_Cl al cs lt lb lf sb sf so nl ns) E p0 h0 p ss) (G : rg_G g0 p0 h0 p ss)
    (hP : ∀ g p, rg_SI (rg_Cl al cs lt lb lf sb sf so nl ns) (E ∧ rg_Dn 8 (rg_Ql lt lb lf p0 h0) nl 0) p0 h0 p ss → rg_G (g0 ||| g) p0 h0 p ss → post g ((nI nl), (nI ns), oc, (nI nr), (nI nc), p, ss, cs, lt, lb, lf, sb, sf, so, rt, rv, ra, ap, av, af, aw)) :
    wpX_spreadLoads post ((nI nl), (nI ns), oc, (nI nr), (nI nc), p, ss, cs, lt, lb, lf, sb, sf, so, rt, rv, ra, ap, av, af, aw) :=
  ⟨nl + 1, rx_l4 hn hL hP nl 0 0 p (by omega) (rg_opn S fun a _ _ => ⟨a, rg_Dn0⟩) (by rw [Int32.or_zero]; exact G)⟩
theorem rx_s14 {E : Prop} {g0 : Int32} {p0 h0 p : Nat → Int32} {post : Int32 → SX → Prop} {J4 : rx_J} {i : Nat} (hi : i < ns) (hn : ns ≤ 20) (hL : rg_RL so sb sf ns)
    (hJ : ∀ g h, rg_SI (rg_Cl al cs lt lb lf sb sf so nl ns) (E ∧ rg_Dn 8 (rg_Qs sb sf so p0 h0) (i + 1) 0) p0 h0 p h → rg_G (g0 ||| g) p0 h0 p h → J4 g (nI (i + 1)) (nI nl) (nI ns) oc (nI nr) (nI nc) p h cs lt lb lf sb sf so rt rv ra ap av af aw) :
    ∀ d s g h, s + d = 8 → rg_SI (rg_Cl al cs lt lb lf sb sf so nl ns) (E ∧ rg_Dn 8 (rg_Qs sb sf so p0 h0) i s) p0 h0 p h → rg_G (g0 ||| g) p0 h0 p h → wX_spreadStores_14 post J4 (nI i) (d + 1) g (nI s) (nI nl) (nI ns) oc (nI nr) (nI nc) p h cs lt lb lf sb sf so rt rv ra ap av af aw := by
  intro d
  have ei : (nI i).toNatClampNeg = i := nI_clamp (by omega)
  have hin : vp_in (nI i) 20 := vp_in_nI (by omega) (by decide)
  obtain ⟨r1, r2, r3⟩ := hL i hi
  have l1 := rg_lt r1 (by decide)
  have l2 := rg_lt r2 (by decide)
  have l3 := rg_lt r3 (by decide)
  induction d with
  | zero =>
    intro s g h hs S G
    obtain rfl : s = 8 := by omega
    exact br_t (by decide) (nm_r (nI_1 i) (hJ g h (rg_opn S fun a _ _ => ⟨a.1, rg_DnE a.2⟩) G))
  | succ d ih =>
    intro s g h hs S G
    have es := rg_slot (s := s) (by omega) r3
    refine br_f (nI_ge (b := 8) (by omega) (by decide)) ⟨hin, ?_⟩
    rw [ei]
    refine ⟨r2, rx_has _ _ s (by omega) (fun hb => ?_) (fun hb => ?_)⟩
    · exact br_t rfl (nm_r (nI_1 s) (ih (s + 1) g h (by omega) (rg_opn S fun a q _ => ⟨a.1, rg_DnS a.2 (fun z => absurd z (by rw [← q _ l2, hb]; decide))⟩) G))
    · refine br_f (by decide) ⟨hin, nm_e ⟨hin, r1, rx_growS _ es.1 (nm_e (nm_r (nI_1 s) ?_))⟩⟩
      rw [es.2]
      exact ih (s + 1) _ _ (by omega) (rg_oph S (by omega) (S.2.2.1 _ l1) (fun P H hc wi => rf_subt (wi.1 _ l1) (hc.2.2.2 i s hi (by omega) (wi.1 _ l2 _ hb))) (fun a q r z => ⟨a.1, rg_DnS a.2 (fun _ => by rw [← q _ l1]; exact z)⟩)) (by rw [← Int32.or_assoc]; exact rg_Gh S.2.1 (by omega) G)
theorem rx_s4 {E : Prop} {g0 : Int32} {p0 h0 p : Nat → Int32} {post : Int32 → SX → Prop} (hn : ns ≤ 20) (hL : rg_RL so sb sf ns)
    (hP : ∀ g h, rg_SI (rg_Cl al cs lt lb lf sb sf so nl ns) (E ∧ rg_Dn 8 (rg_Qs sb sf so p0 h0) ns 0) p0 h0 p h → rg_G (g0 ||| g) p0 h0 p h → post g ((nI nl), (nI ns), oc, (nI nr), (nI nc), p, h, cs, lt, lb, lf, sb, sf, so, rt, rv, ra, ap, av, af, aw)) :
    ∀ d i g h, i + d = ns → rg_SI (rg_Cl al cs lt lb lf sb sf so nl ns) (E ∧ rg_Dn 8 (rg_Qs sb sf so p0 h0) i 0) p0 h0 p h → rg_G (g0 ||| g) p0 h0 p h → wX_spreadStores_4 post (d + 1) g (nI i) (nI nl) (nI ns) oc (nI nr) (nI nc) p h cs lt lb lf sb sf so rt rv ra ap av af aw := by
  intro d
  induction d with
  | zero =>
    intro i g h hi S G
    obtain rfl : i = ns := by omega
    exact br_t (nI_le (Nat.le_refl _) (by omega)) (hP g h S G)
  | succ d ih =>
    intro i g h hi S G
    exact br_f (nI_ge (by omega) (by omega)) ⟨9, rx_s14 (by omega) hn hL (fun g h S G => ih (i + 1) g h (by omega) S G) 8 0 g h rfl S G⟩
theorem rx_stores {E : Prop} {g0 : Int32} {p0 h0 p h : Nat → Int32} {post : Int32 → SX → Prop} (hn : ns ≤ 20) (hL : rg_RL so sb sf ns)
    (S : rg_SI (rg_Cl al cs lt lb lf sb sf so nl ns) E p0 h0 p h) (G : rg_G g0 p0 h0 p h)
    (hP : ∀ g h, rg_SI (rg_Cl al cs lt lb lf sb sf so nl ns) (E ∧ rg_Dn 8 (rg_Qs sb sf so p0 h0) ns 0) p0 h0 p h → rg_G (g0 ||| g) p0 h0 p h → post g ((nI nl), (nI ns), oc, (nI nr), (nI nc), p, h, cs, lt, lb, lf, sb, sf, so, rt, rv, ra, ap, av, af, aw)) :
    wpX_spreadStores post ((nI nl), (nI ns), oc, (nI nr), (nI nc), p, h, cs, lt, lb, lf, sb, sf, so, rt, rv, ra, ap, av, af, aw) :=
  ⟨ns + 1, rx_s4 hn hL hP ns 0 0 h (by omega) (rg_opn S fun a _ _ => ⟨a, rg_Dn0⟩) (by rw [Int32.or_zero]; exact G)⟩
/-- the passes -/
theorem rx_set6 {post : SX → Prop} (hl : nl ≤ 20) (hs : ns ≤ 20) (hL : rg_RL lt lb lf nl) (hS : rg_RL so sb sf ns)
    (hP : ∀ p h, rg_Le (rg_Cl al cs lt lb lf sb sf so nl ns) p h → post ((nI nl), (nI ns), oc, (nI nr), (nI nc), p, h, cs, lt, lb, lf, sb, sf, so, rt, rv, ra, ap, av, af, aw)) :
    ∀ d k g p h, k + d = 225 → rg_B8 12 p → rg_B8 16 h → (∀ P H, rg_Cl al cs lt lb lf sb sf so nl ns P H → rg_Wi P H p h) → (∀ v, v < 12 → rf_sub (al v) (p v)) → (g = 0 → rg_Cl al cs lt lb lf sb sf so nl ns p h) → (g ≠ 0 → k ≤ rg_ct p 12 + rg_ct h 16) → wX_settle_6 post (d + 1) g (nI k) (nI nl) (nI ns) oc (nI nr) (nI nc) p h cs lt lb lf sb sf so rt rv ra ap av af aw := by
  intro d
  induction d with
  | zero =>
    intro k g p h hk b1 b2 wi a c0 c1
    obtain rfl : k = 225 := by omega
    refine br_t (by decide) (hP p h ⟨b1, b2, ?_, wi⟩)
    by_cases z : g = 0
    · exact c0 z
    · have x := c1 z
      have y := rg_ctle p 12
      have y' := rg_ctle h 16
      omega
  | succ d ih =>
    intro k g p h hk b1 b2 wi a c0 c1
    refine br_f (nI_ge (b := 225) (by omega) (by decide)) (br_c (fun z => hP p h ⟨b1, b2, c0 z, wi⟩) (fun z => ?_))
    have c := c1 z
    refine rx_copies (E := True) (g0 := 0) (rg_op0 b1 b2 wi trivial) ⟨fun _ => ⟨fun _ _ => rfl, fun _ _ => rfl⟩, fun _ => rfl⟩ (fun g1 p1 S1 G1 => ?_)
    refine rx_loads hl hL S1 G1 (fun g2 p2 S2 G2 => nm_e ?_)
    refine rx_stores hs hS S2 G2 (fun g3 h3 S3 G3 => nm_e (nm_r (nI_1 k) ?_))
    rw [Int32.zero_or] at G3
    refine ih (k + 1) _ p2 h3 (by omega) S3.2.2.1 S3.2.2.2.1 S3.2.2.2.2.1 (fun v hv => rf_subt (a v hv) (S3.1 v hv)) (fun z => ?_) (fun z => ?_)
    · have e := G3.mp z
      have D := S3.2.2.2.2.2 e.1 e.2
      exact rg_ClE hL hS e.1 e.2 (rg_mk a D.1.1.2 D.1.2 D.2)
    · have x := rg_grow S3
      rcases Nat.lt_or_ge (rg_ct p 12 + rg_ct h 16) (rg_ct p2 12 + rg_ct h3 16) with y | y
      · omega
      · exact absurd (G3.mpr (rg_same S3 y)) z
theorem rx_settle {post : SX → Prop} (hl : nl ≤ 20) (hs : ns ≤ 20) (hL : rg_RL lt lb lf nl) (hS : rg_RL so sb sf ns)
    (b1 : rg_B8 12 vs) (b2 : rg_B8 16 ss) (wi : ∀ P H, rg_Cl al cs lt lb lf sb sf so nl ns P H → rg_Wi P H vs ss) (a : ∀ v, v < 12 → rf_sub (al v) (vs v))
    (hP : ∀ p h, rg_Le (rg_Cl al cs lt lb lf sb sf so nl ns) p h → post ((nI nl), (nI ns), oc, (nI nr), (nI nc), p, h, cs, lt, lb, lf, sb, sf, so, rt, rv, ra, ap, av, af, aw)) : wpX_settle post ((nI nl), (nI ns), oc, (nI nr), (nI nc), vs, ss, cs, lt, lb, lf, sb, sf, so, rt, rv, ra, ap, av, af, aw) :=
  ⟨226, rx_set6 hl hs hL hS hP 225 0 255 vs ss rfl b1 b2 wi a (fun z => absurd z (by decide)) (fun _ => Nat.zero_le _)⟩
theorem rx_cnt4 {post : Int32 → Prop} (x : Int32) (hP : post (nI (rf_pc x 8))) : ∀ d s, s + d = 8 → wX_countSites_4 post x (nI nl) (nI ns) oc (nI nr) (nI nc) vs ss cs lt lb lf sb sf so rt rv ra ap av af aw (d + 1) (nI (rf_pc x s)) (nI s) := by
  intro d
  induction d with
  | zero =>
    intro s hs
    obtain rfl : s = 8 := by omega
    exact br_t (by decide) hP
  | succ d ih =>
    intro s hs
    exact br_f (nI_ge (b := 8) (by omega) (by decide)) (nm_r (by rw [rf_tX x s (by omega), nI_add]; rfl) (nm_r (nI_1 s) (ih (s + 1) (by omega))))
theorem rx_cnt {post : Int32 → Prop} (x : Int32) (hP : post (nI (rf_pc x 8))) : wpX_countSites post ((nI nl), (nI ns), oc, (nI nr), (nI nc), vs, ss, cs, lt, lb, lf, sb, sf, so, rt, rv, ra, ap, av, af, aw) x := ⟨9, rx_cnt4 x hP 8 0 rfl⟩
end
end
section
/-! ===== the reference's workOut ===== -/
abbrev ry_J : Type := Int32 → (Nat → Int32) → (Nat → Int32) → (Nat → Int32) → (Nat → Int32) → (Nat → Int32) → (Nat → Int32) → (Nat → Int32) → (Nat → Int32) → (Nat → Int32) → (Nat → Int32) → (Nat → Int32) → (Nat → Int32) → (Nat → Int32) → (Nat → Int32) → (Nat → Int32) → (Nat → Int32) → (Nat → Int32) → (Nat → Int32) → (Nat → Int32) → (Nat → Int32) → Prop
def ry_Da (al p0 : Nat → Int32) (v : Nat) : Prop := ∀ j, j < v → rf_sub (al j) (p0 j)
section
variable {nl ns nr nc : Nat} {kn : Int32} {al cs lt lb lf sb so sf sg rt rv ra ap av af aw p h sp rch vs ss : Nat → Int32}
theorem ry_29 {E : Prop} {p0 h0 : Nat → Int32} {post : SY → Prop} {J2 : ry_J} {v : Nat} (hv : v < 12)
    (hJ : ∀ p, rg_SI (rg_Cl al cs lt lb lf sb sf so nl ns) (E ∧ rg_Dn 12 (rg_Qc cs p0) (v + 1) 0) p0 h0 p h → J2 (nI (v + 1)) al cs lt lb lf sb so sf sg rt rv ra ap av af aw p h sp rch) :
    ∀ d w p, w + d = 12 → rg_SI (rg_Cl al cs lt lb lf sb sf so nl ns) (E ∧ rg_Dn 12 (rg_Qc cs p0) v w) p0 h0 p h → wY_sweep_29 post J2 (nI v) (nI nl) (nI ns) (nI nr) (nI nc) kn (d + 1) (nI w) al cs lt lb lf sb so sf sg rt rv ra ap av af aw p h sp rch := by
  intro d
  have ev : (nI v).toNatClampNeg = v := nI_clamp (by omega)
  have hin : vp_in (nI v) 12 := vp_in_nI hv (by decide)
  induction d with
  | zero =>
    intro w p hw S
    obtain rfl : w = 12 := by omega
    exact br_t (by decide) (nm_r (nI_1 v) (hJ p (rg_opn S fun a _ _ => ⟨a.1, rg_DnE a.2⟩)))
  | succ d ih =>
    intro w p hw S
    have ew : (nI w).toNatClampNeg = w := nI_clamp (by omega)
    refine br_f (nI_ge (b := 12) (by omega) (by decide)) ⟨hin, ?_⟩
    rw [ev, ew]
    refine rf_brY _ w (by omega) (fun hb => ?_) (fun hb => ?_)
    · exact ⟨hin, vp_in_nI (by omega) (by decide), hin, nm_e (nm_r (nI_1 w) (ih (w + 1) _ (by omega) (rg_opp S hv (S.2.2.1 w (by omega)) (fun P H hc wi => rf_subt (wi.1 w (by omega)) (hc.2.1 v w hv (by omega) hb)) (fun a q _ z => ⟨a.1, rg_DnS a.2 (fun _ => by rw [← q w (by omega)]; exact z)⟩))))⟩
    · exact nm_r (nI_1 w) (ih (w + 1) p (by omega) (rg_opn S fun a _ _ => ⟨a.1, rg_DnS a.2 (fun z => absurd z (by rw [hb]; decide))⟩))
theorem ry_2 {p0 h0 : Nat → Int32} {post : SY → Prop} (hA : ∀ v, v < 12 → rf_b8 (al v))
    (hP : ∀ p, rg_SI (rg_Cl al cs lt lb lf sb sf so nl ns) (ry_Da al p0 12 ∧ rg_Dn 12 (rg_Qc cs p0) 12 0) p0 h0 p h → ∃ n, wY_sweep_82 post (nI nl) (nI ns) (nI nr) (nI nc) kn n 0 al cs lt lb lf sb so sf sg rt rv ra ap av af aw p h sp rch) :
    ∀ d v p, v + d = 12 → rg_SI (rg_Cl al cs lt lb lf sb sf so nl ns) (ry_Da al p0 v ∧ rg_Dn 12 (rg_Qc cs p0) v 0) p0 h0 p h → wY_sweep_2 post (nI nl) (nI ns) (nI nr) (nI nc) kn (d + 1) (nI v) al cs lt lb lf sb so sf sg rt rv ra ap av af aw p h sp rch := by
  intro d
  induction d with
  | zero =>
    intro v p hv S
    obtain rfl : v = 12 := by omega
    exact br_t (by decide) (hP p S)
  | succ d ih =>
    intro v p hv S
    have ev : (nI v).toNatClampNeg = v := nI_clamp (by omega)
    have hin : vp_in (nI v) 12 := vp_in_nI (by omega) (by decide)
    refine br_f (nI_ge (b := 12) (by omega) (by decide)) ⟨hin, hin, hin, ?_⟩
    rw [ev]
    refine nm_e ⟨13, ry_29 (E := ry_Da al p0 (v + 1)) (by omega) (fun p S => ih (v + 1) p (by omega) S) 12 0 _ rfl ?_⟩
    exact rg_opp S (by omega) (hA v (by omega)) (fun P H hc _ => hc.1 v (by omega)) (fun a _ _ z => ⟨fun j hj => by
      by_cases e : j = v
      · rw [e]; exact z
      · exact a.1 j (by omega), a.2⟩)
theorem ry_92 {E : Prop} {p0 h0 : Nat → Int32} {post : SY → Prop} {J : ry_J} {i : Nat} (hi : i < nl) (hn : nl ≤ 20) (hL : rg_RL lt lb lf nl)
    (hJ : ∀ p, rg_SI (rg_Cl al cs lt lb lf sb sf so nl ns) (E ∧ rg_Dn 8 (rg_Ql lt lb lf p0 h0) (i + 1) 0) p0 h0 p h → J (nI (i + 1)) al cs lt lb lf sb so sf sg rt rv ra ap av af aw p h sp rch) :
    ∀ d s p, s + d = 8 → rg_SI (rg_Cl al cs lt lb lf sb sf so nl ns) (E ∧ rg_Dn 8 (rg_Ql lt lb lf p0 h0) i s) p0 h0 p h → wY_sweep_92 post J (nI i) (nI nl) (nI ns) (nI nr) (nI nc) kn (d + 1) (nI s) al cs lt lb lf sb so sf sg rt rv ra ap av af aw p h sp rch := by
  intro d
  have ei : (nI i).toNatClampNeg = i := nI_clamp (by omega)
  have hin : vp_in (nI i) 20 := vp_in_nI (by omega) (by decide)
  obtain ⟨r1, r2, r3⟩ := hL i hi
  have l1 := rg_lt r1 (by decide)
  have l2 := rg_lt r2 (by decide)
  have l3 := rg_lt r3 (by decide)
  induction d with
  | zero =>
    intro s p hs S
    obtain rfl : s = 8 := by omega
    exact br_t (by decide) (nm_r (nI_1 i) (hJ p (rg_opn S fun a _ _ => ⟨a.1, rg_DnE a.2⟩)))
  | succ d ih =>
    intro s p hs S
    have es := rg_slot (s := s) (by omega) r3
    refine br_f (nI_ge (b := 8) (by omega) (by decide)) ⟨hin, ?_⟩
    rw [ei]
    refine ⟨r2, rf_brY _ s (by omega) (fun hb => ?_) (fun hb => ?_)⟩
    · refine ⟨hin, hin, r1, hin, es.1, r1, ?_⟩
      rw [es.2]
      exact nm_e (nm_r (nI_1 s) (ih (s + 1) _ (by omega) (rg_opp S l1 (S.2.2.2.1 _ (by omega)) (fun P H hc wi => rf_subt (wi.2 _ (by omega)) (hc.2.2.1 i s hi (by omega) (wi.1 _ l2 _ hb))) (fun a q r z => ⟨a.1, rg_DnS a.2 (fun _ => by rw [← r _ (by omega)]; exact z)⟩))))
    · exact nm_r (nI_1 s) (ih (s + 1) p (by omega) (rg_opn S fun a q _ => ⟨a.1, rg_DnS a.2 (fun z => absurd z (by rw [← q _ l2, hb]; decide))⟩))
theorem ry_82 {E : Prop} {p0 h0 : Nat → Int32} {post : SY → Prop} (hn : nl ≤ 20) (hL : rg_RL lt lb lf nl)
    (hP : ∀ p, rg_SI (rg_Cl al cs lt lb lf sb sf so nl ns) (E ∧ rg_Dn 8 (rg_Ql lt lb lf p0 h0) nl 0) p0 h0 p h → ∃ n, wY_sweep_169 post (nI nl) (nI ns) (nI nr) (nI nc) kn n 0 al cs lt lb lf sb so sf sg rt rv ra ap av af aw p h sp rch) :
    ∀ d i p, i + d = nl → rg_SI (rg_Cl al cs lt lb lf sb sf so nl ns) (E ∧ rg_Dn 8 (rg_Ql lt lb lf p0 h0) i 0) p0 h0 p h → wY_sweep_82 post (nI nl) (nI ns) (nI nr) (nI nc) kn (d + 1) (nI i) al cs lt lb lf sb so sf sg rt rv ra ap av af aw p h sp rch := by
  intro d
  induction d with
  | zero =>
    intro i p hi S
    obtain rfl : i = nl := by omega
    exact br_t (nI_le (Nat.le_refl _) (by omega)) (hP p S)
  | succ d ih =>
    intro i p hi S
    exact br_f (nI_ge (by omega) (by omega)) ⟨9, ry_92 (by omega) hn hL (fun p S => ih (i + 1) p (by omega) S) 8 0 p rfl S⟩
theorem ry_179 {E : Prop} {p0 h0 : Nat → Int32} {post : SY → Prop} {J : ry_J} {i : Nat} (hi : i < ns) (hn : ns ≤ 20) (hL : rg_RL so sb sf ns)
    (hJ : ∀ h, rg_SI (rg_Cl al cs lt lb lf sb sf so nl ns) (E ∧ rg_Dn 8 (rg_Qs sb sf so p0 h0) (i + 1) 0) p0 h0 p h → J (nI (i + 1)) al cs lt lb lf sb so sf sg rt rv ra ap av af aw p h sp rch) :
    ∀ d s h, s + d = 8 → rg_SI (rg_Cl al cs lt lb lf sb sf so nl ns) (E ∧ rg_Dn 8 (rg_Qs sb sf so p0 h0) i s) p0 h0 p h → wY_sweep_179 post J (nI i) (nI nl) (nI ns) (nI nr) (nI nc) kn (d + 1) (nI s) al cs lt lb lf sb so sf sg rt rv ra ap av af aw p h sp rch := by
  intro d
  have ei : (nI i).toNatClampNeg = i := nI_clamp (by omega)
  have hin : vp_in (nI i) 20 := vp_in_nI (by omega) (by decide)
  obtain ⟨r1, r2, r3⟩ := hL i hi
  have l1 := rg_lt r1 (by decide)
  have l2 := rg_lt r2 (by decide)
  have l3 := rg_lt r3 (by decide)
  induction d with
  | zero =>
    intro s h hs S
    obtain rfl : s = 8 := by omega
    exact br_t (by decide) (nm_r (nI_1 i) (hJ h (rg_opn S fun a _ _ => ⟨a.1, rg_DnE a.2⟩)))
  | succ d ih =>
    intro s h hs S
    have es := rg_slot (s := s) (by omega) r3
    refine br_f (nI_ge (b := 8) (by omega) (by decide)) ⟨hin, ?_⟩
    rw [ei]
    refine ⟨r2, rf_brY _ s (by omega) (fun hb => ?_) (fun hb => ?_)⟩
    · refine ⟨hin, hin, es.1, hin, r1, es.1, ?_⟩
      rw [es.2]
      exact nm_e (nm_r (nI_1 s) (ih (s + 1) _ (by omega) (rg_oph S (by omega) (S.2.2.1 _ l1) (fun P H hc wi => rf_subt (wi.1 _ l1) (hc.2.2.2 i s hi (by omega) (wi.1 _ l2 _ hb))) (fun a q r z => ⟨a.1, rg_DnS a.2 (fun _ => by rw [← q _ l1]; exact z)⟩))))
    · exact nm_r (nI_1 s) (ih (s + 1) h (by omega) (rg_opn S fun a q _ => ⟨a.1, rg_DnS a.2 (fun z => absurd z (by rw [← q _ l2, hb]; decide))⟩))
theorem ry_169 {E : Prop} {p0 h0 : Nat → Int32} {post : SY → Prop} (hn : ns ≤ 20) (hL : rg_RL so sb sf ns)
    (hP : ∀ h, rg_SI (rg_Cl al cs lt lb lf sb sf so nl ns) (E ∧ rg_Dn 8 (rg_Qs sb sf so p0 h0) ns 0) p0 h0 p h → post ((nI nl), (nI ns), (nI nr), (nI nc), kn, al, cs, lt, lb, lf, sb, so, sf, sg, rt, rv, ra, ap, av, af, aw, p, h, sp, rch)) :
    ∀ d i h, i + d = ns → rg_SI (rg_Cl al cs lt lb lf sb sf so nl ns) (E ∧ rg_Dn 8 (rg_Qs sb sf so p0 h0) i 0) p0 h0 p h → wY_sweep_169 post (nI nl) (nI ns) (nI nr) (nI nc) kn (d + 1) (nI i) al cs lt lb lf sb so sf sg rt rv ra ap av af aw p h sp rch := by
  intro d
  induction d with
  | zero =>
    intro i h hi S
    obtain rfl : i = ns := by omega
    exact br_t (nI_le (Nat.le_refl _) (by omega)) (hP h S)
  | succ d ih =>
    intro i h hi S
    exact br_f (nI_ge (by omega) (by omega)) ⟨9, ry_179 (by omega) hn hL (fun h S => ih (i + 1) h (by omega) S) 8 0 h rfl S⟩
theorem ry_sweep {post : SY → Prop} (hl : nl ≤ 20) (hs : ns ≤ 20) (hL : rg_RL lt lb lf nl) (hS : rg_RL so sb sf ns) (hA : ∀ v, v < 12 → rf_b8 (al v))
    (b1 : rg_B8 12 p) (b2 : rg_B8 16 h) (wi : ∀ P H, rg_Cl al cs lt lb lf sb sf so nl ns P H → rg_Wi P H p h)
    (hP : ∀ q g, rg_SI (rg_Cl al cs lt lb lf sb sf so nl ns) (((ry_Da al p 12 ∧ rg_Dn 12 (rg_Qc cs p) 12 0) ∧ rg_Dn 8 (rg_Ql lt lb lf p h) nl 0) ∧ rg_Dn 8 (rg_Qs sb sf so p h) ns 0) p h q g → post ((nI nl), (nI ns), (nI nr), (nI nc), kn, al, cs, lt, lb, lf, sb, so, sf, sg, rt, rv, ra, ap, av, af, aw, q, g, sp, rch)) :
    wpY_sweep post ((nI nl), (nI ns), (nI nr), (nI nc), kn, al, cs, lt, lb, lf, sb, so, sf, sg, rt, rv, ra, ap, av, af, aw, p, h, sp, rch) :=
  ⟨13, ry_2 hA (fun q S => ⟨nl + 1, ry_82 hl hL (fun q S => ⟨ns + 1, ry_169 hs hS (fun g S => hP q g S) ns 0 h (by omega) (rg_opn S fun a _ _ => ⟨a, rg_Dn0⟩)⟩) nl 0 q (by omega) (rg_opn S fun a _ _ => ⟨a, rg_Dn0⟩)⟩) 12 0 p rfl (rg_op0 b1 b2 wi ⟨fun j hj => absurd hj (Nat.not_lt_zero j), rg_Dn0⟩)⟩
theorem ry_size4 {post : Int32 → Prop} (x : Int32) (hP : post (nI (rf_pc x 8))) : ∀ d s, s + d = 8 → wY_size_4 post x (nI nl) (nI ns) (nI nr) (nI nc) kn al cs lt lb lf sb so sf sg rt rv ra ap av af aw p h sp rch (d + 1) (nI (rf_pc x s)) (nI s) := by
  intro d
  induction d with
  | zero =>
    intro s hs
    obtain rfl : s = 8 := by omega
    exact br_t (by decide) hP
  | succ d ih =>
    intro s hs
    exact br_f (nI_ge (b := 8) (by omega) (by decide)) (nm_r (by rw [rf_tY x s (by omega), nI_add]; rfl) (nm_r (nI_1 s) (ih (s + 1) (by omega))))
theorem ry_size {post : Int32 → Prop} (x : Int32) (hP : post (nI (rf_pc x 8))) : wpY_size post ((nI nl), (nI ns), (nI nr), (nI nc), kn, al, cs, lt, lb, lf, sb, so, sf, sg, rt, rv, ra, ap, av, af, aw, p, h, sp, rch) x := ⟨9, ry_size4 x hP 8 0 rfl⟩
theorem ry_t33 {post : Int32 → Prop} {a : Nat} (hP : post (nI (a + rg_ct h 16))) : ∀ d i, i + d = 16 → wY_total_33 post (nI nl) (nI ns) (nI nr) (nI nc) kn al cs lt lb lf sb so sf sg rt rv ra ap av af aw p h sp rch (d + 1) (nI (a + rg_ct h i)) (nI i) := by
  intro d
  induction d with
  | zero =>
    intro i hi
    obtain rfl : i = 16 := by omega
    exact br_t (by decide) hP
  | succ d ih =>
    intro i hi
    have ei : (nI i).toNatClampNeg = i := nI_clamp (by omega)
    refine br_f (nI_ge (b := 16) (by omega) (by decide)) ⟨vp_in_nI (by omega) (by decide), ?_⟩
    rw [ei]
    exact ry_size _ (nm_r (by rw [nI_add, Nat.add_assoc]; rfl) (nm_r (nI_1 i) (ih (i + 1) (by omega))))
theorem ry_t4 {post : Int32 → Prop} (hP : post (nI (rg_ct p 12 + rg_ct h 16))) : ∀ d i, i + d = 12 → wY_total_4 post (nI nl) (nI ns) (nI nr) (nI nc) kn al cs lt lb lf sb so sf sg rt rv ra ap av af aw p h sp rch (d + 1) (nI (rg_ct p i)) (nI i) := by
  intro d
  induction d with
  | zero =>
    intro i hi
    obtain rfl : i = 12 := by omega
    exact br_t (by decide) ⟨17, ry_t33 hP 16 0 rfl⟩
  | succ d ih =>
    intro i hi
    have ei : (nI i).toNatClampNeg = i := nI_clamp (by omega)
    refine br_f (nI_ge (b := 12) (by omega) (by decide)) ⟨vp_in_nI (by omega) (by decide), ?_⟩
    rw [ei]
    exact ry_size _ (nm_r (by rw [nI_add]; rfl) (nm_r (nI_1 i) (ih (i + 1) (by omega))))
theorem ry_total {post : Int32 → Prop} (hP : post (nI (rg_ct p 12 + rg_ct h 16))) : wpY_total post ((nI nl), (nI ns), (nI nr), (nI nc), kn, al, cs, lt, lb, lf, sb, so, sf, sg, rt, rv, ra, ap, av, af, aw, p, h, sp, rch) := ⟨13, ry_t4 hP 12 0 rfl⟩
theorem ry_61 {post : SY → Prop} (hl : nl ≤ 20) (hs : ns ≤ 20) (hL : rg_RL lt lb lf nl) (hS : rg_RL so sb sf ns) (hA : ∀ v, v < 12 → rf_b8 (al v))
    (hP : ∀ p h, rg_Le (rg_Cl al cs lt lb lf sb sf so nl ns) p h → post ((nI nl), (nI ns), (nI nr), (nI nc), kn, al, cs, lt, lb, lf, sb, so, sf, sg, rt, rv, ra, ap, av, af, aw, p, h, sp, rch)) :
    ∀ d k bf p h, k + d = 226 → rg_B8 12 p → rg_B8 16 h → (∀ P H, rg_Cl al cs lt lb lf sb sf so nl ns P H → rg_Wi P H p h) →
    ((k = 0 ∧ bf = -1) ∨ ∃ b, bf = nI b ∧ b ≤ rg_ct p 12 + rg_ct h 16 ∧ (b = rg_ct p 12 + rg_ct h 16 → rg_Cl al cs lt lb lf sb sf so nl ns p h) ∧ (b ≠ rg_ct p 12 + rg_ct h 16 → k ≤ rg_ct p 12 + rg_ct h 16)) →
    wY_workOut_61 post (d + 1) bf (nI (rg_ct p 12 + rg_ct h 16)) (nI k) (nI nl) (nI ns) (nI nr) (nI nc) kn al cs lt lb lf sb so sf sg rt rv ra ap av af aw p h sp rch := by
  intro d
  induction d with
  | zero =>
    intro k bf p h hk b1 b2 wi hb
    obtain rfl : k = 226 := by omega
    refine br_t (by decide) (hP p h ⟨b1, b2, ?_, wi⟩)
    rcases hb with hb | ⟨b, _, _, c, e⟩
    · omega
    · by_cases z : b = rg_ct p 12 + rg_ct h 16
      · exact c z
      · have x := e z
        have y := rg_ctle p 12
        have y' := rg_ctle h 16
        omega
  | succ d ih =>
    intro k bf p h hk b1 b2 wi hb
    have y := rg_ctle p 12
    have y' := rg_ctle h 16
    refine br_f (nI_ge (b := 226) (by omega) (by decide)) (br_c (fun z => hP p h ⟨b1, b2, ?_, wi⟩) (fun z => ?_))
    · rcases hb with ⟨_, hb⟩ | ⟨b, hb, _, c, _⟩
      · exact absurd (show nI (rg_ct p 12 + rg_ct h 16) < 0 by rw [z, hb]; decide) (nI_pos (by omega))
      · rw [hb, nI_eq (by omega) (by omega)] at z
        exact c z.symm
    · have hk' : k ≤ rg_ct p 12 + rg_ct h 16 := by
        rcases hb with ⟨hb, _⟩ | ⟨b, hb, _, _, e⟩
        · omega
        · exact e (fun q => z (by rw [hb, q]))
      refine ry_sweep hl hs hL hS hA b1 b2 wi (fun q g S => ry_total (nm_r (nI_1 k) ?_))
      refine ih (k + 1) _ q g (by omega) S.2.2.1 S.2.2.2.1 S.2.2.2.2.1 (Or.inr ⟨_, rfl, rg_grow S, fun e => ?_, fun e => ?_⟩)
      · have E := rg_same S (by omega)
        have D := S.2.2.2.2.2 E.1 E.2
        exact rg_ClE hL hS E.1 E.2 (rg_mk D.1.1.1 D.1.1.2 D.1.2 D.2)
      · have x := rg_grow S
        omega
theorem ry_36 {post : SY → Prop} (hP : ∀ h, (∀ j, j < 16 → h j = 0) → ∃ n, wY_workOut_61 post n (-1) 0 0 (nI nl) (nI ns) (nI nr) (nI nc) kn al cs lt lb lf sb so sf sg rt rv ra ap av af aw p h sp rch) : ∀ d i h, i + d = 16 → (∀ j, j < i → h j = 0) → wY_workOut_36 post (nI nl) (nI ns) (nI nr) (nI nc) kn (d + 1) (nI i) al cs lt lb lf sb so sf sg rt rv ra ap av af aw p h sp rch := by
  intro d
  induction d with
  | zero =>
    intro i h hi k
    obtain rfl : i = 16 := by omega
    exact br_t (by decide) (hP h k)
  | succ d ih =>
    intro i h hi k
    have ei : (nI i).toNatClampNeg = i := nI_clamp (by omega)
    refine br_f (nI_ge (b := 16) (by omega) (by decide)) ⟨vp_in_nI (by omega) (by decide), ?_⟩
    rw [ei]
    exact nm_e (nm_r (nI_1 i) (ih (i + 1) _ (by omega) (fun j hj => by
      by_cases e : j = i
      · rw [e, pk_us]
      · rw [pk_un e]; exact k j (by omega))))
theorem ry_15 {post : SY → Prop} (hP : ∀ p, (∀ j, j < 12 → p j = 0) → ∃ n, wY_workOut_36 post (nI nl) (nI ns) (nI nr) (nI nc) kn n 0 al cs lt lb lf sb so sf sg rt rv ra ap av af aw p h sp rch) : ∀ d i p, i + d = 12 → (∀ j, j < i → p j = 0) → wY_workOut_15 post (nI nl) (nI ns) (nI nr) (nI nc) kn (d + 1) (nI i) al cs lt lb lf sb so sf sg rt rv ra ap av af aw p h sp rch := by
  intro d
  induction d with
  | zero =>
    intro i p hi k
    obtain rfl : i = 12 := by omega
    exact br_t (by decide) (hP p k)
  | succ d ih =>
    intro i p hi k
    have ei : (nI i).toNatClampNeg = i := nI_clamp (by omega)
    refine br_f (nI_ge (b := 12) (by omega) (by decide)) ⟨vp_in_nI (by omega) (by decide), ?_⟩
    rw [ei]
    exact nm_e (nm_r (nI_1 i) (ih (i + 1) _ (by omega) (fun j hj => by
      by_cases e : j = i
      · rw [e, pk_us]
      · rw [pk_un e]; exact k j (by omega))))
theorem ry_ct0 {f : Nat → Int32} : ∀ n, (∀ j, j < n → f j = 0) → rg_ct f n = 0
  | 0 => fun _ => rfl
  | n + 1 => fun k => by
    show rg_ct f n + rf_pc (f n) 8 = 0
    rw [ry_ct0 n (fun j hj => k j (by omega)), k n (by omega)]
    decide +kernel
/-- from related states workOut ends with the smallest sets -/
theorem ry_work {post : SY → Prop} (hl : nl ≤ 20) (hs : ns ≤ 20) (hL : rg_RL lt lb lf nl) (hS : rg_RL so sb sf ns)
    (K : kn ≠ 0 → rg_Eq 12 vs p ∧ rg_Eq 16 ss h) (L : rg_Le (rg_Cl al cs lt lb lf sb sf so nl ns) vs ss)
    (hP : ∀ kn p h, kn ≠ 0 → rg_Eq 12 vs p → rg_Eq 16 ss h → post ((nI nl), (nI ns), (nI nr), (nI nc), kn, al, cs, lt, lb, lf, sb, so, sf, sg, rt, rv, ra, ap, av, af, aw, p, h, sp, rch)) : wpY_workOut post ((nI nl), (nI ns), (nI nr), (nI nc), kn, al, cs, lt, lb, lf, sb, so, sf, sg, rt, rv, ra, ap, av, af, aw, p, h, sp, rch) := by
  have hA : ∀ v, v < 12 → rf_b8 (al v) := fun v hv t ht => by
    cases e : bt (al v) t
    · rfl
    · rw [← L.1 v hv t ht]; exact (L.2.2.1.1 v hv t e).symm
  refine br_c (fun _ => ⟨13, ry_15 (fun p k1 => ⟨17, ry_36 (fun h k2 => ⟨227, ?_⟩) 16 0 h rfl (fun j hj => absurd hj (Nat.not_lt_zero j))⟩) 12 0 p rfl (fun j hj => absurd hj (Nat.not_lt_zero j))⟩) (fun z => hP kn p h z (K z).1 (K z).2)
  have e : (0 : Int32) = nI (rg_ct p 12 + rg_ct h 16) := by rw [ry_ct0 12 k1, ry_ct0 16 k2]; rfl
  have t := ry_61 (kn := 1) (nr := nr) (nc := nc) (sg := sg) (rt := rt) (rv := rv) (ra := ra) (ap := ap) (av := av) (af := af) (aw := aw) (sp := sp) (rch := rch) (post := post) hl hs hL hS hA (fun p h M => hP 1 p h (by decide) (rg_uniq M L).1 (rg_uniq M L).2) 226 0 (-1) p h rfl (fun j hj => by rw [k1 j hj]; exact rf_b80) (fun j hj => by rw [k2 j hj]; exact rf_b80) (fun P H _ => ⟨fun j hj => by rw [k1 j hj]; exact rf_sub0 _, fun j hj => by rw [k2 j hj]; exact rf_sub0 _⟩) (Or.inl ⟨rfl, rfl⟩)
  rw [← e] at t
  exact t
end
end
section
/-! ===== the relation; tests of numbers ===== -/
def rr_R (rt rv ra : Nat → Int32) (nr : Nat) : Prop := ∀ i, i < nr → vp_in (rv i) 12 ∧ (ra i < 0 ∨ vp_in (ra i) nr) ∧ vp_in (rt i) 4
def rr_A (ap av : Nat → Int32) (nr nc : Nat) : Prop := ∀ i, i < nc → vp_in (ap i) (4 + nr) ∧ vp_in (av i) 12
def rr_O (oc : Int32) (sg : Nat → Int32) : Prop := ∀ s, s < 8 → (bt oc s = true ↔ sg s ≠ 0)
def rr_F (nl ns nr nc : Nat) (oc kn : Int32) (vs ss cs lt lb lf sb sf so rt rv ra ap av al sg p h : Nat → Int32) : Prop :=
  nl ≤ 20 ∧ ns ≤ 20 ∧ nr ≤ 12 ∧ nc ≤ 16 ∧ rg_RL lt lb lf nl ∧ rg_RL so sb sf ns ∧ rr_O oc sg ∧ rr_R rt rv ra nr ∧ rr_A ap av nr nc ∧ rg_Le (rg_Cl al cs lt lb lf sb sf so nl ns) vs ss ∧ (kn ≠ 0 → rg_Eq 12 vs p ∧ rg_Eq 16 ss h)
def i_Rel (k : Nat) (u : SX) (v : SY) : Prop :=
  ∃ (nl ns nr nc : Nat) (oc kn : Int32) (vs ss cs lt lb lf sb sf so rt rv ra ap av af aw al sg p h sp rch : Nat → Int32),
    u = ((nI nl), (nI ns), oc, (nI nr), (nI nc), vs, ss, cs, lt, lb, lf, sb, sf, so, rt, rv, ra, ap, av, af, aw) ∧ v = ((nI nl), (nI ns), (nI nr), (nI nc), kn, al, cs, lt, lb, lf, sb, so, sf, sg, rt, rv, ra, ap, av, af, aw, p, h, sp, rch) ∧ rr_F nl ns nr nc oc kn vs ss cs lt lb lf sb sf so rt rv ra ap av al sg p h
def rr_bad (n : Nat) (v : Int32) : Prop := v < 0 ∨ nI n ≤ v
theorem rr_cs (n : Nat) (v : Int32) (hn : n < 2 ^ 31) : rr_bad n v ∨ ∃ j : Nat, j < n ∧ v = nI j := by
  rcases pk_ix v hn with a | a | a
  · exact Or.inl (Or.inl a)
  · exact Or.inl (Or.inr a)
  · exact Or.inr a
theorem rr_nb {n j : Nat} (hn : n < 2 ^ 31) (h : j < n) : ¬ rr_bad n (nI j) := by
  rintro (a | a)
  · exact nI_pos (by omega) a
  · exact nI_ge h hn a
theorem rr_gt {v M N : Int32} (h : N ≤ v) (hM : M.toInt < N.toInt) : ¬ v ≤ M := by
  rw [Int32.le_iff_toInt_le] at *
  omega
theorem rr_vb0 : vp_nar .boolean 0 = 0 := rfl
theorem rr_vb1 : vp_nar .boolean 1 = 1 := rfl
section
variable {nl ns nr nc : Nat} {oc kn : Int32} {vs ss cs lt lb lf sb sf so rt rv ra ap av af aw al sg p h sp rch : Nat → Int32}
theorem rr_mk {k : Nat} (F : rr_F nl ns nr nc oc kn vs ss cs lt lb lf sb sf so rt rv ra ap av al sg p h) : i_Rel k ((nI nl), (nI ns), oc, (nI nr), (nI nc), vs, ss, cs, lt, lb, lf, sb, sf, so, rt, rv, ra, ap, av, af, aw) ((nI nl), (nI ns), (nI nr), (nI nc), kn, al, cs, lt, lb, lf, sb, so, sf, sg, rt, rv, ra, ap, av, af, aw, p, h, sp, rch) :=
  ⟨nl, ns, nr, nc, oc, kn, vs, ss, cs, lt, lb, lf, sb, sf, so, rt, rv, ra, ap, av, af, aw, al, sg, p, h, sp, rch, rfl, rfl, F⟩
/-! the component's tests -/
theorem rx_isV {post : Int32 → Prop} {v : Int32} (a : rr_bad 12 v → post 0) (b : ∀ j, j < 12 → v = nI j → post 1) : wpX_isVariable post ((nI nl), (nI ns), oc, (nI nr), (nI nc), vs, ss, cs, lt, lb, lf, sb, sf, so, rt, rv, ra, ap, av, af, aw) v :=
  br_c (fun z => a (Or.inl z)) (fun z => br_c (fun y => a (Or.inr y)) (fun y => by
    rcases rr_cs 12 v (by decide) with (c | c) | ⟨j, hj, e⟩
    · exact absurd c z
    · exact absurd c y
    · exact b j hj e))
theorem rx_isS {post : Int32 → Prop} {v : Int32} (a : rr_bad 8 v → post 0) (b : ∀ j, j < 8 → v = nI j → post 1) : wpX_isSite post ((nI nl), (nI ns), oc, (nI nr), (nI nc), vs, ss, cs, lt, lb, lf, sb, sf, so, rt, rv, ra, ap, av, af, aw) v :=
  br_c (fun z => a (Or.inl z)) (fun z => br_c (fun y => a (Or.inr y)) (fun y => by
    rcases rr_cs 8 v (by decide) with (c | c) | ⟨j, hj, e⟩
    · exact absurd c z
    · exact absurd c y
    · exact b j hj e))
theorem rx_isF {post : Int32 → Prop} {v : Int32} (a : rr_bad 2 v → post 0) (b : ∀ j, j < 2 → v = nI j → post 1) : wpX_isField post ((nI nl), (nI ns), oc, (nI nr), (nI nc), vs, ss, cs, lt, lb, lf, sb, sf, so, rt, rv, ra, ap, av, af, aw) v :=
  br_c (fun z => a (Or.inl z)) (fun z => br_c (fun y => a (Or.inr y)) (fun y => by
    rcases rr_cs 2 v (by decide) with (c | c) | ⟨j, hj, e⟩
    · exact absurd c z
    · exact absurd c y
    · exact b j hj e))
theorem rx_isT {post : Int32 → Prop} {v : Int32} (a : rr_bad 4 v → post 0) (b : ∀ j, j < 4 → v = nI j → post 1) : wpX_isThread post ((nI nl), (nI ns), oc, (nI nr), (nI nc), vs, ss, cs, lt, lb, lf, sb, sf, so, rt, rv, ra, ap, av, af, aw) v :=
  br_c (fun z => a (Or.inl z)) (fun z => br_c (fun y => a (Or.inr y)) (fun y => by
    rcases rr_cs 4 v (by decide) with (c | c) | ⟨j, hj, e⟩
    · exact absurd c z
    · exact absurd c y
    · exact b j hj e))
theorem rx_isR {post : Int32 → Prop} {v : Int32} (hn : nr ≤ 12) (a : rr_bad nr v → post 0) (b : ∀ j, j < nr → v = nI j → post 1) : wpX_isRegion post ((nI nl), (nI ns), oc, (nI nr), (nI nc), vs, ss, cs, lt, lb, lf, sb, sf, so, rt, rv, ra, ap, av, af, aw) v :=
  br_c (fun z => a (Or.inl z)) (fun z => br_c (fun y => a (Or.inr y)) (fun y => by
    rcases rr_cs nr v (by omega) with (c | c) | ⟨j, hj, e⟩
    · exact absurd c z
    · exact absurd c y
    · exact b j hj e))
theorem rx_isA {post : Int32 → Prop} {v : Int32} (hn : nc ≤ 16) (a : rr_bad nc v → post 0) (b : ∀ j, j < nc → v = nI j → post 1) : wpX_isAccess post ((nI nl), (nI ns), oc, (nI nr), (nI nc), vs, ss, cs, lt, lb, lf, sb, sf, so, rt, rv, ra, ap, av, af, aw) v :=
  br_c (fun z => a (Or.inl z)) (fun z => br_c (fun y => a (Or.inr y)) (fun y => by
    rcases rr_cs nc v (by omega) with (c | c) | ⟨j, hj, e⟩
    · exact absurd c z
    · exact absurd c y
    · exact b j hj e))
theorem rr_4 (n : Nat) : (4 : Int32) + nI n = nI (4 + n) := nI_add 4 n
theorem rx_isP {post : Int32 → Prop} {v : Int32} (hn : nr ≤ 12) (a : rr_bad (4 + nr) v → post 0) (b : ∀ j, j < 4 + nr → v = nI j → post 1) : wpX_isPlace post ((nI nl), (nI ns), oc, (nI nr), (nI nc), vs, ss, cs, lt, lb, lf, sb, sf, so, rt, rv, ra, ap, av, af, aw) v :=
  br_c (fun z => a (Or.inl z)) (fun z => br_c (fun y => a (Or.inr (by rw [← rr_4]; exact y))) (fun y => by
    rcases rr_cs (4 + nr) v (by omega) with (c | c) | ⟨j, hj, e⟩
    · exact absurd c z
    · rw [rr_4] at y; exact absurd c y
    · exact b j hj e))
/-! the reference's -/
theorem ry_bV {post : Int32 → Prop} {v : Int32} (a : rr_bad 12 v → post 1) (b : ∀ j, j < 12 → v = nI j → post 0) : wpY_badV post ((nI nl), (nI ns), (nI nr), (nI nc), kn, al, cs, lt, lb, lf, sb, so, sf, sg, rt, rv, ra, ap, av, af, aw, p, h, sp, rch) v :=
  br_c (fun z => a (Or.inl z)) (fun z => by
    rcases rr_cs 12 v (by decide) with (c | c) | ⟨j, hj, e⟩
    · exact absurd c z
    · exact br_f (rr_gt c (by decide)) (a (Or.inr c))
    · exact br_t (by rw [e]; exact nI_le (b := 11) (by omega) (by decide)) (b j hj e))
theorem ry_bF {post : Int32 → Prop} {v : Int32} (a : rr_bad 2 v → post 1) (b : ∀ j, j < 2 → v = nI j → post 0) : wpY_badF post ((nI nl), (nI ns), (nI nr), (nI nc), kn, al, cs, lt, lb, lf, sb, so, sf, sg, rt, rv, ra, ap, av, af, aw, p, h, sp, rch) v :=
  br_c (fun z => a (Or.inl z)) (fun z => by
    rcases rr_cs 2 v (by decide) with (c | c) | ⟨j, hj, e⟩
    · exact absurd c z
    · exact br_f (rr_gt c (by decide)) (a (Or.inr c))
    · exact br_t (by rw [e]; exact nI_le (b := 1) (by omega) (by decide)) (b j hj e))
theorem ry_bP {post : Int32 → Prop} {v : Int32} (hn : nr ≤ 12) (a : rr_bad (4 + nr) v → post 1) (b : ∀ j, j < 4 + nr → v = nI j → post 0) : wpY_badPlace post ((nI nl), (nI ns), (nI nr), (nI nc), kn, al, cs, lt, lb, lf, sb, so, sf, sg, rt, rv, ra, ap, av, af, aw, p, h, sp, rch) v :=
  br_c (fun z => a (Or.inl z)) (fun z => by
    rcases rr_cs (4 + nr) v (by omega) with (c | c) | ⟨j, hj, e⟩
    · exact absurd c z
    · exact br_f (by rw [rr_4]; exact Int32.not_lt.mpr c) (a (Or.inr c))
    · exact br_t (by rw [rr_4, e]; exact nI_lt hj (by omega)) (b j hj e))
end
end
section
/-! ===== statements: alloc, copy, load, store ===== -/
theorem rs_al {al am cs lt lb lf sb sf so P H : Nat → Int32} {nl ns : Nat} (h : ∀ v, v < 12 → rf_sub (al v) (am v)) (c : rg_Cl am cs lt lb lf sb sf so nl ns P H) : rg_Cl al cs lt lb lf sb sf so nl ns P H :=
  ⟨fun v hv => rf_subt (h v hv) (c.1 v hv), c.2⟩
theorem rs_cs {al cs cm lt lb lf sb sf so P H : Nat → Int32} {nl ns : Nat} (h : ∀ v, v < 12 → rf_sub (cs v) (cm v)) (c : rg_Cl al cm lt lb lf sb sf so nl ns P H) : rg_Cl al cs lt lb lf sb sf so nl ns P H :=
  ⟨c.1, fun v w hv hw hb => c.2.1 v w hv hw (h v hv w hb), c.2.2⟩
theorem rs_ld {al cs lt lb lf sb sf so P H : Nat → Int32} {nl ns : Nat} {x y z : Int32} (c : rg_Cl al cs (upd lt nl x) (upd lb nl y) (upd lf nl z) sb sf so (nl + 1) ns P H) : rg_Cl al cs lt lb lf sb sf so nl ns P H := by
  refine ⟨c.1, c.2.1, fun i s hi hs hb => ?_, c.2.2.2⟩
  have ne : i ≠ nl := by omega
  have := c.2.2.1 i s (by omega) hs
  rw [pk_un ne, pk_un ne, pk_un ne] at this
  exact this hb
theorem rs_st {al cs lt lb lf sb sf so P H : Nat → Int32} {nl ns : Nat} {x y z : Int32} (c : rg_Cl al cs lt lb lf (upd sb ns x) (upd sf ns y) (upd so ns z) nl (ns + 1) P H) : rg_Cl al cs lt lb lf sb sf so nl ns P H := by
  refine ⟨c.1, c.2.1, c.2.2.1, fun i s hi hs hb => ?_⟩
  have ne : i ≠ ns := by omega
  have := c.2.2.2 i s (by omega) hs
  rw [pk_un ne, pk_un ne, pk_un ne] at this
  exact this hb
theorem rs_up {f : Nat → Int32} {j : Nat} {x : Int32} (v : Nat) : rf_sub (f v) (upd f j (f j ||| x) v) := by
  by_cases e : v = j
  · subst e; rw [pk_us]; exact rf_orl _ _
  · rw [pk_un e]; exact rf_subr _
theorem rs_RL {a b c : Nat → Int32} {n : Nat} {x y z : Int32} (h : rg_RL a b c n) (hx : vp_in x 12) (hy : vp_in y 12) (hz : vp_in z 2) : rg_RL (upd a n x) (upd b n y) (upd c n z) (n + 1) := by
  intro i hi
  by_cases e : i = n
  · subst e; rw [pk_us, pk_us, pk_us]; exact ⟨hx, hy, hz⟩
  · rw [pk_un e, pk_un e, pk_un e]; exact h i (by omega)
section
variable {nl ns nr nc : Nat} {oc kn : Int32} {vs ss cs lt lb lf sb sf so rt rv ra ap av af aw al sg p h sp rch : Nat → Int32}
theorem rx_alloc0 {post : Int32 → SX → Prop} {v1 v2 : Int32} (hb : rr_bad 12 v1 ∨ rr_bad 8 v2) (k : post (-1) ((nI nl), (nI ns), oc, (nI nr), (nI nc), vs, ss, cs, lt, lb, lf, sb, sf, so, rt, rv, ra, ap, av, af, aw)) : wpX_alloc post ((nI nl), (nI ns), oc, (nI nr), (nI nc), vs, ss, cs, lt, lb, lf, sb, sf, so, rt, rv, ra, ap, av, af, aw) v1 v2 := by
  unfold wpX_alloc
  refine rx_isV (fun _ => br_t rfl k) (fun j hj e => br_f (by decide) ?_)
  refine rx_isS (fun _ => br_t rfl k) (fun s hs f => ?_)
  exact hb.elim (fun b => absurd (e ▸ b) (rr_nb (by decide) hj)) (fun b => absurd (f ▸ b) (rr_nb (by decide) hs))
theorem rx_alloc {post : Int32 → SX → Prop} {j s : Nat} (hj : j < 12) (hs : s < 8) (hl : nl ≤ 20) (hn : ns ≤ 20) (hL : rg_RL lt lb lf nl) (hS : rg_RL so sb sf ns) (L : rg_Le (rg_Cl al cs lt lb lf sb sf so nl ns) vs ss)
    (k : ∀ p h, rg_Le (rg_Cl (upd al j (al j ||| ((1 : Int32) <<< (nI s &&& 31)))) cs lt lb lf sb sf so nl ns) p h → post (nI (rf_pc (p j) 8)) ((nI nl), (nI ns), oc, (nI nr), (nI nc), p, h, cs, lt, lb, lf, sb, sf, so, rt, rv, ra, ap, av, af, aw)) : wpX_alloc post ((nI nl), (nI ns), oc, (nI nr), (nI nc), vs, ss, cs, lt, lb, lf, sb, sf, so, rt, rv, ra, ap, av, af, aw) (nI j) (nI s) := by
  have ej : (nI j).toNatClampNeg = j := nI_clamp (by omega)
  have hin : vp_in (nI j) 12 := vp_in_nI hj (by decide)
  unfold wpX_alloc
  refine rx_isV (fun b => absurd b (rr_nb (by decide) hj)) (fun _ _ _ => br_f (by decide) ?_)
  refine rx_isS (fun b => absurd b (rr_nb (by decide) hs)) (fun _ _ _ => br_f (by decide) ⟨hin, hin, ?_⟩)
  rw [ej]
  refine nm_e (rx_settle hl hn hL hS (rg_upB8 L.1 (rf_b81 s hs)) L.2.1 (fun P H c => ?_) (fun v hv => ?_) (fun p h M => ⟨hin, rx_cnt _ (k p h M)⟩))
  · have w := L.2.2.2 P H (rs_al (fun v _ => rs_up v) c)
    refine ⟨fun v hv => ?_, w.2⟩
    by_cases e : v = j
    · subst e; rw [pk_us]
      refine rf_ors (w.1 v hv) (rf_subt ?_ (c.1 v hv))
      rw [pk_us]; exact rf_orr _ _
    · rw [pk_un e]; exact w.1 v hv
  · have a := L.2.2.1.1 v hv
    by_cases e : v = j
    · subst e; rw [pk_us, pk_us]; exact rf_ors (rf_subt a (rf_orl _ _)) (rf_orr _ _)
    · rw [pk_un e, pk_un e]; exact a
theorem ry_alloc0 {post : Int32 → SY → Prop} {v1 v2 : Int32} (hb : rr_bad 12 v1 ∨ rr_bad 8 v2) (k : post (-1) ((nI nl), (nI ns), (nI nr), (nI nc), kn, al, cs, lt, lb, lf, sb, so, sf, sg, rt, rv, ra, ap, av, af, aw, p, h, sp, rch)) : wpY_alloc post ((nI nl), (nI ns), (nI nr), (nI nc), kn, al, cs, lt, lb, lf, sb, so, sf, sg, rt, rv, ra, ap, av, af, aw, p, h, sp, rch) v1 v2 := by
  unfold wpY_alloc
  refine ry_bV (fun _ => br_f (by decide) k) (fun j hj e => br_t rfl (br_c (fun _ => k) (fun z => br_c (fun y => ?_) (fun _ => k))))
  refine hb.elim (fun b => absurd (e ▸ b) (rr_nb (by decide) hj)) (fun b => ?_)
  rcases b with b | b
  · exact absurd b z
  · exact absurd y (rr_gt b (by decide))
theorem ry_alloc {post : Int32 → SY → Prop} {j s : Nat} (hj : j < 12) (hs : s < 8) (hl : nl ≤ 20) (hn : ns ≤ 20) (hL : rg_RL lt lb lf nl) (hS : rg_RL so sb sf ns) (L : rg_Le (rg_Cl (upd al j (al j ||| ((1 : Int32) <<< (nI s &&& 31)))) cs lt lb lf sb sf so nl ns) vs ss)
    (k : ∀ kn p h, kn ≠ 0 → rg_Eq 12 vs p → rg_Eq 16 ss h → post (nI (rf_pc (vs j) 8)) ((nI nl), (nI ns), (nI nr), (nI nc), kn, upd al j (al j ||| ((1 : Int32) <<< (nI s &&& 31))), cs, lt, lb, lf, sb, so, sf, sg, rt, rv, ra, ap, av, af, aw, p, h, sp, rch)) : wpY_alloc post ((nI nl), (nI ns), (nI nr), (nI nc), kn, al, cs, lt, lb, lf, sb, so, sf, sg, rt, rv, ra, ap, av, af, aw, p, h, sp, rch) (nI j) (nI s) := by
  have ej : (nI j).toNatClampNeg = j := nI_clamp (by omega)
  have hin : vp_in (nI j) 12 := vp_in_nI hj (by decide)
  unfold wpY_alloc
  refine ry_bV (fun b => absurd b (rr_nb (by decide) hj)) (fun _ _ _ => br_t rfl (br_f (nI_pos (by omega)) (br_t (nI_le (b := 7) (by omega) (by decide)) ⟨hin, hin, ?_⟩)))
  rw [ej]
  exact nm_e (ry_work hl hn hL hS (fun z => absurd rfl z) L (fun kn p h z e f => ⟨hin, ry_size _ (by rw [e j hj]; exact k kn p h z e f)⟩))
theorem rx_copy0 {post : Int32 → SX → Prop} {v1 v2 : Int32} (hb : rr_bad 12 v1 ∨ rr_bad 12 v2) (k : post (-1) ((nI nl), (nI ns), oc, (nI nr), (nI nc), vs, ss, cs, lt, lb, lf, sb, sf, so, rt, rv, ra, ap, av, af, aw)) : wpX_copy post ((nI nl), (nI ns), oc, (nI nr), (nI nc), vs, ss, cs, lt, lb, lf, sb, sf, so, rt, rv, ra, ap, av, af, aw) v1 v2 := by
  unfold wpX_copy
  refine rx_isV (fun _ => br_t rfl k) (fun j hj e => br_f (by decide) ?_)
  refine rx_isV (fun _ => br_t rfl k) (fun s hs f => ?_)
  exact hb.elim (fun b => absurd (e ▸ b) (rr_nb (by decide) hj)) (fun b => absurd (f ▸ b) (rr_nb (by decide) hs))
theorem rx_copy {post : Int32 → SX → Prop} {j s : Nat} (hj : j < 12) (hs : s < 12) (hl : nl ≤ 20) (hn : ns ≤ 20) (hL : rg_RL lt lb lf nl) (hS : rg_RL so sb sf ns) (L : rg_Le (rg_Cl al cs lt lb lf sb sf so nl ns) vs ss)
    (k : ∀ p h, rg_Le (rg_Cl al (upd cs j (cs j ||| ((1 : Int32) <<< (nI s &&& 31)))) lt lb lf sb sf so nl ns) p h → post (nI (rf_pc (p j) 8)) ((nI nl), (nI ns), oc, (nI nr), (nI nc), p, h, upd cs j (cs j ||| ((1 : Int32) <<< (nI s &&& 31))), lt, lb, lf, sb, sf, so, rt, rv, ra, ap, av, af, aw)) : wpX_copy post ((nI nl), (nI ns), oc, (nI nr), (nI nc), vs, ss, cs, lt, lb, lf, sb, sf, so, rt, rv, ra, ap, av, af, aw) (nI j) (nI s) := by
  have ej : (nI j).toNatClampNeg = j := nI_clamp (by omega)
  have hin : vp_in (nI j) 12 := vp_in_nI hj (by decide)
  unfold wpX_copy
  refine rx_isV (fun b => absurd b (rr_nb (by decide) hj)) (fun _ _ _ => br_f (by decide) ?_)
  refine rx_isV (fun b => absurd b (rr_nb (by decide) hs)) (fun _ _ _ => br_f (by decide) ⟨hin, hin, ?_⟩)
  rw [ej]
  exact nm_e (rx_settle hl hn hL hS L.1 L.2.1 (fun P H c => L.2.2.2 P H (rs_cs (fun v _ => rs_up v) c)) L.2.2.1.1 (fun p h M => ⟨hin, rx_cnt _ (k p h M)⟩))
theorem ry_copy0 {post : Int32 → SY → Prop} {v1 v2 : Int32} (hb : rr_bad 12 v1 ∨ rr_bad 12 v2) (k : post (-1) ((nI nl), (nI ns), (nI nr), (nI nc), kn, al, cs, lt, lb, lf, sb, so, sf, sg, rt, rv, ra, ap, av, af, aw, p, h, sp, rch)) : wpY_copy post ((nI nl), (nI ns), (nI nr), (nI nc), kn, al, cs, lt, lb, lf, sb, so, sf, sg, rt, rv, ra, ap, av, af, aw, p, h, sp, rch) v1 v2 := by
  unfold wpY_copy
  refine ry_bV (fun _ => br_f (by decide) k) (fun j hj e => br_t rfl ?_)
  refine ry_bV (fun _ => br_f (by decide) k) (fun s hs f => ?_)
  exact hb.elim (fun b => absurd (e ▸ b) (rr_nb (by decide) hj)) (fun b => absurd (f ▸ b) (rr_nb (by decide) hs))
theorem ry_copy {post : Int32 → SY → Prop} {j s : Nat} (hj : j < 12) (hs : s < 12) (hl : nl ≤ 20) (hn : ns ≤ 20) (hL : rg_RL lt lb lf nl) (hS : rg_RL so sb sf ns) (L : rg_Le (rg_Cl al (upd cs j (cs j ||| ((1 : Int32) <<< (nI s &&& 31)))) lt lb lf sb sf so nl ns) vs ss)
    (k : ∀ kn p h, kn ≠ 0 → rg_Eq 12 vs p → rg_Eq 16 ss h → post (nI (rf_pc (vs j) 8)) ((nI nl), (nI ns), (nI nr), (nI nc), kn, al, upd cs j (cs j ||| ((1 : Int32) <<< (nI s &&& 31))), lt, lb, lf, sb, so, sf, sg, rt, rv, ra, ap, av, af, aw, p, h, sp, rch)) : wpY_copy post ((nI nl), (nI ns), (nI nr), (nI nc), kn, al, cs, lt, lb, lf, sb, so, sf, sg, rt, rv, ra, ap, av, af, aw, p, h, sp, rch) (nI j) (nI s) := by
  have ej : (nI j).toNatClampNeg = j := nI_clamp (by omega)
  have hin : vp_in (nI j) 12 := vp_in_nI hj (by decide)
  unfold wpY_copy
  refine ry_bV (fun b => absurd b (rr_nb (by decide) hj)) (fun _ _ _ => br_t rfl ?_)
  refine ry_bV (fun b => absurd b (rr_nb (by decide) hs)) (fun _ _ _ => br_t rfl ⟨hin, hin, ?_⟩)
  rw [ej]
  exact nm_e (ry_work hl hn hL hS (fun z => absurd rfl z) L (fun kn p h z e f => ⟨hin, ry_size _ (by rw [e j hj]; exact k kn p h z e f)⟩))
theorem rx_load0 {post : Int32 → SX → Prop} {v1 v2 v3 : Int32} (hb : rr_bad 12 v1 ∨ rr_bad 12 v2 ∨ rr_bad 2 v3) (k : post (-1) ((nI nl), (nI ns), oc, (nI nr), (nI nc), vs, ss, cs, lt, lb, lf, sb, sf, so, rt, rv, ra, ap, av, af, aw)) : wpX_load post ((nI nl), (nI ns), oc, (nI nr), (nI nc), vs, ss, cs, lt, lb, lf, sb, sf, so, rt, rv, ra, ap, av, af, aw) v1 v2 v3 := by
  unfold wpX_load
  refine rx_isV (fun _ => br_t rfl k) (fun j hj e => br_f (by decide) ?_)
  refine rx_isV (fun _ => br_t rfl k) (fun s hs f => br_f (by decide) ?_)
  refine rx_isF (fun _ => br_t rfl k) (fun t ht g => ?_)
  exact hb.elim (fun b => absurd (e ▸ b) (rr_nb (by decide) hj)) (fun b => b.elim (fun b => absurd (f ▸ b) (rr_nb (by decide) hs)) (fun b => absurd (g ▸ b) (rr_nb (by decide) ht)))
theorem rx_load1 {post : Int32 → SX → Prop} {a b f : Nat} (ha : a < 12) (hb : b < 12) (hf : f < 2) (hl : nl = 20) (k : post (-2) ((nI nl), (nI ns), oc, (nI nr), (nI nc), vs, ss, cs, lt, lb, lf, sb, sf, so, rt, rv, ra, ap, av, af, aw)) : wpX_load post ((nI nl), (nI ns), oc, (nI nr), (nI nc), vs, ss, cs, lt, lb, lf, sb, sf, so, rt, rv, ra, ap, av, af, aw) (nI a) (nI b) (nI f) := by
  unfold wpX_load
  refine rx_isV (fun b => absurd b (rr_nb (by decide) ha)) (fun _ _ _ => br_f (by decide) ?_)
  refine rx_isV (fun b => absurd b (rr_nb (by decide) hb)) (fun _ _ _ => br_f (by decide) ?_)
  exact rx_isF (fun b => absurd b (rr_nb (by decide) hf)) (fun _ _ _ => br_f (by decide) (br_f (nI_nlt (b := 20) (by omega) (by omega)) k))
theorem rx_load {post : Int32 → SX → Prop} {a b f : Nat} (ha : a < 12) (hb : b < 12) (hf : f < 2) (hl : nl < 20) (hn : ns ≤ 20) (hL : rg_RL lt lb lf nl) (hS : rg_RL so sb sf ns) (L : rg_Le (rg_Cl al cs lt lb lf sb sf so nl ns) vs ss)
    (k : ∀ p h, rg_Le (rg_Cl al cs (upd lt nl (nI a)) (upd lb nl (nI b)) (upd lf nl (nI f)) sb sf so (nl + 1) ns) p h → post (nI (rf_pc (p a) 8)) (nI (nl + 1), (nI ns), oc, (nI nr), (nI nc), p, h, cs, upd lt nl (nI a), upd lb nl (nI b), upd lf nl (nI f), sb, sf, so, rt, rv, ra, ap, av, af, aw)) : wpX_load post ((nI nl), (nI ns), oc, (nI nr), (nI nc), vs, ss, cs, lt, lb, lf, sb, sf, so, rt, rv, ra, ap, av, af, aw) (nI a) (nI b) (nI f) := by
  have ej : (nI nl).toNatClampNeg = nl := nI_clamp (by omega)
  have ea : (nI a).toNatClampNeg = a := nI_clamp (by omega)
  have hin : vp_in (nI a) 12 := vp_in_nI ha (by decide)
  have hln : vp_in (nI nl) 20 := vp_in_nI hl (by decide)
  unfold wpX_load
  refine rx_isV (fun b => absurd b (rr_nb (by decide) ha)) (fun _ _ _ => br_f (by decide) ?_)
  refine rx_isV (fun b => absurd b (rr_nb (by decide) hb)) (fun _ _ _ => br_f (by decide) ?_)
  refine rx_isF (fun b => absurd b (rr_nb (by decide) hf)) (fun _ _ _ => br_f (by decide) (br_t (nI_lt (b := 20) hl (by decide)) ?_))
  rw [ej]
  refine ⟨hln, nm_e ⟨hln, nm_e ⟨hln, nm_e (nm_r (nI_1 nl) ?_)⟩⟩⟩
  refine rx_settle (by omega) hn (rs_RL hL hin (vp_in_nI hb (by decide)) (vp_in_nI hf (by decide))) hS L.1 L.2.1 (fun P H c => L.2.2.2 P H (rs_ld c)) L.2.2.1.1 (fun p h M => ⟨hin, rx_cnt _ ?_⟩)
  rw [ea]
  exact k p h M
theorem ry_load0 {post : Int32 → SY → Prop} {v1 v2 v3 : Int32} (hb : rr_bad 12 v1 ∨ rr_bad 12 v2 ∨ rr_bad 2 v3) (k : post (-1) ((nI nl), (nI ns), (nI nr), (nI nc), kn, al, cs, lt, lb, lf, sb, so, sf, sg, rt, rv, ra, ap, av, af, aw, p, h, sp, rch)) : wpY_load post ((nI nl), (nI ns), (nI nr), (nI nc), kn, al, cs, lt, lb, lf, sb, so, sf, sg, rt, rv, ra, ap, av, af, aw, p, h, sp, rch) v1 v2 v3 := by
  unfold wpY_load
  refine ry_bV (fun _ => br_f (by decide) k) (fun j hj e => br_t rfl ?_)
  refine ry_bV (fun _ => br_f (by decide) k) (fun s hs f => br_t rfl ?_)
  refine ry_bF (fun _ => br_f (by decide) k) (fun t ht g => ?_)
  exact hb.elim (fun b => absurd (e ▸ b) (rr_nb (by decide) hj)) (fun b => b.elim (fun b => absurd (f ▸ b) (rr_nb (by decide) hs)) (fun b => absurd (g ▸ b) (rr_nb (by decide) ht)))
theorem ry_load1 {post : Int32 → SY → Prop} {a b f : Nat} (ha : a < 12) (hb : b < 12) (hf : f < 2) (hl : nl = 20) (k : post (-2) ((nI nl), (nI ns), (nI nr), (nI nc), kn, al, cs, lt, lb, lf, sb, so, sf, sg, rt, rv, ra, ap, av, af, aw, p, h, sp, rch)) : wpY_load post ((nI nl), (nI ns), (nI nr), (nI nc), kn, al, cs, lt, lb, lf, sb, so, sf, sg, rt, rv, ra, ap, av, af, aw, p, h, sp, rch) (nI a) (nI b) (nI f) := by
  unfold wpY_load
  refine ry_bV (fun b => absurd b (rr_nb (by decide) ha)) (fun _ _ _ => br_t rfl ?_)
  refine ry_bV (fun b => absurd b (rr_nb (by decide) hb)) (fun _ _ _ => br_t rfl ?_)
  exact ry_bF (fun b => absurd b (rr_nb (by decide) hf)) (fun _ _ _ => br_t rfl (br_t (by rw [hl]; rfl) k))
theorem ry_load {post : Int32 → SY → Prop} {a b f : Nat} (ha : a < 12) (hb : b < 12) (hf : f < 2) (hl : nl < 20) (hn : ns ≤ 20) (hL : rg_RL lt lb lf nl) (hS : rg_RL so sb sf ns) (L : rg_Le (rg_Cl al cs (upd lt nl (nI a)) (upd lb nl (nI b)) (upd lf nl (nI f)) sb sf so (nl + 1) ns) vs ss)
    (k : ∀ kn p h, kn ≠ 0 → rg_Eq 12 vs p → rg_Eq 16 ss h → post (nI (rf_pc (vs a) 8)) (nI (nl + 1), (nI ns), (nI nr), (nI nc), kn, al, cs, upd lt nl (nI a), upd lb nl (nI b), upd lf nl (nI f), sb, so, sf, sg, rt, rv, ra, ap, av, af, aw, p, h, sp, rch)) : wpY_load post ((nI nl), (nI ns), (nI nr), (nI nc), kn, al, cs, lt, lb, lf, sb, so, sf, sg, rt, rv, ra, ap, av, af, aw, p, h, sp, rch) (nI a) (nI b) (nI f) := by
  have ej : (nI nl).toNatClampNeg = nl := nI_clamp (by omega)
  have ea : (nI a).toNatClampNeg = a := nI_clamp (by omega)
  have hin : vp_in (nI a) 12 := vp_in_nI ha (by decide)
  have hln : vp_in (nI nl) 20 := vp_in_nI hl (by decide)
  unfold wpY_load
  refine ry_bV (fun b => absurd b (rr_nb (by decide) ha)) (fun _ _ _ => br_t rfl ?_)
  refine ry_bV (fun b => absurd b (rr_nb (by decide) hb)) (fun _ _ _ => br_t rfl ?_)
  refine ry_bF (fun b => absurd b (rr_nb (by decide) hf)) (fun _ _ _ => br_t rfl (br_f (fun z => absurd ((nI_eq (b := 20) (by omega) (by decide)).mp z) (by omega)) ?_))
  rw [ej]
  refine ⟨hln, nm_e ⟨hln, nm_e ⟨hln, nm_e (nm_r (nI_1 nl) ?_)⟩⟩⟩
  refine ry_work (by omega) hn (rs_RL hL hin (vp_in_nI hb (by decide)) (vp_in_nI hf (by decide))) hS (fun z => absurd rfl z) L (fun kn p h z e f => ⟨hin, ry_size _ ?_⟩)
  rw [ea, e a ha]
  exact k kn p h z e f
theorem rx_store0 {post : Int32 → SX → Prop} {v1 v2 v3 : Int32} (hb : rr_bad 12 v1 ∨ rr_bad 2 v2 ∨ rr_bad 12 v3) (k : post (-1) ((nI nl), (nI ns), oc, (nI nr), (nI nc), vs, ss, cs, lt, lb, lf, sb, sf, so, rt, rv, ra, ap, av, af, aw)) : wpX_store post ((nI nl), (nI ns), oc, (nI nr), (nI nc), vs, ss, cs, lt, lb, lf, sb, sf, so, rt, rv, ra, ap, av, af, aw) v1 v2 v3 := by
  unfold wpX_store
  refine rx_isV (fun _ => br_t rfl k) (fun j hj e => br_f (by decide) ?_)
  refine rx_isF (fun _ => br_t rfl k) (fun s hs f => br_f (by decide) ?_)
  refine rx_isV (fun _ => br_t rfl k) (fun t ht g => ?_)
  exact hb.elim (fun b => absurd (e ▸ b) (rr_nb (by decide) hj)) (fun b => b.elim (fun b => absurd (f ▸ b) (rr_nb (by decide) hs)) (fun b => absurd (g ▸ b) (rr_nb (by decide) ht)))
theorem rx_store1 {post : Int32 → SX → Prop} {a f b : Nat} (ha : a < 12) (hf : f < 2) (hb : b < 12) (hl : ns = 20) (k : post (-2) ((nI nl), (nI ns), oc, (nI nr), (nI nc), vs, ss, cs, lt, lb, lf, sb, sf, so, rt, rv, ra, ap, av, af, aw)) : wpX_store post ((nI nl), (nI ns), oc, (nI nr), (nI nc), vs, ss, cs, lt, lb, lf, sb, sf, so, rt, rv, ra, ap, av, af, aw) (nI a) (nI f) (nI b) := by
  unfold wpX_store
  refine rx_isV (fun b => absurd b (rr_nb (by decide) ha)) (fun _ _ _ => br_f (by decide) ?_)
  refine rx_isF (fun b => absurd b (rr_nb (by decide) hf)) (fun _ _ _ => br_f (by decide) ?_)
  exact rx_isV (fun b => absurd b (rr_nb (by decide) hb)) (fun _ _ _ => br_f (by decide) (br_f (nI_nlt (b := 20) (by omega) (by omega)) k))
theorem rx_store {post : Int32 → SX → Prop} {a f b : Nat} (ha : a < 12) (hf : f < 2) (hb : b < 12) (hl : nl ≤ 20) (hn : ns < 20) (hL : rg_RL lt lb lf nl) (hS : rg_RL so sb sf ns) (L : rg_Le (rg_Cl al cs lt lb lf sb sf so nl ns) vs ss)
    (k : ∀ p h, rg_Le (rg_Cl al cs lt lb lf (upd sb ns (nI a)) (upd sf ns (nI f)) (upd so ns (nI b)) nl (ns + 1)) p h → post 0 ((nI nl), nI (ns + 1), oc, (nI nr), (nI nc), p, h, cs, lt, lb, lf, upd sb ns (nI a), upd sf ns (nI f), upd so ns (nI b), rt, rv, ra, ap, av, af, aw)) : wpX_store post ((nI nl), (nI ns), oc, (nI nr), (nI nc), vs, ss, cs, lt, lb, lf, sb, sf, so, rt, rv, ra, ap, av, af, aw) (nI a) (nI f) (nI b) := by
  have ej : (nI ns).toNatClampNeg = ns := nI_clamp (by omega)
  have hln : vp_in (nI ns) 20 := vp_in_nI hn (by decide)
  unfold wpX_store
  refine rx_isV (fun b => absurd b (rr_nb (by decide) ha)) (fun _ _ _ => br_f (by decide) ?_)
  refine rx_isF (fun b => absurd b (rr_nb (by decide) hf)) (fun _ _ _ => br_f (by decide) ?_)
  refine rx_isV (fun b => absurd b (rr_nb (by decide) hb)) (fun _ _ _ => br_f (by decide) (br_t (nI_lt (b := 20) hn (by decide)) ?_))
  rw [ej]
  refine ⟨hln, nm_e ⟨hln, nm_e ⟨hln, nm_e (nm_r (nI_1 ns) ?_)⟩⟩⟩
  exact rx_settle hl (by omega) hL (rs_RL hS (vp_in_nI hb (by decide)) (vp_in_nI ha (by decide)) (vp_in_nI hf (by decide))) L.1 L.2.1 (fun P H c => L.2.2.2 P H (rs_st c)) L.2.2.1.1 (fun p h M => k p h M)
theorem ry_store0 {post : Int32 → SY → Prop} {v1 v2 v3 : Int32} (hb : rr_bad 12 v1 ∨ rr_bad 2 v2 ∨ rr_bad 12 v3) (k : post (-1) ((nI nl), (nI ns), (nI nr), (nI nc), kn, al, cs, lt, lb, lf, sb, so, sf, sg, rt, rv, ra, ap, av, af, aw, p, h, sp, rch)) : wpY_store post ((nI nl), (nI ns), (nI nr), (nI nc), kn, al, cs, lt, lb, lf, sb, so, sf, sg, rt, rv, ra, ap, av, af, aw, p, h, sp, rch) v1 v2 v3 := by
  unfold wpY_store
  refine ry_bV (fun _ => br_f (by decide) k) (fun j hj e => br_t rfl ?_)
  refine ry_bV (fun _ => br_f (by decide) k) (fun t ht g => br_t rfl ?_)
  refine ry_bF (fun _ => br_f (by decide) k) (fun s hs f => ?_)
  exact hb.elim (fun b => absurd (e ▸ b) (rr_nb (by decide) hj)) (fun b => b.elim (fun b => absurd (f ▸ b) (rr_nb (by decide) hs)) (fun b => absurd (g ▸ b) (rr_nb (by decide) ht)))
theorem ry_store1 {post : Int32 → SY → Prop} {a f b : Nat} (ha : a < 12) (hf : f < 2) (hb : b < 12) (hl : ns = 20) (k : post (-2) ((nI nl), (nI ns), (nI nr), (nI nc), kn, al, cs, lt, lb, lf, sb, so, sf, sg, rt, rv, ra, ap, av, af, aw, p, h, sp, rch)) : wpY_store post ((nI nl), (nI ns), (nI nr), (nI nc), kn, al, cs, lt, lb, lf, sb, so, sf, sg, rt, rv, ra, ap, av, af, aw, p, h, sp, rch) (nI a) (nI f) (nI b) := by
  unfold wpY_store
  refine ry_bV (fun b => absurd b (rr_nb (by decide) ha)) (fun _ _ _ => br_t rfl ?_)
  refine ry_bV (fun b => absurd b (rr_nb (by decide) hb)) (fun _ _ _ => br_t rfl ?_)
  exact ry_bF (fun b => absurd b (rr_nb (by decide) hf)) (fun _ _ _ => br_t rfl (br_t (by rw [hl]; rfl) k))
theorem ry_store {post : Int32 → SY → Prop} {a f b : Nat} (ha : a < 12) (hf : f < 2) (hb : b < 12) (hn : ns < 20)
    (k : post 0 ((nI nl), nI (ns + 1), (nI nr), (nI nc), 0, al, cs, lt, lb, lf, upd sb ns (nI a), upd so ns (nI b), upd sf ns (nI f), sg, rt, rv, ra, ap, av, af, aw, p, h, sp, rch)) : wpY_store post ((nI nl), (nI ns), (nI nr), (nI nc), kn, al, cs, lt, lb, lf, sb, so, sf, sg, rt, rv, ra, ap, av, af, aw, p, h, sp, rch) (nI a) (nI f) (nI b) := by
  have ej : (nI ns).toNatClampNeg = ns := nI_clamp (by omega)
  have hln : vp_in (nI ns) 20 := vp_in_nI hn (by decide)
  unfold wpY_store
  refine ry_bV (fun b => absurd b (rr_nb (by decide) ha)) (fun _ _ _ => br_t rfl ?_)
  refine ry_bV (fun b => absurd b (rr_nb (by decide) hb)) (fun _ _ _ => br_t rfl ?_)
  refine ry_bF (fun b => absurd b (rr_nb (by decide) hf)) (fun _ _ _ => br_t rfl (br_f (fun z => absurd ((nI_eq (b := 20) (by omega) (by decide)).mp z) (by omega)) ?_))
  rw [ej]
  exact ⟨hln, nm_e ⟨hln, nm_e ⟨hln, nm_e (nm_r (nI_1 ns) k)⟩⟩⟩
/-! ===== the owed ones ===== -/
end
end
section
theorem i_up {k : Nat} {u : SX} {v : SY} (h : i_Rel k u v) : i_Rel (k + 5) u v := h
theorem i_vc0 : wpX_init (fun u => wpY_init (fun v => i_Rel 0 u v)) := by
  refine rr_mk (k := 0) (nl := 0) (ns := 0) (nr := 0) (nc := 0) ⟨by decide, by decide, by decide, by decide, fun i hi => absurd hi (Nat.not_lt_zero i), fun i hi => absurd hi (Nat.not_lt_zero i), fun s _ => ?_, fun i hi => absurd hi (Nat.not_lt_zero i), fun i hi => absurd hi (Nat.not_lt_zero i), ⟨fun _ _ => rf_b80, fun _ _ => rf_b80, ⟨fun _ _ => rf_subr _, fun _ _ _ _ _ => rf_subr _, fun i _ hi => absurd hi (Nat.not_lt_zero i), fun i _ hi => absurd hi (Nat.not_lt_zero i)⟩, fun P H _ => ⟨fun _ _ => rf_sub0 _, fun _ _ => rf_sub0 _⟩⟩, fun z => absurd rfl z⟩
  rw [b_0]
  exact ⟨fun z => absurd z (by decide), fun z => absurd rfl z⟩
theorem i_vc_alloc {k : Nat} {u : SX} {v : SY} (I : i_Rel k u v) (hk : k + 5 ≤ 2560) (v1 : Int32) (v2 : Int32) : wpX_alloc (fun r u' => wpY_alloc (fun r' v' => r' = r ∧ i_Rel (k + 5) u' v') v v1 v2) u v1 v2 := by
  obtain ⟨nl, ns, nr, nc, oc, kn, vs, ss, cs, lt, lb, lf, sb, sf, so, rt, rv, ra, ap, av, af, aw, al, sg, p, h, sp, rch, rfl, rfl, F⟩ := I
  obtain ⟨f1, f2, f3, f4, f5, f6, f7, f8, f9, f10, f11⟩ := id F
  rcases rr_cs 12 v1 (by decide) with b | ⟨a, ha, rfl⟩
  · exact rx_alloc0 (Or.inl b) (ry_alloc0 (Or.inl b) ⟨rfl, rr_mk F⟩)
  rcases rr_cs 8 v2 (by decide) with b | ⟨s, hs, rfl⟩
  · exact rx_alloc0 (Or.inr b) (ry_alloc0 (Or.inr b) ⟨rfl, rr_mk F⟩)
  exact rx_alloc ha hs f1 f2 f5 f6 f10 (fun p' h' L => ry_alloc ha hs f1 f2 f5 f6 L (fun kn' q g z e f => ⟨rfl, rr_mk ⟨f1, f2, f3, f4, f5, f6, f7, f8, f9, L, fun _ => ⟨e, f⟩⟩⟩))
theorem i_vc_copy {k : Nat} {u : SX} {v : SY} (I : i_Rel k u v) (hk : k + 5 ≤ 2560) (v1 : Int32) (v2 : Int32) : wpX_copy (fun r u' => wpY_copy (fun r' v' => r' = r ∧ i_Rel (k + 5) u' v') v v1 v2) u v1 v2 := by
  obtain ⟨nl, ns, nr, nc, oc, kn, vs, ss, cs, lt, lb, lf, sb, sf, so, rt, rv, ra, ap, av, af, aw, al, sg, p, h, sp, rch, rfl, rfl, F⟩ := I
  obtain ⟨f1, f2, f3, f4, f5, f6, f7, f8, f9, f10, f11⟩ := id F
  rcases rr_cs 12 v1 (by decide) with b | ⟨a, ha, rfl⟩
  · exact rx_copy0 (Or.inl b) (ry_copy0 (Or.inl b) ⟨rfl, rr_mk F⟩)
  rcases rr_cs 12 v2 (by decide) with b | ⟨s, hs, rfl⟩
  · exact rx_copy0 (Or.inr b) (ry_copy0 (Or.inr b) ⟨rfl, rr_mk F⟩)
  exact rx_copy ha hs f1 f2 f5 f6 f10 (fun p' h' L => ry_copy ha hs f1 f2 f5 f6 L (fun kn' q g z e f => ⟨rfl, rr_mk ⟨f1, f2, f3, f4, f5, f6, f7, f8, f9, L, fun _ => ⟨e, f⟩⟩⟩))
theorem i_vc_load {k : Nat} {u : SX} {v : SY} (I : i_Rel k u v) (hk : k + 5 ≤ 2560) (v1 : Int32) (v2 : Int32) (v3 : Int32) : wpX_load (fun r u' => wpY_load (fun r' v' => r' = r ∧ i_Rel (k + 5) u' v') v v1 v2 v3) u v1 v2 v3 := by
  obtain ⟨nl, ns, nr, nc, oc, kn, vs, ss, cs, lt, lb, lf, sb, sf, so, rt, rv, ra, ap, av, af, aw, al, sg, p, h, sp, rch, rfl, rfl, F⟩ := I
  obtain ⟨f1, f2, f3, f4, f5, f6, f7, f8, f9, f10, f11⟩ := id F
  rcases rr_cs 12 v1 (by decide) with b | ⟨a, ha, rfl⟩
  · exact rx_load0 (Or.inl b) (ry_load0 (Or.inl b) ⟨rfl, rr_mk F⟩)
  rcases rr_cs 12 v2 (by decide) with b | ⟨b, hb, rfl⟩
  · exact rx_load0 (Or.inr (Or.inl b)) (ry_load0 (Or.inr (Or.inl b)) ⟨rfl, rr_mk F⟩)
  rcases rr_cs 2 v3 (by decide) with b | ⟨f, hf, rfl⟩
  · exact rx_load0 (Or.inr (Or.inr b)) (ry_load0 (Or.inr (Or.inr b)) ⟨rfl, rr_mk F⟩)
  by_cases z : nl = 20
  · exact rx_load1 ha hb hf z (ry_load1 ha hb hf z ⟨rfl, rr_mk F⟩)
  exact rx_load ha hb hf (by omega) f2 f5 f6 f10 (fun p' h' L => ry_load ha hb hf (by omega) f2 f5 f6 L (fun kn' q g z e f => ⟨rfl, rr_mk ⟨by omega, f2, f3, f4, rs_RL f5 (vp_in_nI ha (by decide)) (vp_in_nI hb (by decide)) (vp_in_nI hf (by decide)), f6, f7, f8, f9, L, fun _ => ⟨e, f⟩⟩⟩))
theorem i_vc_store {k : Nat} {u : SX} {v : SY} (I : i_Rel k u v) (hk : k + 5 ≤ 2560) (v1 : Int32) (v2 : Int32) (v3 : Int32) : wpX_store (fun r u' => wpY_store (fun r' v' => r' = r ∧ i_Rel (k + 5) u' v') v v1 v2 v3) u v1 v2 v3 := by
  obtain ⟨nl, ns, nr, nc, oc, kn, vs, ss, cs, lt, lb, lf, sb, sf, so, rt, rv, ra, ap, av, af, aw, al, sg, p, h, sp, rch, rfl, rfl, F⟩ := I
  obtain ⟨f1, f2, f3, f4, f5, f6, f7, f8, f9, f10, f11⟩ := id F
  rcases rr_cs 12 v1 (by decide) with b | ⟨a, ha, rfl⟩
  · exact rx_store0 (Or.inl b) (ry_store0 (Or.inl b) ⟨rfl, rr_mk F⟩)
  rcases rr_cs 2 v2 (by decide) with b | ⟨f, hf, rfl⟩
  · exact rx_store0 (Or.inr (Or.inl b)) (ry_store0 (Or.inr (Or.inl b)) ⟨rfl, rr_mk F⟩)
  rcases rr_cs 12 v3 (by decide) with b | ⟨b, hb, rfl⟩
  · exact rx_store0 (Or.inr (Or.inr b)) (ry_store0 (Or.inr (Or.inr b)) ⟨rfl, rr_mk F⟩)
  by_cases z : ns = 20
  · exact rx_store1 ha hf hb z (ry_store1 ha hf hb z ⟨rfl, rr_mk F⟩)
  exact rx_store ha hf hb f1 (by omega) f5 f6 f10 (fun p' h' L => ry_store ha hf hb (by omega) ⟨rfl, rr_mk ⟨f1, by omega, f3, f4, f5, rs_RL f6 (vp_in_nI hb (by decide)) (vp_in_nI ha (by decide)) (vp_in_nI hf (by decide)), f7, f8, f9, L, fun z => absurd rfl z⟩⟩)
end
section
/-! ===== once, region, access, pointsTo, holds ===== -/
section
variable {nl ns nr nc : Nat} {oc kn : Int32} {vs ss cs lt lb lf sb sf so rt rv ra ap av af aw al sg p h sp rch : Nat → Int32}
theorem rx_once0 {post : Int32 → SX → Prop} {v1 v2 : Int32} (hb : rr_bad 8 v1) (k : post (-1) ((nI nl), (nI ns), oc, (nI nr), (nI nc), vs, ss, cs, lt, lb, lf, sb, sf, so, rt, rv, ra, ap, av, af, aw)) : wpX_once post ((nI nl), (nI ns), oc, (nI nr), (nI nc), vs, ss, cs, lt, lb, lf, sb, sf, so, rt, rv, ra, ap, av, af, aw) v1 v2 := by
  unfold wpX_once
  exact rx_isS (fun _ => br_t rfl k) (fun s hs f => absurd (f ▸ hb) (rr_nb (by decide) hs))
theorem ry_once0 {post : Int32 → SY → Prop} {v1 v2 : Int32} (hb : rr_bad 8 v1) (k : post (-1) ((nI nl), (nI ns), (nI nr), (nI nc), kn, al, cs, lt, lb, lf, sb, so, sf, sg, rt, rv, ra, ap, av, af, aw, p, h, sp, rch)) : wpY_once post ((nI nl), (nI ns), (nI nr), (nI nc), kn, al, cs, lt, lb, lf, sb, so, sf, sg, rt, rv, ra, ap, av, af, aw, p, h, sp, rch) v1 v2 := by
  refine br_c (fun _ => k) (fun z => br_c (fun y => ?_) (fun _ => k))
  rcases hb with b | b
  · exact absurd b z
  · exact absurd y (rr_gt b (by decide))
theorem rx_once {post : Int32 → SX → Prop} {s : Nat} (hs : s < 8) {b : Int32} (k0 : b = 0 → post (nI (bt oc s).toNat) ((nI nl), (nI ns), oc &&& (((1 : Int32) <<< (nI s &&& 31)) ^^^ (-1)), (nI nr), (nI nc), vs, ss, cs, lt, lb, lf, sb, sf, so, rt, rv, ra, ap, av, af, aw)) (k1 : b ≠ 0 → post (nI (bt oc s).toNat) ((nI nl), (nI ns), oc ||| ((1 : Int32) <<< (nI s &&& 31)), (nI nr), (nI nc), vs, ss, cs, lt, lb, lf, sb, sf, so, rt, rv, ra, ap, av, af, aw)) : wpX_once post ((nI nl), (nI ns), oc, (nI nr), (nI nc), vs, ss, cs, lt, lb, lf, sb, sf, so, rt, rv, ra, ap, av, af, aw) (nI s) b := by
  unfold wpX_once
  refine rx_isS (fun b => absurd b (rr_nb (by decide) hs)) (fun _ _ _ => br_f (by decide) (nm_r (rf_tX oc s (by omega)) ?_))
  exact br_c (fun z => nm_e (k0 z)) (fun z => nm_e (k1 z))
theorem ry_once {post : Int32 → SY → Prop} {s : Nat} (hs : s < 8) {b : Int32} (hO : rr_O oc sg) (k : post (nI (bt oc s).toNat) ((nI nl), (nI ns), (nI nr), (nI nc), kn, al, cs, lt, lb, lf, sb, so, sf, upd sg s (vp_nar .boolean b), rt, rv, ra, ap, av, af, aw, p, h, sp, rch)) : wpY_once post ((nI nl), (nI ns), (nI nr), (nI nc), kn, al, cs, lt, lb, lf, sb, so, sf, sg, rt, rv, ra, ap, av, af, aw, p, h, sp, rch) (nI s) b := by
  have es : (nI s).toNatClampNeg = s := nI_clamp (by omega)
  have hin : vp_in (nI s) 8 := vp_in_nI hs (by decide)
  refine br_f (nI_pos (by omega)) (br_t (nI_le (b := 7) (by omega) (by decide)) ⟨hin, ?_⟩)
  rw [es]
  refine br_c (fun z => ⟨hin, ?_⟩) (fun z => ⟨hin, ?_⟩)
  · have e : bt oc s = false := rf_nf (fun y => (hO s hs).mp y z)
    rw [e] at k
    rw [es]
    exact nm_e k
  · have e : bt oc s = true := (hO s hs).mpr z
    rw [e] at k
    rw [es]
    exact nm_e k
theorem rr_O0 {s : Nat} (hs : s < 8) (hO : rr_O oc sg) : rr_O (oc &&& (((1 : Int32) <<< (nI s &&& 31)) ^^^ (-1))) (upd sg s 0) := by
  intro t ht
  rw [b_and, b_xor, b_m1 t (by omega), rf_one s (by omega)]
  by_cases e : t = s
  · subst e; rw [pk_us, decide_eq_true rfl]; simp
  · rw [pk_un e, decide_eq_false e, ← hO t ht]; simp
theorem rr_O1 {s : Nat} {b : Int32} (hb : b ≠ 0) (hs : s < 8) (hO : rr_O oc sg) : rr_O (oc ||| ((1 : Int32) <<< (nI s &&& 31))) (upd sg s b) := by
  intro t ht
  rw [b_or, rf_one s (by omega)]
  by_cases e : t = s
  · subst e; rw [pk_us, decide_eq_true rfl]; simp [hb]
  · rw [pk_un e, decide_eq_false e, ← hO t ht]; simp
/-- may a region of thread t lie in a -/
def rr_in (rt : Nat → Int32) (nr : Nat) (t a : Int32) : Prop := a = -1 ∨ ∃ j, j < nr ∧ a = nI j ∧ rt j = t
theorem rx_can {post : Int32 → Prop} {t a : Int32} (hn : nr ≤ 12) (f : ¬ rr_in rt nr t a → post 0) (g : rr_in rt nr t a → post 1) : wpX_canLieIn post ((nI nl), (nI ns), oc, (nI nr), (nI nc), vs, ss, cs, lt, lb, lf, sb, sf, so, rt, rv, ra, ap, av, af, aw) t a := by
  unfold wpX_canLieIn
  refine br_c (fun z => g (Or.inl z)) (fun z => ?_)
  refine rx_isR hn (fun b => br_t rfl (f ?_)) (fun j hj e => br_f (by decide) ?_)
  · rintro (c | ⟨j, hj, e, _⟩)
    · exact z c
    · exact rr_nb (by omega) hj (e ▸ b)
  · subst e
    have ej : (nI j).toNatClampNeg = j := nI_clamp (by omega)
    rw [ej]
    refine ⟨vp_in_nI (by omega) (by decide), br_c (fun y => g (Or.inr ⟨j, hj, rfl, y⟩)) (fun y => f ?_)⟩
    rintro (c | ⟨i, hi, e, q⟩)
    · exact z c
    · rw [nI_eq (by omega) (by omega)] at e
      exact y (e ▸ q)
theorem rx_region0 {post : Int32 → SX → Prop} {v1 v2 v3 : Int32} (hn : nr ≤ 12) (hb : rr_bad 4 v1 ∨ rr_bad 12 v2 ∨ ¬ rr_in rt nr v1 v3) (k : post (-1) ((nI nl), (nI ns), oc, (nI nr), (nI nc), vs, ss, cs, lt, lb, lf, sb, sf, so, rt, rv, ra, ap, av, af, aw)) : wpX_region post ((nI nl), (nI ns), oc, (nI nr), (nI nc), vs, ss, cs, lt, lb, lf, sb, sf, so, rt, rv, ra, ap, av, af, aw) v1 v2 v3 := by
  unfold wpX_region
  refine rx_isT (fun _ => br_t rfl k) (fun j hj e => br_f (by decide) ?_)
  refine rx_isV (fun _ => br_t rfl k) (fun s hs f => br_f (by decide) ?_)
  refine rx_can hn (fun _ => br_t rfl k) (fun g => ?_)
  exact hb.elim (fun b => absurd (e ▸ b) (rr_nb (by decide) hj)) (fun b => b.elim (fun b => absurd (f ▸ b) (rr_nb (by decide) hs)) (fun b => absurd g b))
theorem rx_region1 {post : Int32 → SX → Prop} {v1 v2 v3 : Int32} (h1 : ¬ rr_bad 4 v1) (h2 : ¬ rr_bad 12 v2) (h3 : rr_in rt nr v1 v3) (hn : nr = 12) (k : post (-2) ((nI nl), (nI ns), oc, (nI nr), (nI nc), vs, ss, cs, lt, lb, lf, sb, sf, so, rt, rv, ra, ap, av, af, aw)) : wpX_region post ((nI nl), (nI ns), oc, (nI nr), (nI nc), vs, ss, cs, lt, lb, lf, sb, sf, so, rt, rv, ra, ap, av, af, aw) v1 v2 v3 := by
  unfold wpX_region
  refine rx_isT (fun b => absurd b h1) (fun _ _ _ => br_f (by decide) ?_)
  refine rx_isV (fun b => absurd b h2) (fun _ _ _ => br_f (by decide) ?_)
  exact rx_can (by omega) (fun b => absurd h3 b) (fun _ => br_f (by decide) (br_f (nI_nlt (b := 12) (by omega) (by omega)) k))
theorem rx_region {post : Int32 → SX → Prop} {v1 v2 v3 : Int32} (h1 : ¬ rr_bad 4 v1) (h2 : ¬ rr_bad 12 v2) (h3 : rr_in rt nr v1 v3) (hn : nr < 12) (k : post (nI (nr + 1) - 1) ((nI nl), (nI ns), oc, nI (nr + 1), (nI nc), vs, ss, cs, lt, lb, lf, sb, sf, so, upd rt nr v1, upd rv nr v2, upd ra nr v3, ap, av, af, aw)) : wpX_region post ((nI nl), (nI ns), oc, (nI nr), (nI nc), vs, ss, cs, lt, lb, lf, sb, sf, so, rt, rv, ra, ap, av, af, aw) v1 v2 v3 := by
  have ej : (nI nr).toNatClampNeg = nr := nI_clamp (by omega)
  have hln : vp_in (nI nr) 12 := vp_in_nI hn (by decide)
  unfold wpX_region
  refine rx_isT (fun b => absurd b h1) (fun _ _ _ => br_f (by decide) ?_)
  refine rx_isV (fun b => absurd b h2) (fun _ _ _ => br_f (by decide) ?_)
  refine rx_can (by omega) (fun b => absurd h3 b) (fun _ => br_f (by decide) (br_t (nI_lt (b := 12) (by omega) (by omega)) ?_))
  rw [ej]
  exact ⟨hln, nm_e ⟨hln, nm_e ⟨hln, nm_e (nm_r (nI_1 nr) k)⟩⟩⟩
theorem rr_m1 {x : Int32} (h : x < 0) (n : ¬ x < -1) : x = -1 := by
  apply Int32.toInt_inj.mp
  rw [Int32.lt_iff_toInt_lt] at h n
  have a : (0 : Int32).toInt = 0 := by decide
  have b : (-1 : Int32).toInt = -1 := by decide
  omega
theorem ry_region_go {post : Int32 → SY → Prop} {v1 v2 v3 : Int32} (hn : nr ≤ 12) (bad : (rr_bad 4 v1 ∨ rr_bad 12 v2 ∨ ¬ rr_in rt nr v1 v3) → post (-1) ((nI nl), (nI ns), (nI nr), (nI nc), kn, al, cs, lt, lb, lf, sb, so, sf, sg, rt, rv, ra, ap, av, af, aw, p, h, sp, rch)) (ok : ¬ rr_bad 4 v1 → ¬ rr_bad 12 v2 → rr_in rt nr v1 v3 → wY_region_48 post v1 v2 v3 (nI nl) (nI ns) (nI nr) (nI nc) kn al cs lt lb lf sb so sf sg rt rv ra ap av af aw p h sp rch) : wpY_region post ((nI nl), (nI ns), (nI nr), (nI nc), kn, al, cs, lt, lb, lf, sb, so, sf, sg, rt, rv, ra, ap, av, af, aw, p, h, sp, rch) v1 v2 v3 := by
  unfold wpY_region
  refine br_c (fun z => bad (Or.inl (Or.inl z))) (fun z => br_c (fun y => bad (Or.inl (Or.inr ?_))) (fun y => ?_))
  · have y' : (3 : Int32).toInt < v1.toInt := Int32.lt_iff_toInt_lt.mp y
    refine Int32.le_iff_toInt_le.mpr ?_
    have a : (3 : Int32).toInt = 3 := by decide
    have b : (nI 4).toInt = 4 := by decide
    omega
  have h1 : ¬ rr_bad 4 v1 := by
    rintro (c | c)
    · exact z c
    · refine y (Int32.lt_iff_toInt_lt.mpr ?_)
      have c' := Int32.le_iff_toInt_le.mp c
      have a : (3 : Int32).toInt = 3 := by decide
      have b : (nI 4).toInt = 4 := by decide
      omega
  refine ry_bV (fun b => br_f (by decide) (bad (Or.inr (Or.inl b)))) (fun w hw e => br_t rfl ?_)
  have h2 : ¬ rr_bad 12 v2 := by rw [e]; exact rr_nb (by decide) hw
  refine br_c (fun q => bad (Or.inr (Or.inr ?_))) (fun q => br_c (fun r => br_c (fun t => ok h1 h2 (Or.inl (rr_m1 t q))) (fun t => ?_)) (fun r => bad (Or.inr (Or.inr ?_))))
  · rintro (c | ⟨j, hj, f, _⟩)
    · rw [c] at q; exact absurd q (by decide)
    · rw [f] at q
      exact absurd (Int32.lt_trans q (by decide : (-1 : Int32) < 0)) (nI_pos (by omega))
  · obtain ⟨j, hj, rfl⟩ := nI_of t
    rw [nI_ltI hj (by omega)] at r
    have ej : (nI j).toNatClampNeg = j := nI_clamp (by omega)
    rw [ej]
    refine ⟨vp_in_nI (by omega) (by decide), br_c (fun s => ok h1 h2 (Or.inr ⟨j, r, rfl, s⟩)) (fun s => bad (Or.inr (Or.inr ?_)))⟩
    rintro (c | ⟨i, hi, f, g⟩)
    · exact nI_pos hj (by rw [c]; decide)
    · rw [nI_eq (by omega) (by omega)] at f
      exact s (f ▸ g)
  · rintro (c | ⟨j, hj, f, _⟩)
    · refine r (by rw [c]; exact Int32.lt_of_lt_of_le (by decide : (-1 : Int32) < 0) (nI_pos' (by omega)))
    · exact r (by rw [f]; exact nI_lt hj (by omega))
theorem ry_region0 {post : Int32 → SY → Prop} {v1 v2 v3 : Int32} (hn : nr ≤ 12) (hb : rr_bad 4 v1 ∨ rr_bad 12 v2 ∨ ¬ rr_in rt nr v1 v3) (k : post (-1) ((nI nl), (nI ns), (nI nr), (nI nc), kn, al, cs, lt, lb, lf, sb, so, sf, sg, rt, rv, ra, ap, av, af, aw, p, h, sp, rch)) : wpY_region post ((nI nl), (nI ns), (nI nr), (nI nc), kn, al, cs, lt, lb, lf, sb, so, sf, sg, rt, rv, ra, ap, av, af, aw, p, h, sp, rch) v1 v2 v3 :=
  ry_region_go hn (fun _ => k) (fun a b c => hb.elim (fun q => absurd q a) (fun q => q.elim (fun q => absurd q b) (fun q => absurd c q)))
theorem ry_region1 {post : Int32 → SY → Prop} {v1 v2 v3 : Int32} (h1 : ¬ rr_bad 4 v1) (h2 : ¬ rr_bad 12 v2) (h3 : rr_in rt nr v1 v3) (hn : nr = 12) (k : post (-2) ((nI nl), (nI ns), (nI nr), (nI nc), kn, al, cs, lt, lb, lf, sb, so, sf, sg, rt, rv, ra, ap, av, af, aw, p, h, sp, rch)) : wpY_region post ((nI nl), (nI ns), (nI nr), (nI nc), kn, al, cs, lt, lb, lf, sb, so, sf, sg, rt, rv, ra, ap, av, af, aw, p, h, sp, rch) v1 v2 v3 :=
  ry_region_go (by omega) (fun hb => hb.elim (fun q => absurd q h1) (fun q => q.elim (fun q => absurd q h2) (fun q => absurd h3 q))) (fun _ _ _ => br_t (by rw [hn]; rfl) k)
theorem ry_region {post : Int32 → SY → Prop} {v1 v2 v3 : Int32} (h1 : ¬ rr_bad 4 v1) (h2 : ¬ rr_bad 12 v2) (h3 : rr_in rt nr v1 v3) (hn : nr < 12) (k : post (nI (nr + 1) - 1) ((nI nl), (nI ns), nI (nr + 1), (nI nc), kn, al, cs, lt, lb, lf, sb, so, sf, sg, upd rt nr v1, upd rv nr v2, upd ra nr v3, ap, av, af, aw, p, h, sp, rch)) : wpY_region post ((nI nl), (nI ns), (nI nr), (nI nc), kn, al, cs, lt, lb, lf, sb, so, sf, sg, rt, rv, ra, ap, av, af, aw, p, h, sp, rch) v1 v2 v3 := by
  have ej : (nI nr).toNatClampNeg = nr := nI_clamp (by omega)
  have hln : vp_in (nI nr) 12 := vp_in_nI hn (by decide)
  refine ry_region_go (by omega) (fun hb => hb.elim (fun q => absurd q h1) (fun q => q.elim (fun q => absurd q h2) (fun q => absurd h3 q))) (fun _ _ _ => br_f (fun z => absurd ((nI_eq (b := 12) (by omega) (by decide)).mp z) (by omega)) ?_)
  rw [ej]
  exact ⟨hln, nm_e ⟨hln, nm_e ⟨hln, nm_e (nm_r (nI_1 nr) k)⟩⟩⟩
theorem rx_access0 {post : Int32 → SX → Prop} {v1 v2 v3 v4 : Int32} (hn : nr ≤ 12) (hb : rr_bad (4 + nr) v1 ∨ rr_bad 12 v2 ∨ rr_bad 2 v3) (k : post (-1) ((nI nl), (nI ns), oc, (nI nr), (nI nc), vs, ss, cs, lt, lb, lf, sb, sf, so, rt, rv, ra, ap, av, af, aw)) : wpX_access post ((nI nl), (nI ns), oc, (nI nr), (nI nc), vs, ss, cs, lt, lb, lf, sb, sf, so, rt, rv, ra, ap, av, af, aw) v1 v2 v3 v4 := by
  unfold wpX_access
  refine rx_isP hn (fun _ => br_t rfl k) (fun j hj e => br_f (by decide) ?_)
  refine rx_isV (fun _ => br_t rfl k) (fun s hs f => br_f (by decide) ?_)
  refine rx_isF (fun _ => br_t rfl k) (fun t ht g => ?_)
  exact hb.elim (fun b => absurd (e ▸ b) (rr_nb (by omega) hj)) (fun b => b.elim (fun b => absurd (f ▸ b) (rr_nb (by decide) hs)) (fun b => absurd (g ▸ b) (rr_nb (by decide) ht)))
theorem rx_access1 {post : Int32 → SX → Prop} {v1 v2 v3 v4 : Int32} (hn : nr ≤ 12) (h1 : ¬ rr_bad (4 + nr) v1) (h2 : ¬ rr_bad 12 v2) (h3 : ¬ rr_bad 2 v3) (hc : nc = 16) (k : post (-2) ((nI nl), (nI ns), oc, (nI nr), (nI nc), vs, ss, cs, lt, lb, lf, sb, sf, so, rt, rv, ra, ap, av, af, aw)) : wpX_access post ((nI nl), (nI ns), oc, (nI nr), (nI nc), vs, ss, cs, lt, lb, lf, sb, sf, so, rt, rv, ra, ap, av, af, aw) v1 v2 v3 v4 := by
  unfold wpX_access
  refine rx_isP hn (fun b => absurd b h1) (fun _ _ _ => br_f (by decide) ?_)
  refine rx_isV (fun b => absurd b h2) (fun _ _ _ => br_f (by decide) ?_)
  exact rx_isF (fun b => absurd b h3) (fun _ _ _ => br_f (by decide) (br_f (nI_nlt (b := 16) (by omega) (by omega)) k))
theorem rx_access {post : Int32 → SX → Prop} {v1 v2 v3 v4 : Int32} (hn : nr ≤ 12) (h1 : ¬ rr_bad (4 + nr) v1) (h2 : ¬ rr_bad 12 v2) (h3 : ¬ rr_bad 2 v3) (hc : nc < 16) (k : post (nI (nc + 1) - 1) ((nI nl), (nI ns), oc, (nI nr), nI (nc + 1), vs, ss, cs, lt, lb, lf, sb, sf, so, rt, rv, ra, upd ap nc v1, upd av nc v2, upd af nc v3, upd aw nc (vp_nar .boolean v4))) : wpX_access post ((nI nl), (nI ns), oc, (nI nr), (nI nc), vs, ss, cs, lt, lb, lf, sb, sf, so, rt, rv, ra, ap, av, af, aw) v1 v2 v3 v4 := by
  have ej : (nI nc).toNatClampNeg = nc := nI_clamp (by omega)
  have hln : vp_in (nI nc) 16 := vp_in_nI hc (by decide)
  unfold wpX_access
  refine rx_isP hn (fun b => absurd b h1) (fun _ _ _ => br_f (by decide) ?_)
  refine rx_isV (fun b => absurd b h2) (fun _ _ _ => br_f (by decide) ?_)
  refine rx_isF (fun b => absurd b h3) (fun _ _ _ => br_f (by decide) (br_t (nI_lt (b := 16) (by omega) (by omega)) ?_))
  rw [ej]
  exact ⟨hln, nm_e ⟨hln, nm_e ⟨hln, nm_e ⟨hln, nm_e (nm_r (nI_1 nc) k)⟩⟩⟩⟩
theorem ry_access0 {post : Int32 → SY → Prop} {v1 v2 v3 v4 : Int32} (hn : nr ≤ 12) (hb : rr_bad (4 + nr) v1 ∨ rr_bad 12 v2 ∨ rr_bad 2 v3) (k : post (-1) ((nI nl), (nI ns), (nI nr), (nI nc), kn, al, cs, lt, lb, lf, sb, so, sf, sg, rt, rv, ra, ap, av, af, aw, p, h, sp, rch)) : wpY_access post ((nI nl), (nI ns), (nI nr), (nI nc), kn, al, cs, lt, lb, lf, sb, so, sf, sg, rt, rv, ra, ap, av, af, aw, p, h, sp, rch) v1 v2 v3 v4 := by
  unfold wpY_access
  refine ry_bP hn (fun _ => br_f (by decide) k) (fun j hj e => br_t rfl ?_)
  refine ry_bV (fun _ => br_f (by decide) k) (fun s hs f => br_t rfl ?_)
  refine ry_bF (fun _ => br_f (by decide) k) (fun t ht g => ?_)
  exact hb.elim (fun b => absurd (e ▸ b) (rr_nb (by omega) hj)) (fun b => b.elim (fun b => absurd (f ▸ b) (rr_nb (by decide) hs)) (fun b => absurd (g ▸ b) (rr_nb (by decide) ht)))
theorem ry_access1 {post : Int32 → SY → Prop} {v1 v2 v3 v4 : Int32} (hn : nr ≤ 12) (h1 : ¬ rr_bad (4 + nr) v1) (h2 : ¬ rr_bad 12 v2) (h3 : ¬ rr_bad 2 v3) (hc : nc = 16) (k : post (-2) ((nI nl), (nI ns), (nI nr), (nI nc), kn, al, cs, lt, lb, lf, sb, so, sf, sg, rt, rv, ra, ap, av, af, aw, p, h, sp, rch)) : wpY_access post ((nI nl), (nI ns), (nI nr), (nI nc), kn, al, cs, lt, lb, lf, sb, so, sf, sg, rt, rv, ra, ap, av, af, aw, p, h, sp, rch) v1 v2 v3 v4 := by
  unfold wpY_access
  refine ry_bP hn (fun b => absurd b h1) (fun _ _ _ => br_t rfl ?_)
  refine ry_bV (fun b => absurd b h2) (fun _ _ _ => br_t rfl ?_)
  exact ry_bF (fun b => absurd b h3) (fun _ _ _ => br_t rfl (br_t (by rw [hc]; rfl) k))
theorem ry_access {post : Int32 → SY → Prop} {v1 v2 v3 v4 : Int32} (hn : nr ≤ 12) (h1 : ¬ rr_bad (4 + nr) v1) (h2 : ¬ rr_bad 12 v2) (h3 : ¬ rr_bad 2 v3) (hc : nc < 16) (k : post (nI (nc + 1) - 1) ((nI nl), (nI ns), (nI nr), nI (nc + 1), kn, al, cs, lt, lb, lf, sb, so, sf, sg, rt, rv, ra, upd ap nc v1, upd av nc v2, upd af nc v3, upd aw nc (vp_nar .boolean v4), p, h, sp, rch)) : wpY_access post ((nI nl), (nI ns), (nI nr), (nI nc), kn, al, cs, lt, lb, lf, sb, so, sf, sg, rt, rv, ra, ap, av, af, aw, p, h, sp, rch) v1 v2 v3 v4 := by
  have ej : (nI nc).toNatClampNeg = nc := nI_clamp (by omega)
  have hln : vp_in (nI nc) 16 := vp_in_nI hc (by decide)
  unfold wpY_access
  refine ry_bP hn (fun b => absurd b h1) (fun _ _ _ => br_t rfl ?_)
  refine ry_bV (fun b => absurd b h2) (fun _ _ _ => br_t rfl ?_)
  refine ry_bF (fun b => absurd b h3) (fun _ _ _ => br_t rfl (br_f (fun z => absurd ((nI_eq (b := 16) (by omega) (by decide)).mp z) (by omega)) ?_))
  rw [ej]
  exact ⟨hln, nm_e ⟨hln, nm_e ⟨hln, nm_e ⟨hln, nm_e (nm_r (nI_1 nc) k)⟩⟩⟩⟩
theorem rr_vi {n : Nat} {v : Int32} (hn : n < 2 ^ 31) (h : ¬ rr_bad n v) : vp_in v n := by
  rcases rr_cs n v hn with b | ⟨j, hj, rfl⟩
  · exact absurd b h
  · exact vp_in_nI hj hn
theorem rr_vm {m n : Nat} {v : Int32} (h : vp_in v m) (hm : m ≤ n) : vp_in v n := by
  rw [vp_in_iff] at *
  omega
theorem rr_RS {v1 v2 v3 : Int32} (hn : nr < 12) (h1 : ¬ rr_bad 4 v1) (h2 : ¬ rr_bad 12 v2) (h3 : rr_in rt nr v1 v3) (R : rr_R rt rv ra nr) : rr_R (upd rt nr v1) (upd rv nr v2) (upd ra nr v3) (nr + 1) := by
  intro i hi
  by_cases e : i = nr
  · subst e
    rw [pk_us, pk_us, pk_us]
    refine ⟨rr_vi (by decide) h2, ?_, rr_vi (by decide) h1⟩
    rcases h3 with rfl | ⟨j, hj, rfl, _⟩
    · exact Or.inl (by decide)
    · exact Or.inr (vp_in_nI (by omega) (by omega))
  · rw [pk_un e, pk_un e, pk_un e]
    obtain ⟨a, b, c⟩ := R i (by omega)
    exact ⟨a, b.elim Or.inl (fun b => Or.inr (rr_vm b (by omega))), c⟩
theorem rr_AR (A : rr_A ap av nr nc) : rr_A ap av (nr + 1) nc := fun i hi => ⟨rr_vm (A i hi).1 (by omega), (A i hi).2⟩
theorem rr_AS {v1 v2 : Int32} (hn : nr ≤ 12) (h1 : ¬ rr_bad (4 + nr) v1) (h2 : ¬ rr_bad 12 v2) (A : rr_A ap av nr nc) : rr_A (upd ap nc v1) (upd av nc v2) nr (nc + 1) := by
  intro i hi
  by_cases e : i = nc
  · subst e
    rw [pk_us, pk_us]
    exact ⟨rr_vi (by omega) h1, rr_vi (by decide) h2⟩
  · rw [pk_un e, pk_un e]
    exact A i (by omega)
theorem rx_pt {post : Int32 → Prop} {j : Nat} (hj : j < 12) (k : post (vs j)) : wpX_pointsTo post ((nI nl), (nI ns), oc, (nI nr), (nI nc), vs, ss, cs, lt, lb, lf, sb, sf, so, rt, rv, ra, ap, av, af, aw) (nI j) := by
  unfold wpX_pointsTo
  refine rx_isV (fun b => absurd b (rr_nb (by decide) hj)) (fun _ _ _ => br_f (by decide) ⟨vp_in_nI hj (by decide), ?_⟩)
  rw [nI_clamp (by omega)]
  exact k
theorem rx_pt0 {post : Int32 → Prop} {v : Int32} (hb : rr_bad 12 v) (k : post (-1)) : wpX_pointsTo post ((nI nl), (nI ns), oc, (nI nr), (nI nc), vs, ss, cs, lt, lb, lf, sb, sf, so, rt, rv, ra, ap, av, af, aw) v := by
  unfold wpX_pointsTo
  exact rx_isV (fun _ => br_t rfl k) (fun j hj e => absurd (e ▸ hb) (rr_nb (by decide) hj))
theorem ry_pt0 {post : Int32 → SY → Prop} {v : Int32} (hb : rr_bad 12 v) (k : post (-1) ((nI nl), (nI ns), (nI nr), (nI nc), kn, al, cs, lt, lb, lf, sb, so, sf, sg, rt, rv, ra, ap, av, af, aw, p, h, sp, rch)) : wpY_pointsTo post ((nI nl), (nI ns), (nI nr), (nI nc), kn, al, cs, lt, lb, lf, sb, so, sf, sg, rt, rv, ra, ap, av, af, aw, p, h, sp, rch) v := by
  unfold wpY_pointsTo
  exact ry_bV (fun _ => br_f (by decide) k) (fun j hj e => absurd (e ▸ hb) (rr_nb (by decide) hj))
theorem ry_pt {post : Int32 → SY → Prop} {j : Nat} (hj : j < 12) (hl : nl ≤ 20) (hs : ns ≤ 20) (hL : rg_RL lt lb lf nl) (hS : rg_RL so sb sf ns)
    (K : kn ≠ 0 → rg_Eq 12 vs p ∧ rg_Eq 16 ss h) (L : rg_Le (rg_Cl al cs lt lb lf sb sf so nl ns) vs ss)
    (k : ∀ kn p h, kn ≠ 0 → rg_Eq 12 vs p → rg_Eq 16 ss h → post (vs j) ((nI nl), (nI ns), (nI nr), (nI nc), kn, al, cs, lt, lb, lf, sb, so, sf, sg, rt, rv, ra, ap, av, af, aw, p, h, sp, rch)) : wpY_pointsTo post ((nI nl), (nI ns), (nI nr), (nI nc), kn, al, cs, lt, lb, lf, sb, so, sf, sg, rt, rv, ra, ap, av, af, aw, p, h, sp, rch) (nI j) := by
  unfold wpY_pointsTo
  refine ry_bV (fun b => absurd b (rr_nb (by decide) hj)) (fun _ _ _ => br_t rfl ?_)
  refine ry_work hl hs hL hS K L (fun kn p h z e f => ⟨vp_in_nI hj (by decide), ?_⟩)
  rw [nI_clamp (by omega), e j hj]
  exact k kn p h z e f
theorem rx_ho {post : Int32 → Prop} {s f : Nat} (hs : s < 8) (hf : f < 2) (k : post (ss (s * 2 + f))) : wpX_holds post ((nI nl), (nI ns), oc, (nI nr), (nI nc), vs, ss, cs, lt, lb, lf, sb, sf, so, rt, rv, ra, ap, av, af, aw) (nI s) (nI f) := by
  have es := rg_slot (s := s) (y := nI f) hs (vp_in_nI hf (by decide))
  rw [nI_clamp (show f < 2 ^ 31 by omega)] at es
  unfold wpX_holds
  refine rx_isS (fun b => absurd b (rr_nb (by decide) hs)) (fun _ _ _ => br_f (by decide) ?_)
  refine rx_isF (fun b => absurd b (rr_nb (by decide) hf)) (fun _ _ _ => br_f (by decide) ⟨es.1, ?_⟩)
  rw [es.2]
  exact k
theorem rx_ho0 {post : Int32 → Prop} {v1 v2 : Int32} (hb : rr_bad 8 v1 ∨ rr_bad 2 v2) (k : post (-1)) : wpX_holds post ((nI nl), (nI ns), oc, (nI nr), (nI nc), vs, ss, cs, lt, lb, lf, sb, sf, so, rt, rv, ra, ap, av, af, aw) v1 v2 := by
  unfold wpX_holds
  refine rx_isS (fun _ => br_t rfl k) (fun j hj e => br_f (by decide) ?_)
  refine rx_isF (fun _ => br_t rfl k) (fun s hs f => ?_)
  exact hb.elim (fun b => absurd (e ▸ b) (rr_nb (by decide) hj)) (fun b => absurd (f ▸ b) (rr_nb (by decide) hs))
theorem ry_ho0 {post : Int32 → SY → Prop} {v1 v2 : Int32} (hb : rr_bad 8 v1 ∨ rr_bad 2 v2) (k : post (-1) ((nI nl), (nI ns), (nI nr), (nI nc), kn, al, cs, lt, lb, lf, sb, so, sf, sg, rt, rv, ra, ap, av, af, aw, p, h, sp, rch)) : wpY_holds post ((nI nl), (nI ns), (nI nr), (nI nc), kn, al, cs, lt, lb, lf, sb, so, sf, sg, rt, rv, ra, ap, av, af, aw, p, h, sp, rch) v1 v2 := by
  unfold wpY_holds
  refine br_c (fun _ => k) (fun z => br_c (fun _ => k) (fun y => ?_))
  refine ry_bF (fun _ => br_f (by decide) k) (fun s hs f => ?_)
  refine hb.elim (fun b => ?_) (fun b => absurd (f ▸ b) (rr_nb (by decide) hs))
  rcases b with b | b
  · exact absurd b z
  · exact absurd (Int32.not_lt.mp y) (rr_gt b (by decide))
theorem ry_ho {post : Int32 → SY → Prop} {s f : Nat} (hs : s < 8) (hf : f < 2) (hl : nl ≤ 20) (hn : ns ≤ 20) (hL : rg_RL lt lb lf nl) (hS : rg_RL so sb sf ns)
    (K : kn ≠ 0 → rg_Eq 12 vs p ∧ rg_Eq 16 ss h) (L : rg_Le (rg_Cl al cs lt lb lf sb sf so nl ns) vs ss)
    (k : ∀ kn p h, kn ≠ 0 → rg_Eq 12 vs p → rg_Eq 16 ss h → post (ss (s * 2 + f)) ((nI nl), (nI ns), (nI nr), (nI nc), kn, al, cs, lt, lb, lf, sb, so, sf, sg, rt, rv, ra, ap, av, af, aw, p, h, sp, rch)) : wpY_holds post ((nI nl), (nI ns), (nI nr), (nI nc), kn, al, cs, lt, lb, lf, sb, so, sf, sg, rt, rv, ra, ap, av, af, aw, p, h, sp, rch) (nI s) (nI f) := by
  have es := rg_slot (s := s) (y := nI f) hs (vp_in_nI hf (by decide))
  rw [nI_clamp (show f < 2 ^ 31 by omega)] at es
  unfold wpY_holds
  refine br_f (nI_pos (by omega)) (br_f (nI_nlt (a := 7) (by omega) (by decide)) ?_)
  refine ry_bF (fun b => absurd b (rr_nb (by decide) hf)) (fun _ _ _ => br_t rfl ?_)
  refine ry_work hl hn hL hS K L (fun kn p h z e g => ⟨es.1, ?_⟩)
  rw [es.2, g _ (by omega)]
  exact k kn p h z e g
end
end
section
theorem i_vc_once {k : Nat} {u : SX} {v : SY} (I : i_Rel k u v) (hk : k + 5 ≤ 2560) (v1 : Int32) (v2 : Int32) : wpX_once (fun r u' => wpY_once (fun r' v' => r' = r ∧ i_Rel (k + 5) u' v') v v1 (lw_bz v2)) u v1 (lw_bz v2) := by
  obtain ⟨nl, ns, nr, nc, oc, kn, vs, ss, cs, lt, lb, lf, sb, sf, so, rt, rv, ra, ap, av, af, aw, al, sg, p, h, sp, rch, rfl, rfl, F⟩ := I
  obtain ⟨f1, f2, f3, f4, f5, f6, f7, f8, f9, f10, f11⟩ := id F
  rcases rr_cs 8 v1 (by decide) with b | ⟨s, hs, rfl⟩
  · exact rx_once0 b (ry_once0 b ⟨rfl, rr_mk F⟩)
  rcases lw_bz_01 v2 with e | e <;> rw [e]
  · exact rx_once hs (fun _ => ry_once hs f7 ⟨rfl, rr_mk ⟨f1, f2, f3, f4, f5, f6, rr_O0 hs f7, f8, f9, f10, f11⟩⟩) (fun z => absurd rfl z)
  · exact rx_once hs (fun z => absurd z (by decide)) (fun _ => ry_once hs f7 ⟨rfl, rr_mk ⟨f1, f2, f3, f4, f5, f6, rr_O1 (by decide) hs f7, f8, f9, f10, f11⟩⟩)
theorem i_vc_region {k : Nat} {u : SX} {v : SY} (I : i_Rel k u v) (hk : k + 5 ≤ 2560) (v1 : Int32) (v2 : Int32) (v3 : Int32) : wpX_region (fun r u' => wpY_region (fun r' v' => r' = r ∧ i_Rel (k + 5) u' v') v v1 v2 v3) u v1 v2 v3 := by
  obtain ⟨nl, ns, nr, nc, oc, kn, vs, ss, cs, lt, lb, lf, sb, sf, so, rt, rv, ra, ap, av, af, aw, al, sg, p, h, sp, rch, rfl, rfl, F⟩ := I
  obtain ⟨f1, f2, f3, f4, f5, f6, f7, f8, f9, f10, f11⟩ := id F
  by_cases h1 : rr_bad 4 v1
  · exact rx_region0 f3 (Or.inl h1) (ry_region0 f3 (Or.inl h1) ⟨rfl, rr_mk F⟩)
  by_cases h2 : rr_bad 12 v2
  · exact rx_region0 f3 (Or.inr (Or.inl h2)) (ry_region0 f3 (Or.inr (Or.inl h2)) ⟨rfl, rr_mk F⟩)
  by_cases h3 : rr_in rt nr v1 v3
  · by_cases z : nr = 12
    · exact rx_region1 h1 h2 h3 z (ry_region1 h1 h2 h3 z ⟨rfl, rr_mk F⟩)
    · exact rx_region h1 h2 h3 (by omega) (ry_region h1 h2 h3 (by omega) ⟨rfl, rr_mk ⟨f1, f2, by omega, f4, f5, f6, f7, rr_RS (by omega) h1 h2 h3 f8, rr_AR f9, f10, f11⟩⟩)
  · exact rx_region0 f3 (Or.inr (Or.inr h3)) (ry_region0 f3 (Or.inr (Or.inr h3)) ⟨rfl, rr_mk F⟩)
theorem i_vc_access {k : Nat} {u : SX} {v : SY} (I : i_Rel k u v) (hk : k + 5 ≤ 2560) (v1 : Int32) (v2 : Int32) (v3 : Int32) (v4 : Int32) : wpX_access (fun r u' => wpY_access (fun r' v' => r' = r ∧ i_Rel (k + 5) u' v') v v1 v2 v3 (lw_bz v4)) u v1 v2 v3 (lw_bz v4) := by
  obtain ⟨nl, ns, nr, nc, oc, kn, vs, ss, cs, lt, lb, lf, sb, sf, so, rt, rv, ra, ap, av, af, aw, al, sg, p, h, sp, rch, rfl, rfl, F⟩ := I
  obtain ⟨f1, f2, f3, f4, f5, f6, f7, f8, f9, f10, f11⟩ := id F
  by_cases h1 : rr_bad (4 + nr) v1
  · exact rx_access0 f3 (Or.inl h1) (ry_access0 f3 (Or.inl h1) ⟨rfl, rr_mk F⟩)
  by_cases h2 : rr_bad 12 v2
  · exact rx_access0 f3 (Or.inr (Or.inl h2)) (ry_access0 f3 (Or.inr (Or.inl h2)) ⟨rfl, rr_mk F⟩)
  by_cases h3 : rr_bad 2 v3
  · exact rx_access0 f3 (Or.inr (Or.inr h3)) (ry_access0 f3 (Or.inr (Or.inr h3)) ⟨rfl, rr_mk F⟩)
  by_cases z : nc = 16
  · exact rx_access1 f3 h1 h2 h3 z (ry_access1 f3 h1 h2 h3 z ⟨rfl, rr_mk F⟩)
  exact rx_access f3 h1 h2 h3 (by omega) (ry_access f3 h1 h2 h3 (by omega) ⟨rfl, rr_mk ⟨f1, f2, f3, by omega, f5, f6, f7, f8, rr_AS f3 h1 h2 f9, f10, f11⟩⟩)
theorem i_vc_pointsTo {k : Nat} {u : SX} {v : SY} (I : i_Rel k u v) (hk : k + 5 ≤ 2560) (v1 : Int32) : wpX_pointsTo (fun r => wpY_pointsTo (fun r' v' => r' = r ∧ i_Rel (k + 5) u v') v v1) u v1 := by
  obtain ⟨nl, ns, nr, nc, oc, kn, vs, ss, cs, lt, lb, lf, sb, sf, so, rt, rv, ra, ap, av, af, aw, al, sg, p, h, sp, rch, rfl, rfl, F⟩ := I
  obtain ⟨f1, f2, f3, f4, f5, f6, f7, f8, f9, f10, f11⟩ := id F
  rcases rr_cs 12 v1 (by decide) with b | ⟨a, ha, rfl⟩
  · exact rx_pt0 b (ry_pt0 b ⟨rfl, rr_mk F⟩)
  exact rx_pt ha (ry_pt ha f1 f2 f5 f6 f11 f10 (fun kn' q g z e f => ⟨rfl, rr_mk ⟨f1, f2, f3, f4, f5, f6, f7, f8, f9, f10, fun _ => ⟨e, f⟩⟩⟩))
theorem i_vc_holds {k : Nat} {u : SX} {v : SY} (I : i_Rel k u v) (hk : k + 5 ≤ 2560) (v1 : Int32) (v2 : Int32) : wpX_holds (fun r => wpY_holds (fun r' v' => r' = r ∧ i_Rel (k + 5) u v') v v1 v2) u v1 v2 := by
  obtain ⟨nl, ns, nr, nc, oc, kn, vs, ss, cs, lt, lb, lf, sb, sf, so, rt, rv, ra, ap, av, af, aw, al, sg, p, h, sp, rch, rfl, rfl, F⟩ := I
  obtain ⟨f1, f2, f3, f4, f5, f6, f7, f8, f9, f10, f11⟩ := id F
  rcases rr_cs 8 v1 (by decide) with b | ⟨a, ha, rfl⟩
  · exact rx_ho0 (Or.inl b) (ry_ho0 (Or.inl b) ⟨rfl, rr_mk F⟩)
  rcases rr_cs 2 v2 (by decide) with b | ⟨s, hs, rfl⟩
  · exact rx_ho0 (Or.inr b) (ry_ho0 (Or.inr b) ⟨rfl, rr_mk F⟩)
  exact rx_ho ha hs (ry_ho ha hs f1 f2 f5 f6 f11 f10 (fun kn' q g z e f => ⟨rfl, rr_mk ⟨f1, f2, f3, f4, f5, f6, f7, f8, f9, f10, fun _ => ⟨e, f⟩⟩⟩))
end
section
/-! ===== the locks surely held; races ===== -/
/-- the regions outwards from x -/
def rh_it (ra : Nat → Int32) (x : Int32) : Nat → Int32
  | 0 => x
  | n + 1 => if rh_it ra x n < 0 then rh_it ra x n else ra (rh_it ra x n).toNatClampNeg
theorem rh_itn {ra : Nat → Int32} {x : Int32} {k : Nat} (h : rh_it ra x k < 0) : ∀ d, rh_it ra x (k + d) < 0
  | 0 => h
  | d + 1 => by
    have ih := rh_itn h d
    show (if rh_it ra x (k + d) < 0 then rh_it ra x (k + d) else ra (rh_it ra x (k + d)).toNatClampNeg) < 0
    rw [if_pos ih]; exact ih
theorem rh_itr {rt rv ra : Nat → Int32} {nr : Nat} {x : Int32} (R : rr_R rt rv ra nr) (hn : nr ≤ 12) (hx : x < 0 ∨ vp_in x nr) : ∀ k, rh_it ra x k < 0 ∨ vp_in (rh_it ra x k) nr
  | 0 => hx
  | k + 1 => by
    have ih := rh_itr R hn hx k
    show (if rh_it ra x k < 0 then rh_it ra x k else ra (rh_it ra x k).toNatClampNeg) < 0 ∨ vp_in (if rh_it ra x k < 0 then rh_it ra x k else ra (rh_it ra x k).toNatClampNeg) nr
    by_cases z : rh_it ra x k < 0
    · rw [if_pos z]; exact Or.inl z
    · rw [if_neg z]
      rcases ih with c | c
      · exact absurd c z
      · exact (R _ (rg_lt c (by omega))).2.1
/-- something is so of one of the first d regions outwards from x -/
def rh_A (Q : Nat → Nat → Prop) (ra : Nat → Int32) (x : Int32) (d s : Nat) : Prop := ∃ k, k < d ∧ ¬ rh_it ra x k < 0 ∧ Q (rh_it ra x k).toNatClampNeg s
theorem rh_A0 {Q : Nat → Nat → Prop} {ra : Nat → Int32} {x : Int32} {s : Nat} : ¬ rh_A Q ra x 0 s := fun ⟨k, h, _⟩ => absurd h (Nat.not_lt_zero k)
theorem rh_AS {Q : Nat → Nat → Prop} {ra : Nat → Int32} {x : Int32} {d s : Nat} (z : ¬ rh_it ra x d < 0) : rh_A Q ra x (d + 1) s ↔ rh_A Q ra x d s ∨ Q (rh_it ra x d).toNatClampNeg s := by
  constructor
  · rintro ⟨k, h, a, b⟩
    by_cases e : k = d
    · subst e; exact Or.inr b
    · exact Or.inl ⟨k, by omega, a, b⟩
  · rintro (⟨k, h, a, b⟩ | b)
    · exact ⟨k, by omega, a, b⟩
    · exact ⟨d, by omega, z, b⟩
theorem rh_AN {Q : Nat → Nat → Prop} {ra : Nat → Int32} {x : Int32} {d s : Nat} (z : rh_it ra x d < 0) {e : Nat} (h : d ≤ e) : rh_A Q ra x e s ↔ rh_A Q ra x d s := by
  constructor
  · rintro ⟨k, hk, a, b⟩
    rcases Nat.lt_or_ge k d with c | c
    · exact ⟨k, c, a, b⟩
    · have := rh_itn z (k - d)
      rw [show d + (k - d) = k by omega] at this
      exact absurd this a
  · rintro ⟨k, hk, a, b⟩
    exact ⟨k, by omega, a, b⟩
/-- region i surely locks s -/
def rh_L (vs rv : Nat → Int32) (oc : Int32) (i s : Nat) : Prop := s < 8 ∧ vs (rv i).toNatClampNeg = (1 : Int32) <<< (nI s &&& 31) ∧ bt oc s = true
theorem rh_pow256 : ∀ k, k < 256 → ∀ s, s < 8 → (((nI k &&& (nI k - 1)) = 0 ∧ bt (nI k) s = true) ↔ nI k = (1 : Int32) <<< (nI s &&& 31)) := by decide +kernel
theorem rh_pow {x : Int32} (h : rf_b8 x) {s : Nat} (hs : s < 8) : ((x &&& (x - 1)) = 0 ∧ bt x s = true) ↔ x = (1 : Int32) <<< (nI s &&& 31) := by
  have e : x = x &&& 255 := b_ext (fun i _ => by
    rw [b_and, b_255]
    rcases Nat.lt_or_ge i 8 with z | z
    · rw [decide_eq_true z, Bool.and_true]
    · rw [h i z]; rfl)
  obtain ⟨k, hk, f⟩ := pk_andE x (m := 255) 8 (by decide)
  rw [← e] at f
  subst f
  exact rh_pow256 k hk s hs
section
variable {nl ns nr nc : Nat} {oc kn : Int32} {vs ss cs lt lb lf sb sf so rt rv ra ap av af aw al sg p h sp rch : Nat → Int32}
theorem rx_sl {post : Int32 → Prop} {i : Nat} (hn : nr ≤ 12) (hi : i < nr) (R : rr_R rt rv ra nr) (B : rg_B8 12 vs) (hP : ∀ m, (∀ s, bt m s = true ↔ rh_L vs rv oc i s) → post m) : wpX_surelyLocked post ((nI nl), (nI ns), oc, (nI nr), (nI nc), vs, ss, cs, lt, lb, lf, sb, sf, so, rt, rv, ra, ap, av, af, aw) (nI i) := by
  have ei : (nI i).toNatClampNeg = i := nI_clamp (by omega)
  have r := (R i hi).1
  have b := B _ (rg_lt r (by decide))
  unfold wpX_surelyLocked
  refine ⟨vp_in_nI (by omega) (by decide), ?_⟩
  rw [ei]
  refine ⟨r, nm_e (br_c (fun z => br_f (by decide) (hP _ (fun s => ?_))) (fun z => br_t rfl (hP _ (fun s => ?_))))⟩
  · rw [b_and, Bool.and_eq_true]
    constructor
    · rintro ⟨c, d⟩
      exact ⟨rf_b8lt b c, (rh_pow b (rf_b8lt b c)).mp ⟨z, c⟩, d⟩
    · rintro ⟨c, d, e⟩
      exact ⟨((rh_pow b c).mpr d).2, e⟩
  · rw [b_0]
    constructor
    · intro c; exact absurd c (by decide)
    · rintro ⟨c, d, _⟩
      exact absurd ((rh_pow b c).mpr d).1 z
theorem rx_sh9 {post : Int32 → Prop} {x : Int32} (hx : x < 0 ∨ vp_in x nr) (hn : nr ≤ 12) (R : rr_R rt rv ra nr) (B : rg_B8 12 vs) (hP : ∀ m, (∀ s, bt m s = true ↔ rh_A (rh_L vs rv oc) ra x 12 s) → post m) :
    ∀ d k m, k + d = 12 → (∀ s, bt m s = true ↔ rh_A (rh_L vs rv oc) ra x k s) → wX_surelyHeld_9 post (nI nl) (nI ns) oc (nI nr) (nI nc) vs ss cs lt lb lf sb sf so rt rv ra ap av af aw (d + 1) m (rh_it ra x k) (nI k) := by
  intro d
  induction d with
  | zero =>
    intro k m hk hm
    obtain rfl : k = 12 := by omega
    exact br_t (by decide) (hP m hm)
  | succ d ih =>
    intro k m hk hm
    refine br_f (nI_ge (b := 12) (by omega) (by decide)) (br_c (fun z => hP m (fun s => (hm s).trans (rh_AN z (by omega)).symm)) (fun z => ?_))
    have hr := (rh_itr R hn hx k).resolve_left z
    obtain ⟨i, hi, e⟩ := vp_in_of hr (by omega)
    have ei : (nI i).toNatClampNeg = i := nI_clamp (by omega)
    have e1 : ra (nI i).toNatClampNeg = rh_it ra x (k + 1) := by
      show _ = if rh_it ra x k < 0 then rh_it ra x k else ra (rh_it ra x k).toNatClampNeg
      rw [if_neg z, e]
    rw [e]
    refine rx_sl hn hi R B (fun r hr => nm_e ⟨vp_in_nI (by omega) (by decide), nm_r e1 (nm_r (nI_1 k) (ih (k + 1) _ (by omega) (fun s => ?_)))⟩)
    rw [b_or, Bool.or_eq_true, hm s, hr s, rh_AS z, e, ei]
theorem rh_pl {j : Nat} (hj : j < 4 + nr) (hn : nr ≤ 12) : nI j - 4 < 0 ∨ vp_in (nI j - 4) nr := by
  rcases Nat.lt_or_ge j 4 with z | z
  · exact Or.inl (pk_sneg (b := 4) (by decide) z)
  · refine Or.inr ?_
    have : nI j - 4 = nI (j - 4) := pk_sub (b := 4) z
    rw [this]
    exact vp_in_nI (by omega) (by omega)
theorem rx_sh {post : Int32 → Prop} {j : Nat} (hj : j < 4 + nr) (hn : nr ≤ 12) (R : rr_R rt rv ra nr) (B : rg_B8 12 vs) (hP : ∀ m, (∀ s, bt m s = true ↔ rh_A (rh_L vs rv oc) ra (nI j - 4) 12 s) → post m) : wpX_surelyHeld post ((nI nl), (nI ns), oc, (nI nr), (nI nc), vs, ss, cs, lt, lb, lf, sb, sf, so, rt, rv, ra, ap, av, af, aw) (nI j) :=
  nm_e ⟨13, rx_sh9 (rh_pl hj hn) hn R B hP 12 0 0 rfl (fun s => by rw [b_0]; exact ⟨fun z => absurd z (by decide), fun z => absurd z rh_A0⟩)⟩
theorem rx_held0 {post : Int32 → Prop} {v : Int32} (hn : nr ≤ 12) (hb : rr_bad (4 + nr) v) (k : post (-1)) : wpX_held post ((nI nl), (nI ns), oc, (nI nr), (nI nc), vs, ss, cs, lt, lb, lf, sb, sf, so, rt, rv, ra, ap, av, af, aw) v := by
  unfold wpX_held
  exact rx_isP hn (fun _ => br_t rfl k) (fun j hj e => absurd (e ▸ hb) (rr_nb (by omega) hj))
theorem rx_held {post : Int32 → Prop} {j : Nat} (hj : j < 4 + nr) (hn : nr ≤ 12) (R : rr_R rt rv ra nr) (B : rg_B8 12 vs) (hP : ∀ m, (∀ s, bt m s = true ↔ rh_A (rh_L vs rv oc) ra (nI j - 4) 12 s) → post m) : wpX_held post ((nI nl), (nI ns), oc, (nI nr), (nI nc), vs, ss, cs, lt, lb, lf, sb, sf, so, rt, rv, ra, ap, av, af, aw) (nI j) := by
  unfold wpX_held
  exact rx_isP hn (fun b => absurd b (rr_nb (by omega) hj)) (fun _ _ _ => br_f (by decide) (rx_sh hj hn R B hP))
theorem ry_h37 {post : Int32 → SY → Prop} {J : Int32 → Int32 → Int32 → Prop} {i k : Nat} {m0 : Int32} (hn : nr ≤ 12) (hi : i < nr) (R : rr_R rt rv ra nr) (O : rr_O oc sg) (e : rg_Eq 12 vs p)
    (hJ : ∀ m, (∀ s, bt m s = true ↔ (bt m0 s = true ∨ rh_L vs rv oc i s)) → J m (ra i) (nI (k + 1))) :
    ∀ d s m, s + d = 8 → (∀ t, bt m t = true ↔ (bt m0 t = true ∨ (t < s ∧ rh_L vs rv oc i t))) → wY_held_37 post J (nI i) (nI k) (nI nl) (nI ns) (nI nr) (nI nc) kn al cs lt lb lf sb so sf sg rt rv ra ap av af aw p h sp rch (d + 1) m (nI s) := by
  have ei : (nI i).toNatClampNeg = i := nI_clamp (by omega)
  have hin : vp_in (nI i) 12 := vp_in_nI (by omega) (by decide)
  have r := (R i hi).1
  intro d
  induction d with
  | zero =>
    intro s m hs hm
    obtain rfl : s = 8 := by omega
    refine br_t (by decide) ⟨hin, nm_r (by rw [ei]) (nm_r (nI_1 k) (hJ m (fun t => (hm t).trans ?_)))⟩
    constructor
    · rintro (c | c)
      · exact Or.inl c
      · exact Or.inr c.2
    · rintro (c | c)
      · exact Or.inl c
      · exact Or.inr ⟨c.1, c⟩
  | succ d ih =>
    intro s m hs hm
    have es : (nI s).toNatClampNeg = s := nI_clamp (by omega)
    refine br_f (nI_ge (b := 8) (by omega) (by decide)) ⟨hin, ?_⟩
    rw [ei, es, e _ (rg_lt r (by decide))]
    have no : ¬ rh_L vs rv oc i s → ∀ t, bt m t = true ↔ (bt m0 t = true ∨ (t < s + 1 ∧ rh_L vs rv oc i t)) := fun n t => by
      rw [hm t]
      constructor
      · rintro (c | c)
        · exact Or.inl c
        · exact Or.inr ⟨by omega, c.2⟩
      · rintro (c | c)
        · exact Or.inl c
        · refine Or.inr ⟨?_, c.2⟩
          by_cases q : t = s
          · subst q; exact absurd c.2 n
          · omega
    refine ⟨r, br_c (fun z => ⟨vp_in_nI (by omega) (by decide), br_c (fun y => ?_) (fun y => ?_)⟩) (fun z => ?_)⟩
    · exact nm_r (nI_1 s) (ih (s + 1) m (by omega) (no (fun q => (O s (by omega)).mp q.2.2 y)))
    · refine nm_e (nm_r (nI_1 s) (ih (s + 1) _ (by omega) (fun t => ?_)))
      rw [b_or, Bool.or_eq_true, rf_one s (by omega), decide_eq_true_eq, hm t]
      constructor
      · rintro ((c | c) | c)
        · exact Or.inl c
        · exact Or.inr ⟨by omega, c.2⟩
        · subst c; exact Or.inr ⟨by omega, by omega, z, (O t (by omega)).mpr y⟩
      · rintro (c | c)
        · exact Or.inl (Or.inl c)
        · by_cases q : t = s
          · exact Or.inr q
          · exact Or.inl (Or.inr ⟨by omega, c.2⟩)
    · exact nm_r (nI_1 s) (ih (s + 1) m (by omega) (no (fun q => z q.2.1)))
theorem ry_h23 {post : Int32 → SY → Prop} {x : Int32} (hx : x < 0 ∨ vp_in x nr) (hn : nr ≤ 12) (R : rr_R rt rv ra nr) (O : rr_O oc sg) (e : rg_Eq 12 vs p) (hP : ∀ m, (∀ s, bt m s = true ↔ rh_A (rh_L vs rv oc) ra x 12 s) → post m ((nI nl), (nI ns), (nI nr), (nI nc), kn, al, cs, lt, lb, lf, sb, so, sf, sg, rt, rv, ra, ap, av, af, aw, p, h, sp, rch)) :
    ∀ d k m, k + d = 12 → (∀ s, bt m s = true ↔ rh_A (rh_L vs rv oc) ra x k s) → wY_held_23 post (nI nl) (nI ns) (nI nr) (nI nc) kn al cs lt lb lf sb so sf sg rt rv ra ap av af aw p h sp rch (d + 1) m (rh_it ra x k) (nI k) := by
  intro d
  induction d with
  | zero =>
    intro k m hk hm
    obtain rfl : k = 12 := by omega
    exact br_t (by decide) (hP m hm)
  | succ d ih =>
    intro k m hk hm
    refine br_f (nI_ge (b := 12) (by omega) (by decide)) (br_c (fun z => hP m (fun s => (hm s).trans (rh_AN z (by omega)).symm)) (fun z => ⟨9, ?_⟩))
    have hr := (rh_itr R hn hx k).resolve_left z
    obtain ⟨i, hi, f⟩ := vp_in_of hr (by omega)
    have ei : (nI i).toNatClampNeg = i := nI_clamp (by omega)
    have e1 : ra i = rh_it ra x (k + 1) := by
      show _ = if rh_it ra x k < 0 then rh_it ra x k else ra (rh_it ra x k).toNatClampNeg
      rw [if_neg z, f, ei]
    rw [f]
    refine ry_h37 (vs := vs) (oc := oc) hn hi R O e (fun m' h' => ?_) 8 0 m rfl (fun t => ⟨fun c => Or.inl c, fun c => c.elim id (fun c => absurd c.1 (Nat.not_lt_zero t))⟩)
    rw [e1]
    exact ih (k + 1) m' (by omega) (fun s => by rw [h' s, hm s, rh_AS z, f, ei])
theorem ry_held0 {post : Int32 → SY → Prop} {v : Int32} (hn : nr ≤ 12) (hb : rr_bad (4 + nr) v) (k : post (-1) ((nI nl), (nI ns), (nI nr), (nI nc), kn, al, cs, lt, lb, lf, sb, so, sf, sg, rt, rv, ra, ap, av, af, aw, p, h, sp, rch)) : wpY_held post ((nI nl), (nI ns), (nI nr), (nI nc), kn, al, cs, lt, lb, lf, sb, so, sf, sg, rt, rv, ra, ap, av, af, aw, p, h, sp, rch) v := by
  unfold wpY_held
  exact ry_bP hn (fun _ => br_f (by decide) k) (fun j hj e => absurd (e ▸ hb) (rr_nb (by omega) hj))
theorem ry_held {post : Int32 → SY → Prop} {j : Nat} (hj : j < 4 + nr) (hn : nr ≤ 12) (R : rr_R rt rv ra nr) (O : rr_O oc sg) (hl : nl ≤ 20) (hs : ns ≤ 20) (hL : rg_RL lt lb lf nl) (hS : rg_RL so sb sf ns)
    (K : kn ≠ 0 → rg_Eq 12 vs p ∧ rg_Eq 16 ss h) (L : rg_Le (rg_Cl al cs lt lb lf sb sf so nl ns) vs ss)
    (hP : ∀ kn p h m, kn ≠ 0 → rg_Eq 12 vs p → rg_Eq 16 ss h → (∀ s, bt m s = true ↔ rh_A (rh_L vs rv oc) ra (nI j - 4) 12 s) → post m ((nI nl), (nI ns), (nI nr), (nI nc), kn, al, cs, lt, lb, lf, sb, so, sf, sg, rt, rv, ra, ap, av, af, aw, p, h, sp, rch)) : wpY_held post ((nI nl), (nI ns), (nI nr), (nI nc), kn, al, cs, lt, lb, lf, sb, so, sf, sg, rt, rv, ra, ap, av, af, aw, p, h, sp, rch) (nI j) := by
  unfold wpY_held
  refine ry_bP hn (fun b => absurd b (rr_nb (by omega) hj)) (fun _ _ _ => br_t rfl ?_)
  refine ry_work hl hs hL hS K L (fun kn p h z e f => nm_e ⟨13, ?_⟩)
  exact ry_h23 (rh_pl hj hn) hn R O e (fun m hm => hP kn p h m z e f hm) 12 0 0 rfl (fun s => by rw [b_0]; exact ⟨fun z => absurd z (by decide), fun z => absurd z rh_A0⟩)
end
end
section
/-! ===== race and races ===== -/
def rh_th (rt : Nat → Int32) (x : Int32) : Int32 := if 4 ≤ x then rt (x - 4).toNatClampNeg else x
def rh_Q (rt ap av af aw vs rv ra : Nat → Int32) (oc : Int32) (i j : Nat) : Prop :=
  rh_th rt (ap i) ≠ rh_th rt (ap j) ∧ af i = af j ∧ (aw i ≠ 0 ∨ aw j ≠ 0) ∧ ¬ (vs (av i).toNatClampNeg &&& vs (av j).toNatClampNeg) = 0 ∧ ∀ s, ¬ (rh_A (rh_L vs rv oc) ra (ap i - 4) 12 s ∧ rh_A (rh_L vs rv oc) ra (ap j - 4) 12 s)
theorem rh_and0 {x y : Int32} {P Q : Nat → Prop} (hx : ∀ s, bt x s = true ↔ P s) (hy : ∀ s, bt y s = true ↔ Q s) : (x &&& y) = 0 ↔ ∀ s, ¬ (P s ∧ Q s) := by
  constructor
  · rintro e s ⟨a, b⟩
    have : bt (x &&& y) s = true := by rw [b_and, (hx s).mpr a, (hy s).mpr b]; rfl
    rw [e, b_0] at this
    exact absurd this (by decide)
  · intro e
    apply b_ext
    intro i _
    rw [b_0]
    apply rf_nf
    intro z
    rw [b_and, Bool.and_eq_true] at z
    exact e i ⟨(hx i).mp z.1, (hy i).mp z.2⟩
theorem rh_p12 {nr j : Nat} (hn : nr ≤ 12) (hj : j < 4 + nr) (z : (4 : Int32) ≤ nI j) : vp_in (nI j - 4) 12 := by
  have z' : 4 ≤ j := (nI_leI (a := 4) (by decide) (by omega)).mp z
  have : nI j - 4 = nI (j - 4) := pk_sub (b := 4) z'
  rw [this]
  exact vp_in_nI (by omega) (by omega)
noncomputable def rh_q (Q : Prop) : Nat := @ite Nat Q (Classical.propDecidable Q) 1 0
theorem rh_q1 {Q : Prop} (h : Q) : rh_q Q = 1 := if_pos h
theorem rh_q0 {Q : Prop} (h : ¬ Q) : rh_q Q = 0 := if_neg h
def rh_s (f : Nat → Nat) : Nat → Nat
  | 0 => 0
  | n + 1 => rh_s f n + f n
theorem rh_sS (f : Nat → Nat) (n : Nat) : rh_s f (n + 1) = rh_s f n + f n := rfl
theorem rh_sadd (f g : Nat → Nat) : ∀ n, rh_s (fun i => f i + g i) n = rh_s f n + rh_s g n
  | 0 => rfl
  | n + 1 => by
    rw [rh_sS, rh_sS, rh_sS, rh_sadd f g n]
    omega
theorem rh_scong {f g : Nat → Nat} : ∀ n, (∀ i, i < n → f i = g i) → rh_s f n = rh_s g n
  | 0 => fun _ => rfl
  | n + 1 => fun h => by rw [rh_sS, rh_sS, rh_scong n (fun i hi => h i (by omega)), h n (by omega)]
theorem rh_s0 {f : Nat → Nat} : ∀ n, (∀ i, i < n → f i = 0) → rh_s f n = 0
  | 0 => fun _ => rfl
  | n + 1 => fun h => by rw [rh_sS, rh_s0 n (fun i hi => h i (by omega)), h n (by omega)]
/-- pairs counted by the later and by the earlier -/
theorem rh_swap (q : Nat → Nat → Nat) : ∀ n, rh_s (fun j => rh_s (fun i => q i j) j) n = rh_s (fun i => rh_s (fun j => if i < j then q i j else 0) n) n
  | 0 => rfl
  | n + 1 => by
    have a : rh_s (fun i => rh_s (fun j => if i < j then q i j else 0) (n + 1)) n = rh_s (fun i => rh_s (fun j => if i < j then q i j else 0) n + (if i < n then q i n else 0)) n := rfl
    have b : rh_s (fun i => if i < n then q i n else 0) n = rh_s (fun i => q i n) n := rh_scong n (fun i hi => if_pos hi)
    have c : rh_s (fun j => if n < j then q n j else 0) (n + 1) = 0 := rh_s0 (n + 1) (fun j hj => if_neg (by omega))
    rw [rh_sS, rh_sS, a, rh_sadd, b, c, rh_swap q n]
    rfl
abbrev rh_JY : Type := Int32 → Int32 → Int32 → Int32 → Int32 → Int32 → Int32 → (Nat → Int32) → (Nat → Int32) → (Nat → Int32) → (Nat → Int32) → (Nat → Int32) → (Nat → Int32) → (Nat → Int32) → (Nat → Int32) → (Nat → Int32) → (Nat → Int32) → (Nat → Int32) → (Nat → Int32) → (Nat → Int32) → (Nat → Int32) → (Nat → Int32) → (Nat → Int32) → (Nat → Int32) → (Nat → Int32) → (Nat → Int32) → (Nat → Int32) → Prop
section
variable {nl ns nr nc : Nat} {oc kn : Int32} {vs ss cs lt lb lf sb sf so rt rv ra ap av af aw al sg p h sp rch : Nat → Int32}
theorem rx_thr {post : Int32 → Prop} {x : Int32} (hn : nr ≤ 12) (hx : vp_in x (4 + nr)) (k : post (rh_th rt x)) : wpX_threadOf post ((nI nl), (nI ns), oc, (nI nr), (nI nc), vs, ss, cs, lt, lb, lf, sb, sf, so, rt, rv, ra, ap, av, af, aw) x := by
  obtain ⟨j, hj, rfl⟩ := vp_in_of hx (by omega)
  unfold rh_th at k
  exact br_c (fun z => ⟨rh_p12 hn hj z, by rw [if_pos z] at k; exact k⟩) (fun z => by rw [if_neg z] at k; exact k)
theorem ry_thr {post : Int32 → Prop} {x : Int32} (hn : nr ≤ 12) (hx : vp_in x (4 + nr)) (k : post (rh_th rt x)) : wpY_threadAt post ((nI nl), (nI ns), (nI nr), (nI nc), kn, al, cs, lt, lb, lf, sb, so, sf, sg, rt, rv, ra, ap, av, af, aw, p, h, sp, rch) x := by
  obtain ⟨j, hj, rfl⟩ := vp_in_of hx (by omega)
  unfold rh_th at k
  exact br_c (fun z => ⟨rh_p12 hn hj z, by rw [if_pos z] at k; exact k⟩) (fun z => by rw [if_neg z] at k; exact k)
theorem rx_dt {post : Int32 → Prop} {i j : Nat} (hn : nr ≤ 12) (hc : nc ≤ 16) (hi : i < nc) (hj : j < nc) (A : rr_A ap av nr nc) (t : rh_th rt (ap i) ≠ rh_th rt (ap j) → post 1) (f : rh_th rt (ap i) = rh_th rt (ap j) → post 0) : wpX_inDifferentThreads post ((nI nl), (nI ns), oc, (nI nr), (nI nc), vs, ss, cs, lt, lb, lf, sb, sf, so, rt, rv, ra, ap, av, af, aw) (nI i) (nI j) := by
  unfold wpX_inDifferentThreads
  refine ⟨vp_in_nI (by omega) (by decide), ?_⟩
  rw [nI_clamp (show i < 2 ^ 31 by omega), nI_clamp (show j < 2 ^ 31 by omega)]
  refine rx_thr hn (A i hi).1 ⟨vp_in_nI (by omega) (by decide), ?_⟩
  exact rx_thr hn (A j hj).1 (br_c f t)
theorem rx_mc {post : Int32 → Prop} {i j : Nat} (hc : nc ≤ 16) (hi : i < nc) (hj : j < nc) (A : rr_A ap av nr nc) (t : af i = af j → (aw i ≠ 0 ∨ aw j ≠ 0) → ¬ (vs (av i).toNatClampNeg &&& vs (av j).toNatClampNeg) = 0 → post 1) (f : ¬ (af i = af j ∧ (aw i ≠ 0 ∨ aw j ≠ 0) ∧ ¬ (vs (av i).toNatClampNeg &&& vs (av j).toNatClampNeg) = 0) → post 0) : wpX_mayClash post ((nI nl), (nI ns), oc, (nI nr), (nI nc), vs, ss, cs, lt, lb, lf, sb, sf, so, rt, rv, ra, ap, av, af, aw) (nI i) (nI j) := by
  have hin : vp_in (nI i) 16 := vp_in_nI (by omega) (by decide)
  have hjn : vp_in (nI j) 16 := vp_in_nI (by omega) (by decide)
  unfold wpX_mayClash
  refine ⟨hin, ?_⟩
  rw [nI_clamp (show i < 2 ^ 31 by omega), nI_clamp (show j < 2 ^ 31 by omega)]
  refine ⟨(A i hi).2, hjn, (A j hj).2, nm_e ⟨hin, hjn, br_c (fun a => ⟨hin, br_c (fun b => ⟨hjn, br_c (fun c => f ?_) (fun c => br_c (fun d => f ?_) (fun d => t a (Or.inr c) d))⟩) (fun b => br_c (fun d => f ?_) (fun d => t a (Or.inl b) d))⟩) (fun a => f ?_)⟩⟩
  · rintro ⟨_, q, _⟩
    exact q.elim (fun q => q b) (fun q => q c)
  · rintro ⟨_, _, q⟩
    exact q d
  · rintro ⟨_, _, q⟩
    exact q d
  · rintro ⟨q, _⟩
    exact a q
theorem rx_ssl {post : Int32 → Prop} {i j : Nat} (hn : nr ≤ 12) (hc : nc ≤ 16) (hi : i < nc) (hj : j < nc) (R : rr_R rt rv ra nr) (B : rg_B8 12 vs) (A : rr_A ap av nr nc) (t : ¬ (∀ s, ¬ (rh_A (rh_L vs rv oc) ra (ap i - 4) 12 s ∧ rh_A (rh_L vs rv oc) ra (ap j - 4) 12 s)) → post 1) (f : (∀ s, ¬ (rh_A (rh_L vs rv oc) ra (ap i - 4) 12 s ∧ rh_A (rh_L vs rv oc) ra (ap j - 4) 12 s)) → post 0) : wpX_shareSureLock post ((nI nl), (nI ns), oc, (nI nr), (nI nc), vs, ss, cs, lt, lb, lf, sb, sf, so, rt, rv, ra, ap, av, af, aw) (nI i) (nI j) := by
  unfold wpX_shareSureLock
  refine ⟨vp_in_nI (by omega) (by decide), ?_⟩
  rw [nI_clamp (show i < 2 ^ 31 by omega), nI_clamp (show j < 2 ^ 31 by omega)]
  obtain ⟨a, ha, ea⟩ := vp_in_of (A i hi).1 (by omega)
  obtain ⟨b, hb, eb⟩ := vp_in_of (A j hj).1 (by omega)
  rw [ea, eb] at t f
  rw [ea]
  refine rx_sh ha hn R B (fun m hm => ⟨vp_in_nI (by omega) (by decide), ?_⟩)
  rw [eb]
  refine rx_sh hb hn R B (fun m' hm' => ?_)
  exact br_c (fun z => f ((rh_and0 hm hm').mp z)) (fun z => t (fun q => z ((rh_and0 hm hm').mpr q)))
theorem rx_race0 {post : Int32 → Prop} {v1 v2 : Int32} (hc : nc ≤ 16) (hb : rr_bad nc v1 ∨ rr_bad nc v2) (k : post 0) : wpX_race post ((nI nl), (nI ns), oc, (nI nr), (nI nc), vs, ss, cs, lt, lb, lf, sb, sf, so, rt, rv, ra, ap, av, af, aw) v1 v2 := by
  unfold wpX_race
  refine rx_isA hc (fun _ => br_t rfl k) (fun j hj e => br_f (by decide) ?_)
  refine rx_isA hc (fun _ => br_t rfl k) (fun s hs f => ?_)
  exact hb.elim (fun b => absurd (e ▸ b) (rr_nb (by omega) hj)) (fun b => absurd (f ▸ b) (rr_nb (by omega) hs))
theorem rx_race {post : Int32 → Prop} {i j : Nat} (hn : nr ≤ 12) (hc : nc ≤ 16) (hi : i < nc) (hj : j < nc) (R : rr_R rt rv ra nr) (B : rg_B8 12 vs) (A : rr_A ap av nr nc) (t : rh_Q rt ap av af aw vs rv ra oc i j → post 1) (f : ¬ rh_Q rt ap av af aw vs rv ra oc i j → post 0) : wpX_race post ((nI nl), (nI ns), oc, (nI nr), (nI nc), vs, ss, cs, lt, lb, lf, sb, sf, so, rt, rv, ra, ap, av, af, aw) (nI i) (nI j) := by
  unfold wpX_race
  refine rx_isA hc (fun b => absurd b (rr_nb (by omega) hi)) (fun _ _ _ => br_f (by decide) ?_)
  refine rx_isA hc (fun b => absurd b (rr_nb (by omega) hj)) (fun _ _ _ => br_f (by decide) ?_)
  refine rx_dt hn hc hi hj A (fun a => br_f (by decide) ?_) (fun a => br_t rfl (f (fun q => q.1 a)))
  refine rx_mc hc hi hj A (fun b c d => br_f (by decide) ?_) (fun b => br_t rfl (f (fun q => b ⟨q.2.1, q.2.2.1, q.2.2.2.1⟩)))
  exact rx_ssl hn hc hi hj R B A (fun e => br_f (by decide) (f (fun q => e q.2.2.2.2))) (fun e => br_t rfl (t ⟨a, b, c, d, e⟩))
theorem ry_race0 {post : Int32 → SY → Prop} {v1 v2 : Int32} (hb : rr_bad nc v1 ∨ rr_bad nc v2) (k : post 0 ((nI nl), (nI ns), (nI nr), (nI nc), kn, al, cs, lt, lb, lf, sb, so, sf, sg, rt, rv, ra, ap, av, af, aw, p, h, sp, rch)) : wpY_race post ((nI nl), (nI ns), (nI nr), (nI nc), kn, al, cs, lt, lb, lf, sb, so, sf, sg, rt, rv, ra, ap, av, af, aw, p, h, sp, rch) v1 v2 := by
  unfold wpY_race
  refine br_c (fun _ => k) (fun a => br_c (fun _ => k) (fun b => br_c (fun _ => k) (fun c => br_c (fun d => ?_) (fun _ => k))))
  rcases hb with (e | e) | (e | e)
  · exact absurd e a
  · exact absurd e b
  · exact absurd e c
  · exact absurd d (Int32.not_lt.mpr e)
theorem ry_race84 {post : Int32 → SY → Prop} {i j : Nat} (hn : nr ≤ 12) (hc : nc ≤ 16) (hi : i < nc) (hj : j < nc) (R : rr_R rt rv ra nr) (O : rr_O oc sg) (A : rr_A ap av nr nc) (hl : nl ≤ 20) (hs : ns ≤ 20) (hL : rg_RL lt lb lf nl) (hS : rg_RL so sb sf ns)
    (K : kn ≠ 0 → rg_Eq 12 vs p ∧ rg_Eq 16 ss h) (L : rg_Le (rg_Cl al cs lt lb lf sb sf so nl ns) vs ss)
    (t : ∀ kn p h, (kn ≠ 0 → rg_Eq 12 vs p ∧ rg_Eq 16 ss h) → ¬ (vs (av i).toNatClampNeg &&& vs (av j).toNatClampNeg) = 0 → (∀ s, ¬ (rh_A (rh_L vs rv oc) ra (ap i - 4) 12 s ∧ rh_A (rh_L vs rv oc) ra (ap j - 4) 12 s)) → post 1 ((nI nl), (nI ns), (nI nr), (nI nc), kn, al, cs, lt, lb, lf, sb, so, sf, sg, rt, rv, ra, ap, av, af, aw, p, h, sp, rch))
    (f : ∀ kn p h, (kn ≠ 0 → rg_Eq 12 vs p ∧ rg_Eq 16 ss h) → ¬ (¬ (vs (av i).toNatClampNeg &&& vs (av j).toNatClampNeg) = 0 ∧ (∀ s, ¬ (rh_A (rh_L vs rv oc) ra (ap i - 4) 12 s ∧ rh_A (rh_L vs rv oc) ra (ap j - 4) 12 s))) → post 0 ((nI nl), (nI ns), (nI nr), (nI nc), kn, al, cs, lt, lb, lf, sb, so, sf, sg, rt, rv, ra, ap, av, af, aw, p, h, sp, rch)) : wY_race_84 post (nI i) (nI j) (nI nl) (nI ns) (nI nr) (nI nc) kn al cs lt lb lf sb so sf sg rt rv ra ap av af aw p h sp rch := by
  have hin : vp_in (nI i) 16 := vp_in_nI (by omega) (by decide)
  have hjn : vp_in (nI j) 16 := vp_in_nI (by omega) (by decide)
  unfold wY_race_84
  rw [nI_clamp (show i < 2 ^ 31 by omega), nI_clamp (show j < 2 ^ 31 by omega)]
  refine ry_work hl hs hL hS K L (fun kn p h z e g => ⟨hin, (A i hi).2, hjn, (A j hj).2, ?_⟩)
  obtain ⟨a, ha, ea⟩ := vp_in_of (A i hi).1 (by omega)
  obtain ⟨b, hb, eb⟩ := vp_in_of (A j hj).1 (by omega)
  rw [e _ (rg_lt (A i hi).2 (by decide)), e _ (rg_lt (A j hj).2 (by decide)), ea]
  rw [ea, eb] at t f
  refine br_c (fun y => f kn p h (fun _ => ⟨e, g⟩) (fun q => q.1 y)) (fun y => ⟨hin, ?_⟩)
  refine ry_held (vs := vs) (ss := ss) (al := al) ha hn R O hl hs hL hS (fun _ => ⟨e, g⟩) L (fun kn p h m z e g hm => ⟨hjn, ?_⟩)
  rw [eb]
  refine ry_held (vs := vs) (ss := ss) (al := al) hb hn R O hl hs hL hS (fun _ => ⟨e, g⟩) L (fun kn p h m' z e g hm' => ?_)
  exact br_c (fun x => t kn p h (fun _ => ⟨e, g⟩) y ((rh_and0 hm hm').mp x)) (fun x => f kn p h (fun _ => ⟨e, g⟩) (fun q => x ((rh_and0 hm hm').mpr q.2)))
theorem ry_race {post : Int32 → SY → Prop} {i j : Nat} (hn : nr ≤ 12) (hc : nc ≤ 16) (hi : i < nc) (hj : j < nc) (R : rr_R rt rv ra nr) (O : rr_O oc sg) (A : rr_A ap av nr nc) (hl : nl ≤ 20) (hs : ns ≤ 20) (hL : rg_RL lt lb lf nl) (hS : rg_RL so sb sf ns)
    (K : kn ≠ 0 → rg_Eq 12 vs p ∧ rg_Eq 16 ss h) (L : rg_Le (rg_Cl al cs lt lb lf sb sf so nl ns) vs ss)
    (t : ∀ kn p h, (kn ≠ 0 → rg_Eq 12 vs p ∧ rg_Eq 16 ss h) → rh_Q rt ap av af aw vs rv ra oc i j → post 1 ((nI nl), (nI ns), (nI nr), (nI nc), kn, al, cs, lt, lb, lf, sb, so, sf, sg, rt, rv, ra, ap, av, af, aw, p, h, sp, rch))
    (f : ∀ kn p h, (kn ≠ 0 → rg_Eq 12 vs p ∧ rg_Eq 16 ss h) → ¬ rh_Q rt ap av af aw vs rv ra oc i j → post 0 ((nI nl), (nI ns), (nI nr), (nI nc), kn, al, cs, lt, lb, lf, sb, so, sf, sg, rt, rv, ra, ap, av, af, aw, p, h, sp, rch)) : wpY_race post ((nI nl), (nI ns), (nI nr), (nI nc), kn, al, cs, lt, lb, lf, sb, so, sf, sg, rt, rv, ra, ap, av, af, aw, p, h, sp, rch) (nI i) (nI j) := by
  have hin : vp_in (nI i) 16 := vp_in_nI (by omega) (by decide)
  have hjn : vp_in (nI j) 16 := vp_in_nI (by omega) (by decide)
  unfold wpY_race
  rw [nI_clamp (show i < 2 ^ 31 by omega), nI_clamp (show j < 2 ^ 31 by omega)]
  refine br_f (nI_pos (by omega)) (br_f (nI_ge (by omega) (by omega)) (br_f (nI_pos (by omega)) (br_t (nI_lt (by omega) (by omega)) ⟨hin, ?_⟩)))
  refine ry_thr hn (A i hi).1 ⟨hjn, ?_⟩
  refine ry_thr hn (A j hj).1 (br_c (fun a => f kn p h K (fun q => q.1 a)) (fun a => ⟨hin, hjn, br_c (fun b => ⟨hin, ?_⟩) (fun b => f kn p h K (fun q => b q.2.1))⟩))
  refine br_c (fun c => ⟨hjn, br_c (fun d => f kn p h K (fun q => q.2.2.1.elim (fun q => q c) (fun q => q d))) (fun d => ?_)⟩) (fun c => ?_)
  · exact ry_race84 (vs := vs) (ss := ss) (oc := oc) hn hc hi hj R O A hl hs hL hS K L (fun kn p h K x y => t kn p h K ⟨a, b, Or.inr d, x, y⟩) (fun kn p h K x => f kn p h K (fun q => x q.2.2.2))
  · exact ry_race84 (vs := vs) (ss := ss) (oc := oc) hn hc hi hj R O A hl hs hL hS K L (fun kn p h K x y => t kn p h K ⟨a, b, Or.inl c, x, y⟩) (fun kn p h K x => f kn p h K (fun q => x q.2.2.2))
theorem rx_r14 {post : Int32 → Prop} {J : Int32 → Int32 → Prop} {j a : Nat} (hn : nr ≤ 12) (hc : nc ≤ 16) (hj : j < nc) (R : rr_R rt rv ra nr) (B : rg_B8 12 vs) (A : rr_A ap av nr nc)
    (hJ : J (nI (a + rh_s (fun i => rh_q (rh_Q rt ap av af aw vs rv ra oc i j)) j)) (nI (j + 1))) :
    ∀ d i, i + d = j → wX_races_14 post J (nI j) (nI nl) (nI ns) oc (nI nr) (nI nc) vs ss cs lt lb lf sb sf so rt rv ra ap av af aw (d + 1) (nI (a + rh_s (fun i => rh_q (rh_Q rt ap av af aw vs rv ra oc i j)) i)) (nI i) := by
  intro d
  induction d with
  | zero =>
    intro i hi
    obtain rfl : i = j := by omega
    exact br_t (nI_le (Nat.le_refl _) (by omega)) (nm_r (nI_1 i) hJ)
  | succ d ih =>
    intro i hi
    have k := ih (i + 1) (by omega)
    rw [rh_sS] at k
    refine br_f (nI_ge (by omega) (by omega)) ?_
    refine rx_race hn hc (by omega) hj R B A (fun q => br_f (by decide) ?_) (fun q => br_t rfl ?_)
    · rw [rh_q1 q] at k
      exact nm_r (nI_1 _) (nm_r (nI_1 i) k)
    · rw [rh_q0 q] at k
      exact nm_r (nI_1 i) k
theorem rx_r4 {post : Int32 → Prop} (hn : nr ≤ 12) (hc : nc ≤ 16) (R : rr_R rt rv ra nr) (B : rg_B8 12 vs) (A : rr_A ap av nr nc)
    (hP : post (nI (rh_s (fun j => rh_s (fun i => rh_q (rh_Q rt ap av af aw vs rv ra oc i j)) j) nc))) :
    ∀ d j, j + d = nc → wX_races_4 post (nI nl) (nI ns) oc (nI nr) (nI nc) vs ss cs lt lb lf sb sf so rt rv ra ap av af aw (d + 1) (nI (rh_s (fun j => rh_s (fun i => rh_q (rh_Q rt ap av af aw vs rv ra oc i j)) j) j)) (nI j) := by
  intro d
  induction d with
  | zero =>
    intro j hj
    obtain rfl : j = nc := by omega
    exact br_t (nI_le (Nat.le_refl _) (by omega)) hP
  | succ d ih =>
    intro j hj
    exact br_f (nI_ge (by omega) (by omega)) ⟨j + 1, rx_r14 hn hc (by omega) R B A (ih (j + 1) (by omega)) j 0 (by omega)⟩
theorem rx_races {post : Int32 → Prop} (hn : nr ≤ 12) (hc : nc ≤ 16) (R : rr_R rt rv ra nr) (B : rg_B8 12 vs) (A : rr_A ap av nr nc)
    (hP : post (nI (rh_s (fun j => rh_s (fun i => rh_q (rh_Q rt ap av af aw vs rv ra oc i j)) j) nc))) : wpX_races post ((nI nl), (nI ns), oc, (nI nr), (nI nc), vs, ss, cs, lt, lb, lf, sb, sf, so, rt, rv, ra, ap, av, af, aw) := by
  by_cases z : nc = 0
  · subst z
    exact ⟨1, br_t (show nI 0 ≤ 1 by decide) hP⟩
  · exact ⟨nc - 1 + 1, rx_r4 hn hc R B A hP (nc - 1) 1 (by omega)⟩
theorem ry_r16 {post : Int32 → SY → Prop} {J : rh_JY} {i a : Nat} (hn : nr ≤ 12) (hc : nc ≤ 16) (hi : i < nc) (R : rr_R rt rv ra nr) (O : rr_O oc sg) (A : rr_A ap av nr nc) (hl : nl ≤ 20) (hs : ns ≤ 20) (hL : rg_RL lt lb lf nl) (hS : rg_RL so sb sf ns) (L : rg_Le (rg_Cl al cs lt lb lf sb sf so nl ns) vs ss)
    (hJ : ∀ kn p h, (kn ≠ 0 → rg_Eq 12 vs p ∧ rg_Eq 16 ss h) → J (nI (a + rh_s (fun j => if i < j then rh_q (rh_Q rt ap av af aw vs rv ra oc i j) else 0) nc)) (nI (i + 1)) (nI nl) (nI ns) (nI nr) (nI nc) kn al cs lt lb lf sb so sf sg rt rv ra ap av af aw p h sp rch) :
    ∀ d j kn p h, j + d = nc → i < j → (kn ≠ 0 → rg_Eq 12 vs p ∧ rg_Eq 16 ss h) → wY_races_16 post J (nI i) (d + 1) (nI (a + rh_s (fun j => if i < j then rh_q (rh_Q rt ap av af aw vs rv ra oc i j) else 0) j)) (nI j) (nI nl) (nI ns) (nI nr) (nI nc) kn al cs lt lb lf sb so sf sg rt rv ra ap av af aw p h sp rch := by
  intro d
  induction d with
  | zero =>
    intro j kn p h hj hij K
    obtain rfl : j = nc := by omega
    exact br_t (nI_le (Nat.le_refl _) (by omega)) (nm_r (nI_1 i) (hJ kn p h K))
  | succ d ih =>
    intro j kn p h hj hij K
    refine br_f (nI_ge (by omega) (by omega)) ?_
    refine ry_race (vs := vs) (ss := ss) (oc := oc) hn hc hi (by omega) R O A hl hs hL hS K L (fun kn p h K q => br_f (by decide) ?_) (fun kn p h K q => br_t rfl ?_)
    · have k := ih (j + 1) kn p h (by omega) (by omega) K
      rw [rh_sS, if_pos hij, rh_q1 q] at k
      exact nm_r (nI_1 _) (nm_r (nI_1 j) k)
    · have k := ih (j + 1) kn p h (by omega) (by omega) K
      rw [rh_sS, if_pos hij, rh_q0 q] at k
      exact nm_r (nI_1 j) k
theorem ry_r4 {post : Int32 → SY → Prop} (hn : nr ≤ 12) (hc : nc ≤ 16) (R : rr_R rt rv ra nr) (O : rr_O oc sg) (A : rr_A ap av nr nc) (hl : nl ≤ 20) (hs : ns ≤ 20) (hL : rg_RL lt lb lf nl) (hS : rg_RL so sb sf ns) (L : rg_Le (rg_Cl al cs lt lb lf sb sf so nl ns) vs ss)
    (hP : ∀ kn p h, (kn ≠ 0 → rg_Eq 12 vs p ∧ rg_Eq 16 ss h) → post (nI (rh_s (fun i => rh_s (fun j => if i < j then rh_q (rh_Q rt ap av af aw vs rv ra oc i j) else 0) nc) nc)) ((nI nl), (nI ns), (nI nr), (nI nc), kn, al, cs, lt, lb, lf, sb, so, sf, sg, rt, rv, ra, ap, av, af, aw, p, h, sp, rch)) :
    ∀ d i kn p h, i + d = nc → (kn ≠ 0 → rg_Eq 12 vs p ∧ rg_Eq 16 ss h) → wY_races_4 post (d + 1) (nI (rh_s (fun i => rh_s (fun j => if i < j then rh_q (rh_Q rt ap av af aw vs rv ra oc i j) else 0) nc) i)) (nI i) (nI nl) (nI ns) (nI nr) (nI nc) kn al cs lt lb lf sb so sf sg rt rv ra ap av af aw p h sp rch := by
  intro d
  induction d with
  | zero =>
    intro i kn p h hi K
    obtain rfl : i = nc := by omega
    exact br_t (nI_le (Nat.le_refl _) (by omega)) (hP kn p h K)
  | succ d ih =>
    intro i kn p h hi K
    refine br_f (nI_ge (by omega) (by omega)) (nm_r (nI_1 i) ⟨d + 1, ?_⟩)
    have k := ry_r16 (post := post) (J := wY_races_4 post (d + 1)) (a := rh_s (fun i => rh_s (fun j => if i < j then rh_q (rh_Q rt ap av af aw vs rv ra oc i j) else 0) nc) i) hn hc (show i < nc by omega) R O A hl hs hL hS L (fun kn p h K => ih (i + 1) kn p h (by omega) K) d (i + 1) kn p h (by omega) (by omega) K
    rw [rh_s0 (i + 1) (fun j hj => if_neg (by omega))] at k
    exact k
theorem ry_races {post : Int32 → SY → Prop} (hn : nr ≤ 12) (hc : nc ≤ 16) (R : rr_R rt rv ra nr) (O : rr_O oc sg) (A : rr_A ap av nr nc) (hl : nl ≤ 20) (hs : ns ≤ 20) (hL : rg_RL lt lb lf nl) (hS : rg_RL so sb sf ns) (L : rg_Le (rg_Cl al cs lt lb lf sb sf so nl ns) vs ss) (K : kn ≠ 0 → rg_Eq 12 vs p ∧ rg_Eq 16 ss h)
    (hP : ∀ kn p h, (kn ≠ 0 → rg_Eq 12 vs p ∧ rg_Eq 16 ss h) → post (nI (rh_s (fun i => rh_s (fun j => if i < j then rh_q (rh_Q rt ap av af aw vs rv ra oc i j) else 0) nc) nc)) ((nI nl), (nI ns), (nI nr), (nI nc), kn, al, cs, lt, lb, lf, sb, so, sf, sg, rt, rv, ra, ap, av, af, aw, p, h, sp, rch)) : wpY_races post ((nI nl), (nI ns), (nI nr), (nI nc), kn, al, cs, lt, lb, lf, sb, so, sf, sg, rt, rv, ra, ap, av, af, aw, p, h, sp, rch) :=
  ⟨nc + 1, ry_r4 hn hc R O A hl hs hL hS L hP nc 0 kn p h (by omega) K⟩
end
end
section
theorem i_vc_race {k : Nat} {u : SX} {v : SY} (I : i_Rel k u v) (hk : k + 5 ≤ 2560) (v1 : Int32) (v2 : Int32) : wpX_race (fun r => wpY_race (fun r' v' => r' = r ∧ i_Rel (k + 5) u v') v v1 v2) u v1 v2 := by
  obtain ⟨nl, ns, nr, nc, oc, kn, vs, ss, cs, lt, lb, lf, sb, sf, so, rt, rv, ra, ap, av, af, aw, al, sg, p, h, sp, rch, rfl, rfl, F⟩ := I
  obtain ⟨f1, f2, f3, f4, f5, f6, f7, f8, f9, f10, f11⟩ := id F
  rcases rr_cs nc v1 (by omega) with b | ⟨i, hi, rfl⟩
  · exact rx_race0 f4 (Or.inl b) (ry_race0 (Or.inl b) ⟨rfl, rr_mk F⟩)
  rcases rr_cs nc v2 (by omega) with b | ⟨j, hj, rfl⟩
  · exact rx_race0 f4 (Or.inr b) (ry_race0 (Or.inr b) ⟨rfl, rr_mk F⟩)
  refine rx_race f3 f4 hi hj f8 f10.1 f9 (fun q => ?_) (fun q => ?_)
  · exact ry_race (vs := vs) (ss := ss) (oc := oc) f3 f4 hi hj f8 f7 f9 f1 f2 f5 f6 f11 f10 (fun kn p h K _ => ⟨rfl, rr_mk ⟨f1, f2, f3, f4, f5, f6, f7, f8, f9, f10, K⟩⟩) (fun kn p h K q' => absurd q q')
  · exact ry_race (vs := vs) (ss := ss) (oc := oc) f3 f4 hi hj f8 f7 f9 f1 f2 f5 f6 f11 f10 (fun kn p h K q' => absurd q' q) (fun kn p h K _ => ⟨rfl, rr_mk ⟨f1, f2, f3, f4, f5, f6, f7, f8, f9, f10, K⟩⟩)
theorem i_vc_races {k : Nat} {u : SX} {v : SY} (I : i_Rel k u v) (hk : k + 5 ≤ 2560) : wpX_races (fun r => wpY_races (fun r' v' => r' = r ∧ i_Rel (k + 5) u v') v) u := by
  obtain ⟨nl, ns, nr, nc, oc, kn, vs, ss, cs, lt, lb, lf, sb, sf, so, rt, rv, ra, ap, av, af, aw, al, sg, p, h, sp, rch, rfl, rfl, F⟩ := I
  obtain ⟨f1, f2, f3, f4, f5, f6, f7, f8, f9, f10, f11⟩ := id F
  exact rx_races f3 f4 f8 f10.1 f9 (ry_races (vs := vs) (ss := ss) (oc := oc) f3 f4 f8 f7 f9 f1 f2 f5 f6 f10 f11 (fun kn p h K => ⟨congrArg nI (rh_swap (fun i j => rh_q (rh_Q rt ap av af aw vs rv ra oc i j)) nc).symm, rr_mk ⟨f1, f2, f3, f4, f5, f6, f7, f8, f9, f10, K⟩⟩))
theorem i_vc_held {k : Nat} {u : SX} {v : SY} (I : i_Rel k u v) (hk : k + 5 ≤ 2560) (v1 : Int32) : wpX_held (fun r => wpY_held (fun r' v' => r' = r ∧ i_Rel (k + 5) u v') v v1) u v1 := by
  obtain ⟨nl, ns, nr, nc, oc, kn, vs, ss, cs, lt, lb, lf, sb, sf, so, rt, rv, ra, ap, av, af, aw, al, sg, p, h, sp, rch, rfl, rfl, F⟩ := I
  obtain ⟨f1, f2, f3, f4, f5, f6, f7, f8, f9, f10, f11⟩ := id F
  rcases rr_cs (4 + nr) v1 (by omega) with b | ⟨j, hj, rfl⟩
  · exact rx_held0 f3 b (ry_held0 f3 b ⟨rfl, rr_mk F⟩)
  exact rx_held hj f3 f8 f10.1 (fun m hm => ry_held (vs := vs) (ss := ss) (oc := oc) hj f3 f8 f7 f1 f2 f5 f6 f11 f10 (fun kn p h m' z e g hm' => ⟨b_ext (fun i _ => rf_beq ((hm' i).trans (hm i).symm)), rr_mk ⟨f1, f2, f3, f4, f5, f6, f7, f8, f9, f10, fun _ => ⟨e, g⟩⟩⟩))
end
section
/-! ===== ways over steps: the component's closure by stages, the reference's by rounds ===== -/
def rd_W (R : Nat → Nat → Prop) : Nat → Nat → Nat → Prop
  | 0 => R
  | k + 1 => fun s t => rd_W R k s t ∨ (rd_W R k s k ∧ rd_W R k k t)
theorem rd_Wc {R : Nat → Nat → Prop} {s t : Nat} (h : R s t) : ∀ k, rd_W R k s t
  | 0 => h
  | k + 1 => Or.inl (rd_Wc h k)
theorem rd_Wtr {R : Nat → Nat → Prop} : ∀ k m s t, m < k → rd_W R k s m → rd_W R k m t → rd_W R k s t
  | 0 => fun m _ _ h _ _ => absurd h (Nat.not_lt_zero m)
  | k + 1 => fun m s t h a b => by
    have ih := @rd_Wtr R k
    have a : rd_W R k s m ∨ (rd_W R k s k ∧ rd_W R k k m) := a
    have b : rd_W R k m t ∨ (rd_W R k m k ∧ rd_W R k k t) := b
    show rd_W R k s t ∨ (rd_W R k s k ∧ rd_W R k k t)
    by_cases e : m = k
    · subst e
      refine Or.inr ⟨?_, ?_⟩
      · exact a.elim id (fun a => a.1)
      · exact b.elim id (fun b => b.2)
    · have h : m < k := by omega
      rcases a with a | a <;> rcases b with b | b
      · exact Or.inl (ih m s t h a b)
      · exact Or.inr ⟨ih m s k h a b.1, b.2⟩
      · exact Or.inr ⟨a.1, ih m k t h a.2 b⟩
      · exact Or.inr ⟨a.1, b.2⟩
theorem rd_Wmin {R U : Nat → Nat → Prop} (h : ∀ a b, R a b → U a b) (tr : ∀ a b c, a < 8 → b < 8 → U a b → U b c → U a c) : ∀ k s t, k ≤ 8 → s < 8 → rd_W R k s t → U s t
  | 0 => fun s t _ _ a => h s t a
  | k + 1 => fun s t hk hs a => by
    have a : rd_W R k s t ∨ (rd_W R k s k ∧ rd_W R k k t) := a
    rcases a with a | a
    · exact rd_Wmin h tr k s t (by omega) hs a
    · exact tr s k t hs (by omega) (rd_Wmin h tr k s k (by omega) hs a.1) (rd_Wmin h tr k k t (by omega) (by omega) a.2)
def rd_V (R : Nat → Nat → Prop) : Nat → Nat → Nat → Prop
  | 0 => fun s t => t = s
  | k + 1 => fun s t => rd_V R k s t ∨ ∃ a, a < 8 ∧ rd_V R k s a ∧ R a t
theorem rd_Vr {R : Nat → Nat → Prop} (s : Nat) : ∀ k, rd_V R k s s
  | 0 => rfl
  | k + 1 => Or.inl (rd_Vr s k)
theorem rd_Vmin {R : Nat → Nat → Prop} {U : Nat → Prop} {s : Nat} (h : U s) (c : ∀ a t, a < 8 → U a → R a t → U t) : ∀ k t, rd_V R k s t → U t
  | 0 => fun t e => by
    have e : t = s := e
    rw [e]; exact h
  | k + 1 => fun t e => by
    rcases e with e | ⟨a, ha, e, r⟩
    · exact rd_Vmin h c k t e
    · exact c a t ha (rd_Vmin h c k a e) r
theorem rd_sle {f g : Nat → Nat} : ∀ n, (∀ i, i < n → f i ≤ g i) → rh_s f n ≤ rh_s g n
  | 0 => fun _ => Nat.le_refl _
  | n + 1 => fun h => by
    have a := rd_sle n (fun i hi => h i (by omega))
    have b := h n (by omega)
    rw [rh_sS, rh_sS]
    omega
theorem rd_slt {f g : Nat → Nat} : ∀ n, (∀ i, i < n → f i ≤ g i) → (∃ i, i < n ∧ f i < g i) → rh_s f n < rh_s g n
  | 0 => fun _ ⟨i, h, _⟩ => absurd h (Nat.not_lt_zero i)
  | n + 1 => fun h ⟨i, hi, l⟩ => by
    have b := h n (by omega)
    rw [rh_sS, rh_sS]
    by_cases e : i = n
    · subst e
      have a := rd_sle i (fun j hj => h j (by omega))
      omega
    · have a := rd_slt n (fun j hj => h j (by omega)) ⟨i, by omega, l⟩
      omega
theorem rd_qle {P Q : Prop} (h : P → Q) : rh_q P ≤ rh_q Q := by
  by_cases p : P
  · rw [rh_q1 p, rh_q1 (h p)]; exact Nat.le_refl _
  · rw [rh_q0 p]; exact Nat.zero_le _
theorem rd_q01 (P : Prop) : rh_q P ≤ 1 := by
  by_cases p : P
  · rw [rh_q1 p]; exact Nat.le_refl _
  · rw [rh_q0 p]; exact Nat.zero_le _
theorem rd_s8 (P : Nat → Prop) : ∀ n, rh_s (fun t => rh_q (P t)) n ≤ n
  | 0 => Nat.le_refl _
  | n + 1 => by
    have a := rd_s8 P n
    have b := rd_q01 (P n)
    rw [rh_sS]
    omega
/-- after k rounds all is reached, or at least k + 1 sites are -/
theorem rd_Vk {R : Nat → Nat → Prop} (hR : ∀ a t, R a t → t < 8) {s : Nat} (hs : s < 8) : ∀ k, (∀ a t, a < 8 → rd_V R k s a → R a t → rd_V R k s t) ∨ k + 1 ≤ rh_s (fun t => rh_q (rd_V R k s t)) 8
  | 0 => Or.inr (by
    have a := rd_slt (f := fun _ => 0) (g := fun t => rh_q (rd_V R 0 s t)) 8 (fun _ _ => Nat.zero_le _) ⟨s, hs, by rw [rh_q1 (rd_Vr s 0)]; decide⟩
    omega)
  | k + 1 => by
    rcases rd_Vk hR hs k with c | c
    · refine Or.inl (fun a t ha v r => ?_)
      refine Or.inl ?_
      rcases v with v | ⟨b, hb, v, q⟩
      · exact c a t ha v r
      · exact c a t ha (c b a hb v q) r
    · by_cases z : ∀ a t, a < 8 → rd_V R k s a → R a t → rd_V R k s t
      · refine Or.inl (fun a t ha v r => ?_)
        refine Or.inl ?_
        rcases v with v | ⟨b, hb, v, q⟩
        · exact z a t ha v r
        · exact z a t ha (z b a hb v q) r
      · refine Or.inr ?_
        have y : ∃ a t, a < 8 ∧ rd_V R k s a ∧ R a t ∧ ¬ rd_V R k s t := by
          refine Classical.byContradiction (fun n => z (fun a t ha v r => Classical.byContradiction (fun m => n ⟨a, t, ha, v, r, m⟩)))
        obtain ⟨a, t, ha, v, r, m⟩ := y
        have l := rd_slt (f := fun t => rh_q (rd_V R k s t)) (g := fun t => rh_q (rd_V R (k + 1) s t)) 8 (fun i _ => rd_qle (fun q => Or.inl q)) ⟨t, hR a t r, by
          show rh_q (rd_V R k s t) < rh_q (rd_V R (k + 1) s t)
          rw [rh_q0 m, rh_q1 (show rd_V R (k + 1) s t from Or.inr ⟨a, ha, v, r⟩)]; decide⟩
        omega
theorem rd_Vc {R : Nat → Nat → Prop} (hR : ∀ a t, R a t → t < 8) {s : Nat} (hs : s < 8) : ∀ a t, a < 8 → rd_V R 8 s a → R a t → rd_V R 8 s t := by
  rcases rd_Vk hR hs 8 with c | c
  · exact c
  · have := rd_s8 (fun t => rd_V R 8 s t) 8
    omega
theorem rd_Vt {R : Nat → Nat → Prop} (hR : ∀ a t, R a t → t < 8) {a b c : Nat} (ha : a < 8) (x : rd_V R 8 a b) (y : rd_V R 8 b c) : rd_V R 8 a c :=
  rd_Vmin (U := fun t => rd_V R 8 a t) x (fun d t hd u r => rd_Vc hR ha d t hd u r) 8 c y
theorem rd_WV {R : Nat → Nat → Prop} (hR : ∀ a t, R a t → a < 8 ∧ t < 8) {s t : Nat} (hs : s < 8) (w : rd_W R 8 s t) : rd_V R 8 s t :=
  rd_Wmin (U := rd_V R 8) (fun a b r => rd_Vc (fun a t r => (hR a t r).2) (hR a b r).1 a b (hR a b r).1 (rd_Vr a 8) r) (fun a b c ha _ x y => rd_Vt (fun a t r => (hR a t r).2) ha x y) 8 s t (Nat.le_refl _) hs w
theorem rd_VW {R : Nat → Nat → Prop} {s t : Nat} (v : rd_V R 8 s t) : s = t ∨ rd_W R 8 s t :=
  rd_Vmin (U := fun t => s = t ∨ rd_W R 8 s t) (Or.inl rfl) (fun a t ha u r => Or.inr (by
    rcases u with u | u
    · rw [u]; exact rd_Wc r 8
    · exact rd_Wtr 8 a s t ha u (rd_Wc r 8))) 8 t v
def rd_R (T : Nat → Nat → Nat → Prop) (a t : Nat) : Prop := ∃ q, q < 4 ∧ T q a t
def rd_C (R : Nat → Nat → Prop) (a b : Nat) : Prop := rd_W R 8 a b ∧ rd_W R 8 b a
/-- the component's test of site x and thread q, and the reference's -/
def rd_U (T : Nat → Nat → Nat → Prop) (q x : Nat) : Prop := ∃ s, s < 8 ∧ (∃ y, y < 8 ∧ T q s y ∧ rd_C (rd_R T) s y) ∧ rd_C (rd_R T) s x
def rd_N (T : Nat → Nat → Nat → Prop) (q x : Nat) : Prop := ∃ a t, a < 8 ∧ t < 8 ∧ T q a t ∧ rd_V (rd_R T) 8 x a ∧ rd_V (rd_R T) 8 t x
theorem rd_UN {T : Nat → Nat → Nat → Prop} (hT : ∀ q a t, T q a t → a < 8 ∧ t < 8) {q x : Nat} (hq : q < 4) (hx : x < 8) : rd_U T q x ↔ rd_N T q x := by
  have hR : ∀ a t, rd_R T a t → a < 8 ∧ t < 8 := fun a t ⟨q, _, h⟩ => hT q a t h
  constructor
  · rintro ⟨s, hs, ⟨y, hy, t, c⟩, d⟩
    exact ⟨s, y, hs, hy, t, rd_WV hR hx d.2, rd_WV hR hy (rd_Wtr 8 s y x hs c.2 d.1)⟩
  · rintro ⟨a, t, ha, ht, h, v, w⟩
    have r : rd_R T a t := ⟨q, hq, h⟩
    have at_ : rd_W (rd_R T) 8 a t := rd_Wc r 8
    have ax : rd_W (rd_R T) 8 a x := by
      rcases rd_VW w with e | e
      · rw [← e]; exact at_
      · exact rd_Wtr 8 t a x ht at_ e
    have xa : rd_W (rd_R T) 8 x a := by
      rcases rd_VW v with e | e
      · have := ax
        rw [← e] at this ⊢
        exact this
      · exact e
    have ta : rd_W (rd_R T) 8 t a := by
      rcases rd_VW w with e | e
      · rw [e]; exact xa
      · exact rd_Wtr 8 x t a hx e xa
    exact ⟨a, ha, ⟨t, ht, h, at_, ta⟩, ax, xa⟩
/-- a step by a thread -/
def rd_E (vs rv : Nat → Int32) (oc : Int32) (r t i s : Nat) : Prop := bt (vs (rv i).toNatClampNeg) s = true ∧ bt (vs (rv r).toNatClampNeg) t = true ∧ ¬ (s = t ∧ bt oc s = true)
def rd_T (vs rv ra rt : Nat → Int32) (oc : Int32) (n : Nat) (q s t : Nat) : Prop := ∃ r, r < n ∧ rt r = nI q ∧ rh_A (rd_E vs rv oc r t) ra (ra r) 12 s
theorem rd_Tb {vs rv ra rt : Nat → Int32} {oc : Int32} {nr : Nat} (hn : nr ≤ 12) (R : rr_R rt rv ra nr) (B : rg_B8 12 vs) : ∀ q a t, rd_T vs rv ra rt oc nr q a t → a < 8 ∧ t < 8 := by
  rintro q a t ⟨r, hr, _, k, _, z, e⟩
  have c := (rh_itr R hn (R r hr).2.1 k).resolve_left z
  have i := rg_lt c (by omega)
  exact ⟨rf_b8lt (B _ (rg_lt (R _ i).1 (by decide))) e.1, rf_b8lt (B _ (rg_lt (R r hr).1 (by decide))) e.2.1⟩
end
section
/-! ===== the component's danger ===== -/
def rd_rep (x : Int64) (P : Nat → Nat → Prop) : Prop := ∀ a b, a < 8 → b < 8 → (rf_l x (a * 8 + b) = true ↔ P a b)
theorem rd_rep0 {P : Nat → Nat → Prop} (h : ∀ a b, a < 8 → b < 8 → ¬ P a b) : rd_rep 0 P := fun a b ha hb => by
  rw [rf_l0]; exact ⟨fun z => absurd z (by decide), fun z => absurd z (h a b ha hb)⟩
theorem rd_repc {x : Int64} {P Q : Nat → Nat → Prop} (h : rd_rep x P) (e : ∀ a b, a < 8 → b < 8 → (P a b ↔ Q a b)) : rd_rep x Q := fun a b ha hb => (h a b ha hb).trans (e a b ha hb)
theorem rd_repor {x y : Int64} {P Q S : Nat → Nat → Prop} (h : rd_rep x P) (k : rd_rep y Q) (e : ∀ a b, a < 8 → b < 8 → ((P a b ∨ Q a b) ↔ S a b)) : rd_rep (x ||| y) S := fun a b ha hb => by
  rw [rf_lor, Bool.or_eq_true, h a b ha hb, k a b ha hb]; exact e a b ha hb
theorem rd_repand {x y : Int64} {P Q : Nat → Nat → Prop} (h : rd_rep x P) (k : rd_rep y Q) : rd_rep (x &&& y) (fun a b => P a b ∧ Q a b) := fun a b ha hb => by
  rw [rf_land, Bool.and_eq_true, h a b ha hb, k a b ha hb]
theorem rd_repput {y : Int32} (hy : rf_b8 y) {s : Nat} (hs : s < 8) : rd_rep (y.toInt64 <<< ((nI s * 8).toInt64 &&& 63)) (fun a b => a = s ∧ bt y b = true) := fun a b ha hb => by
  rw [rf_put y hy s a b hs ha hb, Bool.and_eq_true, decide_eq_true_eq]
theorem rd_tg {y oc : Int32} {s b : Nat} (hs : s < 8) (hb : b < 8) : bt (y &&& ((oc &&& ((1 : Int32) <<< (nI s &&& 31))) ^^^ (-1))) b = true ↔ (bt y b = true ∧ ¬ (s = b ∧ bt oc s = true)) := by
  rw [b_and, b_xor, b_m1 b (by omega), b_and, rf_one s (by omega), Bool.and_eq_true]
  by_cases e : b = s
  · subst e
    rw [decide_eq_true rfl]
    cases bt oc b <;> simp
  · rw [decide_eq_false e]
    have : ¬ s = b := fun q => e q.symm
    simp [this]
section
variable {nl ns nr nc : Nat} {oc : Int32} {vs ss cs lt lb lf sb sf so rt rv ra ap av af aw : Nat → Int32}
theorem rx_sb5 {post : Int64 → Prop} {x y : Int32} (hy : rf_b8 y) (hP : ∀ z, rd_rep z (fun a b => bt x a = true ∧ bt y b = true ∧ ¬ (a = b ∧ bt oc a = true)) → post z) :
    ∀ d s z, s + d = 8 → rd_rep z (fun a b => a < s ∧ bt x a = true ∧ bt y b = true ∧ ¬ (a = b ∧ bt oc a = true)) → wX_stepsBetween_5 post x y (nI nl) (nI ns) oc (nI nr) (nI nc) vs ss cs lt lb lf sb sf so rt rv ra ap av af aw (d + 1) z (nI s) := by
  intro d
  induction d with
  | zero =>
    intro s z hs hz
    obtain rfl : s = 8 := by omega
    exact br_t (by decide) (hP z (rd_repc hz (fun a b ha hb => ⟨fun q => q.2, fun q => ⟨ha, q⟩⟩)))
  | succ d ih =>
    intro s z hs hz
    refine br_f (nI_ge (b := 8) (by omega) (by decide)) ?_
    refine rx_has _ _ s (by omega) (fun hb => br_t rfl (nm_r (nI_1 s) (ih (s + 1) z (by omega) (rd_repc hz (fun a b _ _ => ?_))))) (fun hb => br_f (by decide) (nm_e (nm_e (nm_r (nI_1 s) (ih (s + 1) _ (by omega) (rd_repor hz (rd_repput (rf_b8and hy) (by omega)) (fun a b ha hb' => ?_)))))))
    · constructor
      · rintro ⟨q, r⟩; exact ⟨by omega, r⟩
      · rintro ⟨q, r⟩
        refine ⟨?_, r⟩
        by_cases e : a = s
        · rw [e, hb] at r; exact absurd r.1 (by decide)
        · omega
    · rw [rd_tg (by omega) hb']
      constructor
      · rintro (⟨q, r⟩ | ⟨rfl, r⟩)
        · exact ⟨by omega, r⟩
        · exact ⟨by omega, hb, r⟩
      · rintro ⟨q, r⟩
        by_cases e : a = s
        · subst e; exact Or.inr ⟨rfl, r.2⟩
        · exact Or.inl ⟨by omega, r⟩
theorem rx_sb {post : Int64 → Prop} {x y : Int32} (hy : rf_b8 y) (hP : ∀ z, rd_rep z (fun a b => bt x a = true ∧ bt y b = true ∧ ¬ (a = b ∧ bt oc a = true)) → post z) : wpX_stepsBetween post ((nI nl), (nI ns), oc, (nI nr), (nI nc), vs, ss, cs, lt, lb, lf, sb, sf, so, rt, rv, ra, ap, av, af, aw) x y :=
  ⟨9, rx_sb5 hy hP 8 0 0 rfl (rd_rep0 (fun a b _ _ q => absurd q.1 (Nat.not_lt_zero a)))⟩
theorem rx_si26 {post : Int64 → Prop} {r : Nat} (hn : nr ≤ 12) (hr : r < nr) (R : rr_R rt rv ra nr) (B : rg_B8 12 vs) (hP : ∀ z, rd_rep z (fun a b => rh_A (rd_E vs rv oc r b) ra (ra r) 12 a) → post z) :
    ∀ d k z, k + d = 12 → rd_rep z (fun a b => rh_A (rd_E vs rv oc r b) ra (ra r) k a) → wX_stepsInto_26 post (vs (rv r).toNatClampNeg) (nI nl) (nI ns) oc (nI nr) (nI nc) vs ss cs lt lb lf sb sf so rt rv ra ap av af aw (d + 1) z (rh_it ra (ra r) k) (nI k) := by
  have br := B _ (rg_lt (R r hr).1 (by decide))
  intro d
  induction d with
  | zero =>
    intro k z hk hz
    obtain rfl : k = 12 := by omega
    exact br_t (by decide) (hP z hz)
  | succ d ih =>
    intro k z hk hz
    refine br_f (nI_ge (b := 12) (by omega) (by decide)) (br_c (fun y => hP z (rd_repc hz (fun a b _ _ => (rh_AN y (by omega)).symm))) (fun y => ?_))
    have hr' := (rh_itr R hn (R r hr).2.1 k).resolve_left y
    obtain ⟨i, hi, e⟩ := vp_in_of hr' (by omega)
    have ei : (nI i).toNatClampNeg = i := nI_clamp (by omega)
    have hin : vp_in (nI i) 12 := vp_in_nI (by omega) (by decide)
    have e1 : ra i = rh_it ra (ra r) (k + 1) := by
      show _ = if rh_it ra (ra r) k < 0 then rh_it ra (ra r) k else ra (rh_it ra (ra r) k).toNatClampNeg
      rw [if_neg y, e, ei]
    rw [e, ei]
    refine ⟨hin, (R i hi).1, rx_sb br (fun w hw => nm_e ⟨hin, nm_r e1 (nm_r (nI_1 k) (ih (k + 1) _ (by omega) (rd_repor hz hw (fun a b _ _ => ?_))))⟩)⟩
    rw [rh_AS y, e, ei]
    exact Iff.rfl
theorem rx_si {post : Int64 → Prop} {r : Nat} (hn : nr ≤ 12) (hr : r < nr) (R : rr_R rt rv ra nr) (B : rg_B8 12 vs) (hP : ∀ z, rd_rep z (fun a b => rh_A (rd_E vs rv oc r b) ra (ra r) 12 a) → post z) : wpX_stepsInto post ((nI nl), (nI ns), oc, (nI nr), (nI nc), vs, ss, cs, lt, lb, lf, sb, sf, so, rt, rv, ra, ap, av, af, aw) (nI r) := by
  have hin : vp_in (nI r) 12 := vp_in_nI (by omega) (by decide)
  unfold wpX_stepsInto
  rw [nI_clamp (show r < 2 ^ 31 by omega)]
  exact ⟨hin, (R r hr).1, nm_e ⟨hin, nm_e ⟨13, rx_si26 hn hr R B hP 12 0 0 rfl (rd_rep0 (fun a b _ _ => rh_A0))⟩⟩⟩
theorem rx_by5 {post : Int64 → Prop} {q : Nat} (hn : nr ≤ 12) (R : rr_R rt rv ra nr) (B : rg_B8 12 vs) (hP : ∀ z, rd_rep z (rd_T vs rv ra rt oc nr q) → post z) :
    ∀ d r z, r + d = nr → rd_rep z (rd_T vs rv ra rt oc r q) → wX_stepsBy_5 post (nI q) (nI nl) (nI ns) oc (nI nr) (nI nc) vs ss cs lt lb lf sb sf so rt rv ra ap av af aw (d + 1) z (nI r) := by
  intro d
  induction d with
  | zero =>
    intro r z hr hz
    obtain rfl : r = nr := by omega
    exact br_t (nI_le (Nat.le_refl _) (by omega)) (hP z hz)
  | succ d ih =>
    intro r z hr hz
    have er : (nI r).toNatClampNeg = r := nI_clamp (by omega)
    refine br_f (nI_ge (by omega) (by omega)) ⟨vp_in_nI (by omega) (by decide), ?_⟩
    rw [er]
    refine br_c (fun e => rx_si hn (by omega) R B (fun w hw => nm_e (nm_r (nI_1 r) (ih (r + 1) _ (by omega) (rd_repor hz hw (fun a b _ _ => ?_)))))) (fun e => nm_r (nI_1 r) (ih (r + 1) z (by omega) (rd_repc hz (fun a b _ _ => ?_))))
    · constructor
      · rintro (⟨r', h, x⟩ | x)
        · exact ⟨r', by omega, x⟩
        · exact ⟨r, by omega, e, x⟩
      · rintro ⟨r', h, x, y⟩
        by_cases c : r' = r
        · subst c; exact Or.inr y
        · exact Or.inl ⟨r', by omega, x, y⟩
    · constructor
      · rintro ⟨r', h, x⟩
        exact ⟨r', by omega, x⟩
      · rintro ⟨r', h, x, y⟩
        by_cases c : r' = r
        · subst c; exact absurd x e
        · exact ⟨r', by omega, x, y⟩
theorem rx_by {post : Int64 → Prop} {q : Nat} (hn : nr ≤ 12) (R : rr_R rt rv ra nr) (B : rg_B8 12 vs) (hP : ∀ z, rd_rep z (rd_T vs rv ra rt oc nr q) → post z) : wpX_stepsBy post ((nI nl), (nI ns), oc, (nI nr), (nI nc), vs, ss, cs, lt, lb, lf, sb, sf, so, rt, rv, ra, ap, av, af, aw) (nI q) :=
  ⟨nr + 1, rx_by5 hn R B hP nr 0 0 (by omega) (rd_rep0 (fun a b _ _ ⟨r, h, _⟩ => absurd h (Nat.not_lt_zero r)))⟩
theorem rx_row {post : Int32 → Prop} {z : Int64} {s : Nat} {P : Nat → Nat → Prop} (hs : s < 8) (hz : rd_rep z P) (k : ∀ m, rf_b8 m → (∀ i, i < 8 → (bt m i = true ↔ P s i)) → post m) : wpX_row post ((nI nl), (nI ns), oc, (nI nr), (nI nc), vs, ss, cs, lt, lb, lf, sb, sf, so, rt, rv, ra, ap, av, af, aw) z (nI s) := by
  refine k _ (fun i hi => ?_) (fun i hi => ?_)
  · rw [rf_row z s hs, decide_eq_false (by omega)]; rfl
  · rw [rf_row z s hs, decide_eq_true hi, Bool.true_and]; exact hz s i hs hi
theorem rx_c25 {post : Int64 → Prop} {J : Int64 → Int32 → Prop} {P : Nat → Nat → Prop} {k : Nat} {y : Int32} (hk : k < 8) (hy : rf_b8 y) (hy' : ∀ i, i < 8 → (bt y i = true ↔ rd_W P k k i)) (hJ : ∀ z, rd_rep z (rd_W P (k + 1)) → J z (nI (k + 1))) :
    ∀ d s z, s + d = 8 → rd_rep z (fun a b => rd_W P k a b ∨ (a < s ∧ rd_W P k a k ∧ rd_W P k k b)) → wX_closure_25 post J (nI k) y.toInt64 (nI nl) (nI ns) oc (nI nr) (nI nc) vs ss cs lt lb lf sb sf so rt rv ra ap av af aw (d + 1) z (nI s) := by
  intro d
  induction d with
  | zero =>
    intro s z hs hz
    obtain rfl : s = 8 := by omega
    refine br_t (by decide) (nm_r (nI_1 k) (hJ z (rd_repc hz (fun a b ha _ => ?_))))
    constructor
    · rintro (q | q)
      · exact Or.inl q
      · exact Or.inr q.2
    · rintro (q | q)
      · exact Or.inl q
      · exact Or.inr ⟨ha, q⟩
  | succ d ih =>
    intro s z hs hz
    have hs' : s < 8 := by omega
    refine br_f (nI_ge (b := 8) (by omega) (by decide)) ?_
    refine rx_row hs' hz (fun m _ hm => ?_)
    have hsk : bt m k = true ↔ rd_W P k s k := by
      rw [hm k hk]
      exact ⟨fun q => q.elim id (fun q => q.2.1), Or.inl⟩
    refine rx_has _ _ k (by omega) (fun hb => br_t rfl (nm_r (nI_1 s) (ih (s + 1) z (by omega) (rd_repc hz (fun a b _ _ => ?_))))) (fun hb => br_f (by decide) (nm_e (nm_r (nI_1 s) (ih (s + 1) _ (by omega) (rd_repor hz (rd_repput hy hs') (fun a b ha hb' => ?_))))))
    · constructor
      · rintro (q | ⟨q, r⟩)
        · exact Or.inl q
        · exact Or.inr ⟨by omega, r⟩
      · rintro (q | ⟨q, r⟩)
        · exact Or.inl q
        · by_cases e : a = s
          · subst e
            rw [hsk.mpr r.1] at hb
            exact absurd hb (by decide)
          · exact Or.inr ⟨by omega, r⟩
    · rw [hy' b hb']
      constructor
      · rintro ((q | ⟨q, r⟩) | ⟨rfl, q⟩)
        · exact Or.inl q
        · exact Or.inr ⟨by omega, r⟩
        · exact Or.inr ⟨by omega, hsk.mp hb, q⟩
      · rintro (q | ⟨q, r⟩)
        · exact Or.inl (Or.inl q)
        · by_cases e : a = s
          · exact Or.inr ⟨e, r.2⟩
          · exact Or.inl (Or.inr ⟨by omega, r⟩)
theorem rx_c5 {post : Int64 → Prop} {P : Nat → Nat → Prop} (hP : ∀ z, rd_rep z (rd_W P 8) → post z) :
    ∀ d k z, k + d = 8 → rd_rep z (rd_W P k) → wX_closure_5 post (nI nl) (nI ns) oc (nI nr) (nI nc) vs ss cs lt lb lf sb sf so rt rv ra ap av af aw (d + 1) z (nI k) := by
  intro d
  induction d with
  | zero =>
    intro k z hk hz
    obtain rfl : k = 8 := by omega
    exact br_t (by decide) (hP z hz)
  | succ d ih =>
    intro k z hk hz
    refine br_f (nI_ge (b := 8) (by omega) (by decide)) ?_
    refine rx_row (show k < 8 by omega) hz (fun m h1 hm => ⟨9, ?_⟩)
    exact rx_c25 (by omega) h1 hm (fun z hz => ih (k + 1) z (by omega) hz) 8 0 z rfl (rd_repc hz (fun a b _ _ => ⟨Or.inl, fun q => q.elim id (fun q => absurd q.1 (Nat.not_lt_zero a))⟩))
theorem rx_clo {post : Int64 → Prop} {P : Nat → Nat → Prop} {z : Int64} (hz : rd_rep z P) (hP : ∀ z, rd_rep z (rd_W P 8) → post z) : wpX_closure post ((nI nl), (nI ns), oc, (nI nr), (nI nc), vs, ss, cs, lt, lb, lf, sb, sf, so, rt, rv, ra, ap, av, af, aw) z := ⟨9, rx_c5 hP 8 0 z rfl hz⟩
theorem rx_t15 {post : Int64 → Prop} {J : Int64 → Int32 → Prop} {x : Int64} {P : Nat → Nat → Prop} {s : Nat} (hs : s < 8) (hx : rd_rep x P) (hJ : ∀ z, rd_rep z (fun a b => b < s + 1 ∧ P b a) → J z (nI (s + 1))) :
    ∀ d t z, t + d = 8 → rd_rep z (fun a b => (b < s ∨ (b = s ∧ a < t)) ∧ P b a) → wX_transpose_15 post J x (nI s) (nI nl) (nI ns) oc (nI nr) (nI nc) vs ss cs lt lb lf sb sf so rt rv ra ap av af aw (d + 1) z (nI t) := by
  intro d
  induction d with
  | zero =>
    intro t z ht hz
    obtain rfl : t = 8 := by omega
    exact br_t (by decide) (nm_r (nI_1 s) (hJ z (rd_repc hz (fun a b ha _ => ⟨fun q => ⟨by omega, q.2⟩, fun q => ⟨by omega, q.2⟩⟩))))
  | succ d ih =>
    intro t z ht hz
    have ht' : t < 8 := by omega
    refine br_f (nI_ge (b := 8) (by omega) (by decide)) (nm_e (nm_r (nI_1 t) (ih (t + 1) _ (by omega) (fun a b ha hb => ?_))))
    rw [rf_lor, Bool.or_eq_true, hz a b ha hb, rf_tr x s t a b hs ht' ha hb, Bool.and_eq_true, decide_eq_true_eq, hx s t hs ht']
    constructor
    · rintro (⟨q, r⟩ | ⟨⟨rfl, rfl⟩, r⟩)
      · exact ⟨by omega, r⟩
      · exact ⟨by omega, r⟩
    · rintro ⟨q, r⟩
      by_cases e : a = t ∧ b = s
      · obtain ⟨rfl, rfl⟩ := e
        exact Or.inr ⟨⟨rfl, rfl⟩, r⟩
      · exact Or.inl ⟨by omega, r⟩
theorem rx_t5 {post : Int64 → Prop} {x : Int64} {P : Nat → Nat → Prop} (hx : rd_rep x P) (hP : ∀ z, rd_rep z (fun a b => P b a) → post z) :
    ∀ d s z, s + d = 8 → rd_rep z (fun a b => b < s ∧ P b a) → wX_transpose_5 post x (nI nl) (nI ns) oc (nI nr) (nI nc) vs ss cs lt lb lf sb sf so rt rv ra ap av af aw (d + 1) z (nI s) := by
  intro d
  induction d with
  | zero =>
    intro s z hs hz
    obtain rfl : s = 8 := by omega
    exact br_t (by decide) (hP z (rd_repc hz (fun a b _ hb => ⟨fun q => q.2, fun q => ⟨hb, q⟩⟩)))
  | succ d ih =>
    intro s z hs hz
    exact br_f (nI_ge (b := 8) (by omega) (by decide)) ⟨9, rx_t15 (by omega) hx (fun z hz => ih (s + 1) z (by omega) hz) 8 0 z rfl (rd_repc hz (fun a b _ _ => ⟨fun q => ⟨Or.inl q.1, q.2⟩, fun q => ⟨by omega, q.2⟩⟩))⟩
theorem rx_tr {post : Int64 → Prop} {x : Int64} {P : Nat → Nat → Prop} (hx : rd_rep x P) (hP : ∀ z, rd_rep z (fun a b => P b a) → post z) : wpX_transpose post ((nI nl), (nI ns), oc, (nI nr), (nI nc), vs, ss, cs, lt, lb, lf, sb, sf, so, rt, rv, ra, ap, av, af, aw) x :=
  ⟨9, rx_t5 hx hP 8 0 0 rfl (rd_rep0 (fun a b _ _ q => absurd q.1 (Nat.not_lt_zero b)))⟩
theorem rx_sa6 {post : Int32 → Prop} {x y : Int64} {P Q : Nat → Nat → Prop} (hx : rd_rep x P) (hy : rd_rep y Q) (hP : ∀ m, rf_b8 m → (∀ i, i < 8 → (bt m i = true ↔ ∃ s, s < 8 ∧ (∃ b, b < 8 ∧ P s b) ∧ Q s i)) → post m) :
    ∀ d s m, s + d = 8 → rf_b8 m → (∀ i, i < 8 → (bt m i = true ↔ ∃ a, a < s ∧ (∃ b, b < 8 ∧ P a b) ∧ Q a i)) → wX_sitesAlong_6 post x y (nI nl) (nI ns) oc (nI nr) (nI nc) vs ss cs lt lb lf sb sf so rt rv ra ap av af aw (d + 1) m (nI s) := by
  intro d
  induction d with
  | zero =>
    intro s m hs h8 hm
    obtain rfl : s = 8 := by omega
    exact br_t (by decide) (hP m h8 hm)
  | succ d ih =>
    intro s m hs h8 hm
    have hs' : s < 8 := by omega
    refine br_f (nI_ge (b := 8) (by omega) (by decide)) ?_
    refine rx_row hs' hx (fun w _ hw => br_c (fun z => nm_r (nI_1 s) (ih (s + 1) m (by omega) h8 (fun i hi => ?_))) (fun z => ?_))
    · rw [hm i hi]
      constructor
      · rintro ⟨a, ha, r⟩
        exact ⟨a, by omega, r⟩
      · rintro ⟨a, ha, ⟨b, hb, q⟩, r⟩
        by_cases e : a = s
        · subst e
          have := (hw b hb).mpr q
          rw [z, b_0] at this
          exact absurd this (by decide)
        · exact ⟨a, by omega, ⟨b, hb, q⟩, r⟩
    · have ex : ∃ b, b < 8 ∧ P s b := by
        refine Classical.byContradiction (fun n => z (b_ext (fun i _ => ?_)))
        rw [b_0]
        apply rf_nf
        intro q
        have hi := rf_b8lt (by assumption) q
        exact n ⟨i, hi, (hw i hi).mp q⟩
      refine rx_row hs' hy (fun w2 h2 hw2 => nm_e (nm_r (nI_1 s) (ih (s + 1) _ (by omega) (rf_b8or h8 h2) (fun i hi => ?_))))
      rw [b_or, Bool.or_eq_true, hm i hi, hw2 i hi]
      constructor
      · rintro (⟨a, ha, r⟩ | q)
        · exact ⟨a, by omega, r⟩
        · exact ⟨s, by omega, ex, q⟩
      · rintro ⟨a, ha, r⟩
        by_cases e : a = s
        · subst e; exact Or.inr r.2
        · exact Or.inl ⟨a, by omega, r⟩
theorem rx_sa {post : Int32 → Prop} {x y : Int64} {P Q : Nat → Nat → Prop} (hx : rd_rep x P) (hy : rd_rep y Q) (hP : ∀ m, rf_b8 m → (∀ i, i < 8 → (bt m i = true ↔ ∃ s, s < 8 ∧ (∃ b, b < 8 ∧ P s b) ∧ Q s i)) → post m) : wpX_sitesAlong post ((nI nl), (nI ns), oc, (nI nr), (nI nc), vs, ss, cs, lt, lb, lf, sb, sf, so, rt, rv, ra, ap, av, af, aw) x y :=
  ⟨9, rx_sa6 hx hy hP 8 0 0 rfl rf_b80 (fun i _ => by rw [b_0]; exact ⟨fun z => absurd z (by decide), fun ⟨a, h, _⟩ => absurd h (Nat.not_lt_zero a)⟩)⟩
theorem rx_d47 {post : Int32 → Prop} {c : Int64} (hn : nr ≤ 12) (R : rr_R rt rv ra nr) (B : rg_B8 12 vs) (hc : rd_rep c (rd_C (rd_R (rd_T vs rv ra rt oc nr))))
    (hP : ∀ m, rf_b8 m → (∀ i, i < 8 → (bt m i = true ↔ ∃ q1 q2, q1 < q2 ∧ q2 < 4 ∧ rd_U (rd_T vs rv ra rt oc nr) q1 i ∧ rd_U (rd_T vs rv ra rt oc nr) q2 i)) → post m) :
    ∀ d k m1 m2, k + d = 4 → rf_b8 m1 → rf_b8 m2 → (∀ i, i < 8 → (bt m1 i = true ↔ ∃ q, q < k ∧ rd_U (rd_T vs rv ra rt oc nr) q i)) → (∀ i, i < 8 → (bt m2 i = true ↔ ∃ q1 q2, q1 < q2 ∧ q2 < k ∧ rd_U (rd_T vs rv ra rt oc nr) q1 i ∧ rd_U (rd_T vs rv ra rt oc nr) q2 i)) → wX_danger_47 post c (nI nl) (nI ns) oc (nI nr) (nI nc) vs ss cs lt lb lf sb sf so rt rv ra ap av af aw (d + 1) m1 m2 (nI k) := by
  intro d
  induction d with
  | zero =>
    intro k m1 m2 hk b1 b2 h1 h2
    obtain rfl : k = 4 := by omega
    exact br_t (by decide) (hP m2 b2 h2)
  | succ d ih =>
    intro k m1 m2 hk b1 b2 h1 h2
    refine br_f (nI_ge (b := 4) (by omega) (by decide)) ?_
    refine rx_by hn R B (fun z hz => nm_e ?_)
    refine rx_sa (rd_repand hz hc) hc (fun m b hm => nm_e (nm_e (nm_r (nI_1 k) (ih (k + 1) _ _ (by omega) (rf_b8or b1 b) (rf_b8or b2 (rf_b8and b1)) (fun i hi => ?_) (fun i hi => ?_)))))
    · rw [b_or, Bool.or_eq_true, h1 i hi, hm i hi]
      constructor
      · rintro (⟨q, hq, u⟩ | u)
        · exact ⟨q, by omega, u⟩
        · exact ⟨k, by omega, u⟩
      · rintro ⟨q, hq, u⟩
        by_cases e : q = k
        · subst e; exact Or.inr u
        · exact Or.inl ⟨q, by omega, u⟩
    · rw [b_or, Bool.or_eq_true, h2 i hi, b_and, Bool.and_eq_true, h1 i hi, hm i hi]
      constructor
      · rintro (⟨q1, q2, l, hq, u⟩ | ⟨⟨q, hq, u⟩, w⟩)
        · exact ⟨q1, q2, l, by omega, u⟩
        · exact ⟨q, k, hq, by omega, u, w⟩
      · rintro ⟨q1, q2, l, hq, u, w⟩
        by_cases e : q2 = k
        · subst e; exact Or.inr ⟨⟨q1, l, u⟩, w⟩
        · exact Or.inl ⟨q1, q2, l, by omega, u, w⟩
theorem rx_d4 {post : Int32 → Prop} (hn : nr ≤ 12) (R : rr_R rt rv ra nr) (B : rg_B8 12 vs)
    (hP : ∀ m, rf_b8 m → (∀ i, i < 8 → (bt m i = true ↔ ∃ q1 q2, q1 < q2 ∧ q2 < 4 ∧ rd_U (rd_T vs rv ra rt oc nr) q1 i ∧ rd_U (rd_T vs rv ra rt oc nr) q2 i)) → post m) :
    ∀ d k z, k + d = 4 → rd_rep z (fun a b => ∃ q, q < k ∧ rd_T vs rv ra rt oc nr q a b) → wX_danger_4 post (nI nl) (nI ns) oc (nI nr) (nI nc) vs ss cs lt lb lf sb sf so rt rv ra ap av af aw (d + 1) z (nI k) := by
  intro d
  induction d with
  | zero =>
    intro k z hk hz
    obtain rfl : k = 4 := by omega
    refine br_t (by decide) ?_
    refine rx_clo (P := rd_R (rd_T vs rv ra rt oc nr)) hz (fun y hy => ?_)
    refine rx_tr hy (fun w hw => nm_e ⟨5, ?_⟩)
    refine rx_d47 hn R B (rd_repand hy hw) hP 4 0 0 0 rfl rf_b80 rf_b80 (fun i _ => ?_) (fun i _ => ?_)
    · rw [b_0]; exact ⟨fun z => absurd z (by decide), fun ⟨q, h, _⟩ => absurd h (Nat.not_lt_zero q)⟩
    · rw [b_0]; exact ⟨fun z => absurd z (by decide), fun ⟨_, q, _, h, _⟩ => absurd h (Nat.not_lt_zero q)⟩
  | succ d ih =>
    intro k z hk hz
    refine br_f (nI_ge (b := 4) (by omega) (by decide)) ?_
    refine rx_by hn R B (fun w hw => nm_e (nm_r (nI_1 k) (ih (k + 1) _ (by omega) (rd_repor hz hw (fun a b _ _ => ?_)))))
    constructor
    · rintro (⟨q, hq, u⟩ | u)
      · exact ⟨q, by omega, u⟩
      · exact ⟨k, by omega, u⟩
    · rintro ⟨q, hq, u⟩
      by_cases e : q = k
      · subst e; exact Or.inr u
      · exact Or.inl ⟨q, by omega, u⟩
theorem rx_danger {post : Int32 → Prop} (hn : nr ≤ 12) (R : rr_R rt rv ra nr) (B : rg_B8 12 vs)
    (hP : ∀ m, rf_b8 m → (∀ i, i < 8 → (bt m i = true ↔ ∃ q1 q2, q1 < q2 ∧ q2 < 4 ∧ rd_U (rd_T vs rv ra rt oc nr) q1 i ∧ rd_U (rd_T vs rv ra rt oc nr) q2 i)) → post m) : wpX_danger post ((nI nl), (nI ns), oc, (nI nr), (nI nc), vs, ss, cs, lt, lb, lf, sb, sf, so, rt, rv, ra, ap, av, af, aw) :=
  ⟨5, rx_d4 hn R B hP 4 0 0 rfl (rd_rep0 (fun a b _ _ ⟨q, h, _⟩ => absurd h (Nat.not_lt_zero q)))⟩
end
end
section
/-! ===== the reference's danger ===== -/
def rd_sp (sp : Nat → Int32) (P : Nat → Nat → Nat → Prop) : Prop := ∀ q a t, q < 4 → a < 8 → (bt (sp (q * 8 + a)) t = true ↔ P q a t)
theorem rd_spc {sp : Nat → Int32} {P Q : Nat → Nat → Nat → Prop} (h : rd_sp sp P) (e : ∀ q a t, q < 4 → a < 8 → (P q a t ↔ Q q a t)) : rd_sp sp Q := fun q a t hq ha => (h q a t hq ha).trans (e q a t hq ha)
theorem rd_tg2 {y : Int32} {s t : Nat} (hs : s < 8) : bt (y &&& (((1 : Int32) <<< (nI s &&& 31)) ^^^ (-1))) t = true ↔ (bt y t = true ∧ ¬ t = s) := by
  rcases Nat.lt_or_ge t 32 with z | z
  · rw [b_and, b_xor, b_m1 t z, rf_one s (by omega), Bool.and_eq_true]
    by_cases e : t = s
    · simp [e]
    · simp [e]
  · rw [b_big z, b_big z]
    exact ⟨fun q => absurd q (by decide), fun q => absurd q.1 (by decide)⟩
/-- one store into steps -/
theorem rd_spu {sp : Nat → Int32} {P Q : Nat → Nat → Nat → Prop} {th s : Nat} {x : Int32} (hs : s < 8) (h : rd_sp sp P) (n : ∀ q a t, q < 4 → a < 8 → ¬ (q = th ∧ a = s) → (P q a t ↔ Q q a t)) (y : ∀ t, (P th s t ∨ bt x t = true) ↔ Q th s t) : rd_sp (upd sp (th * 8 + s) (sp (th * 8 + s) ||| x)) Q := by
  intro q a t hq ha
  by_cases e : q * 8 + a = th * 8 + s
  · have e1 : q = th := by omega
    have e2 : a = s := by omega
    subst e1 e2
    rw [pk_us, b_or, Bool.or_eq_true, h q a t hq ha]
    exact y t
  · rw [pk_un e, h q a t hq ha]
    exact n q a t hq ha (fun z => e (by rw [z.1, z.2]))
abbrev rd_J6 : Type := Int32 → Int32 → Int32 → Int32 → Int32 → Int32 → (Nat → Int32) → (Nat → Int32) → (Nat → Int32) → (Nat → Int32) → (Nat → Int32) → (Nat → Int32) → (Nat → Int32) → (Nat → Int32) → (Nat → Int32) → (Nat → Int32) → (Nat → Int32) → (Nat → Int32) → (Nat → Int32) → (Nat → Int32) → (Nat → Int32) → (Nat → Int32) → (Nat → Int32) → (Nat → Int32) → (Nat → Int32) → (Nat → Int32) → Prop
section
variable {nl ns nr nc : Nat} {oc kn : Int32} {vs ss cs lt lb lf sb sf so rt rv ra ap av af aw al sg p h sp rch : Nat → Int32}
theorem ry_st3 {post : SY → Prop} {th : Nat} {w v : Int32} {P : Nat → Nat → Nat → Prop} (hth : th < 4) (hw : vp_in w 12) (hv : vp_in v 12) (e : rg_Eq 12 vs p) (O : rr_O oc sg)
    (hP : ∀ sp, rd_sp sp (fun q a t => P q a t ∨ (q = th ∧ bt (vs w.toNatClampNeg) a = true ∧ bt (vs v.toNatClampNeg) t = true ∧ ¬ (a = t ∧ bt oc a = true))) → post ((nI nl), (nI ns), (nI nr), (nI nc), kn, al, cs, lt, lb, lf, sb, so, sf, sg, rt, rv, ra, ap, av, af, aw, p, h, sp, rch)) :
    ∀ d s sp, s + d = 8 → rd_sp sp (fun q a t => P q a t ∨ (q = th ∧ a < s ∧ bt (vs w.toNatClampNeg) a = true ∧ bt (vs v.toNatClampNeg) t = true ∧ ¬ (a = t ∧ bt oc a = true))) → wY_step_3 post (nI th) w v (nI nl) (nI ns) (nI nr) (nI nc) kn (d + 1) (nI s) al cs lt lb lf sb so sf sg rt rv ra ap av af aw p h sp rch := by
  intro d
  induction d with
  | zero =>
    intro s sp hs hz
    obtain rfl : s = 8 := by omega
    refine br_t (by decide) (hP sp (rd_spc hz (fun q a t _ ha => ?_)))
    exact ⟨fun x => x.elim Or.inl (fun x => Or.inr ⟨x.1, x.2.2⟩), fun x => x.elim Or.inl (fun x => Or.inr ⟨x.1, ha, x.2⟩)⟩
  | succ d ih =>
    intro s sp hs hz
    have hs' : s < 8 := by omega
    have es : (nI s).toNatClampNeg = s := nI_clamp (by omega)
    have ei : nI th * 8 + nI s = nI (th * 8 + s) := by rw [rf_m8, nI_add]
    have ec : (nI (th * 8 + s)).toNatClampNeg = th * 8 + s := nI_clamp (by omega)
    have hin : vp_in (nI (th * 8 + s)) 32 := vp_in_nI (by omega) (by decide)
    refine br_f (nI_ge (b := 8) (by omega) (by decide)) ⟨hw, ?_⟩
    rw [e _ (rg_lt hw (by decide)), es]
    refine rf_brY _ s (by omega) (fun hb => ⟨vp_in_nI hs' (by decide), br_c (fun z => ⟨hv, ?_⟩) (fun z => ⟨hv, ?_⟩)⟩) (fun hb => nm_r (nI_1 s) (ih (s + 1) sp (by omega) (rd_spc hz (fun q a t _ _ => ?_))))
    · unfold wY_step_57
      rw [ei, ec, e _ (rg_lt hv (by decide))]
      refine ⟨hin, hin, nm_e (nm_r (nI_1 s) (ih (s + 1) _ (by omega) (rd_spu hs' hz (fun q a t _ _ n => ?_) (fun t => ?_))))⟩
      · constructor
        · exact fun x => x.elim Or.inl (fun x => Or.inr ⟨x.1, by omega, x.2.2⟩)
        · exact fun x => x.elim Or.inl (fun x => Or.inr ⟨x.1, by have := x.1; have := x.2.1; omega, x.2.2⟩)
      · constructor
        · rintro ((x | x) | x)
          · exact Or.inl x
          · exact absurd x.2.1 (by omega)
          · exact Or.inr ⟨rfl, by omega, hb, x, fun y => (O s hs').mp y.2 z⟩
        · rintro (x | x)
          · exact Or.inl (Or.inl x)
          · exact Or.inr x.2.2.2.1
    · unfold wY_step_57
      rw [ei, ec, e _ (rg_lt hv (by decide))]
      refine ⟨hin, hin, nm_e (nm_r (nI_1 s) (ih (s + 1) _ (by omega) (rd_spu hs' hz (fun q a t _ _ n => ?_) (fun t => ?_))))⟩
      · constructor
        · exact fun x => x.elim Or.inl (fun x => Or.inr ⟨x.1, by omega, x.2.2⟩)
        · exact fun x => x.elim Or.inl (fun x => Or.inr ⟨x.1, by have := x.1; have := x.2.1; omega, x.2.2⟩)
      · rw [rd_tg2 hs']
        constructor
        · rintro ((x | x) | x)
          · exact Or.inl x
          · exact absurd x.2.1 (by omega)
          · exact Or.inr ⟨rfl, by omega, hb, x.1, fun y => x.2 y.1.symm⟩
        · rintro (x | x)
          · exact Or.inl (Or.inl x)
          · exact Or.inr ⟨x.2.2.2.1, fun y => x.2.2.2.2 ⟨y.symm, (O s hs').mpr z⟩⟩
    · constructor
      · exact fun x => x.elim Or.inl (fun x => Or.inr ⟨x.1, by omega, x.2.2⟩)
      · rintro (x | x)
        · exact Or.inl x
        · refine Or.inr ⟨x.1, ?_, x.2.2⟩
          by_cases y : a = s
          · have := x.2.2.1
            rw [y, hb] at this
            exact absurd this (by decide)
          · omega
theorem ry_st {post : SY → Prop} {th : Nat} {w v : Int32} {P : Nat → Nat → Nat → Prop} (hth : th < 4) (hw : vp_in w 12) (hv : vp_in v 12) (e : rg_Eq 12 vs p) (O : rr_O oc sg) (hz : rd_sp sp P)
    (hP : ∀ sp, rd_sp sp (fun q a t => P q a t ∨ (q = th ∧ bt (vs w.toNatClampNeg) a = true ∧ bt (vs v.toNatClampNeg) t = true ∧ ¬ (a = t ∧ bt oc a = true))) → post ((nI nl), (nI ns), (nI nr), (nI nc), kn, al, cs, lt, lb, lf, sb, so, sf, sg, rt, rv, ra, ap, av, af, aw, p, h, sp, rch)) : wpY_step post ((nI nl), (nI ns), (nI nr), (nI nc), kn, al, cs, lt, lb, lf, sb, so, sf, sg, rt, rv, ra, ap, av, af, aw, p, h, sp, rch) (nI th) w v :=
  ⟨9, ry_st3 hth hw hv e O hP 8 0 sp rfl (rd_spc hz (fun q a t _ _ => ⟨Or.inl, fun x => x.elim id (fun x => absurd x.2.1 (Nat.not_lt_zero a))⟩))⟩
theorem ry_as40 {post : SY → Prop} {J : rd_J6} {r : Nat} {P : Nat → Nat → Nat → Prop} (hn : nr ≤ 12) (hr : r < nr) (R : rr_R rt rv ra nr) (e : rg_Eq 12 vs p) (O : rr_O oc sg)
    (hJ : ∀ sp, rd_sp sp (fun q a t => P q a t ∨ (rt r = nI q ∧ rh_A (rd_E vs rv oc r t) ra (ra r) 12 a)) → J (nI (r + 1)) (nI nl) (nI ns) (nI nr) (nI nc) kn al cs lt lb lf sb so sf sg rt rv ra ap av af aw p h sp rch) :
    ∀ d k sp, k + d = 12 → rd_sp sp (fun q a t => P q a t ∨ (rt r = nI q ∧ rh_A (rd_E vs rv oc r t) ra (ra r) k a)) → wY_allSteps_40 post J (nI r) (d + 1) (rh_it ra (ra r) k) (nI k) (nI nl) (nI ns) (nI nr) (nI nc) kn al cs lt lb lf sb so sf sg rt rv ra ap av af aw p h sp rch := by
  have er : (nI r).toNatClampNeg = r := nI_clamp (by omega)
  have hrin : vp_in (nI r) 12 := vp_in_nI (by omega) (by decide)
  obtain ⟨th, hth, eth⟩ := vp_in_of (R r hr).2.2 (by decide)
  intro d
  induction d with
  | zero =>
    intro k sp hk hz
    obtain rfl : k = 12 := by omega
    exact br_t (by decide) (nm_r (nI_1 r) (hJ sp hz))
  | succ d ih =>
    intro k sp hk hz
    refine br_f (nI_ge (b := 12) (by omega) (by decide)) (br_c (fun y => nm_r (nI_1 r) (hJ sp (rd_spc hz (fun q a t _ _ => ?_)))) (fun y => ?_))
    · rw [rh_AN (e := 12) y (by omega)]
    have hr' := (rh_itr R hn (R r hr).2.1 k).resolve_left y
    obtain ⟨i, hi, f⟩ := vp_in_of hr' (by omega)
    have ei : (nI i).toNatClampNeg = i := nI_clamp (by omega)
    have hin : vp_in (nI i) 12 := vp_in_nI (by omega) (by decide)
    have e1 : ra i = rh_it ra (ra r) (k + 1) := by
      show _ = if rh_it ra (ra r) k < 0 then rh_it ra (ra r) k else ra (rh_it ra (ra r) k).toNatClampNeg
      rw [if_neg y, f, ei]
    rw [f, er, ei, eth]
    refine ⟨hrin, hin, hrin, ry_st (vs := vs) (oc := oc) hth (R i hi).1 (R r hr).1 e O hz (fun sp hz => ⟨hin, nm_r e1 (nm_r (nI_1 k) (ih (k + 1) sp (by omega) (rd_spc hz (fun q a t hq _ => ?_))))⟩)⟩
    rw [rh_AS y, f, ei, eth, nI_eq (by omega) (by omega)]
    constructor
    · rintro ((x | x) | x)
      · exact Or.inl x
      · exact Or.inr ⟨x.1, Or.inl x.2⟩
      · exact Or.inr ⟨x.1.symm, Or.inr x.2⟩
    · rintro (x | ⟨x, z | z⟩)
      · exact Or.inl (Or.inl x)
      · exact Or.inl (Or.inr ⟨x, z⟩)
      · exact Or.inr ⟨x.symm, z⟩
theorem ry_as23 {post : SY → Prop} (hn : nr ≤ 12) (R : rr_R rt rv ra nr) (e : rg_Eq 12 vs p) (O : rr_O oc sg)
    (hP : ∀ sp, rd_sp sp (rd_T vs rv ra rt oc nr) → post ((nI nl), (nI ns), (nI nr), (nI nc), kn, al, cs, lt, lb, lf, sb, so, sf, sg, rt, rv, ra, ap, av, af, aw, p, h, sp, rch)) :
    ∀ d r sp, r + d = nr → rd_sp sp (rd_T vs rv ra rt oc r) → wY_allSteps_23 post (d + 1) (nI r) (nI nl) (nI ns) (nI nr) (nI nc) kn al cs lt lb lf sb so sf sg rt rv ra ap av af aw p h sp rch := by
  intro d
  induction d with
  | zero =>
    intro r sp hr hz
    obtain rfl : r = nr := by omega
    exact br_t (nI_le (Nat.le_refl _) (by omega)) (hP sp hz)
  | succ d ih =>
    intro r sp hr hz
    have er : (nI r).toNatClampNeg = r := nI_clamp (by omega)
    refine br_f (nI_ge (by omega) (by omega)) ⟨vp_in_nI (by omega) (by decide), nm_r (by rw [er]) ⟨13, ?_⟩⟩
    refine ry_as40 (vs := vs) (oc := oc) (P := rd_T vs rv ra rt oc r) hn (by omega) R e O (fun sp hz => ih (r + 1) sp (by omega) (rd_spc hz (fun q a t _ _ => ?_))) 12 0 sp rfl (rd_spc hz (fun q a t _ _ => ⟨Or.inl, fun x => x.elim id (fun x => absurd x.2 rh_A0)⟩))
    constructor
    · rintro (⟨r', h, x⟩ | x)
      · exact ⟨r', by omega, x⟩
      · exact ⟨r, by omega, x⟩
    · rintro ⟨r', h, x⟩
      by_cases c : r' = r
      · subst c; exact Or.inr x
      · exact Or.inl ⟨r', by omega, x⟩
theorem ry_as2 {post : SY → Prop} (hP : ∀ sp, (∀ j, j < 32 → sp j = 0) → ∃ n, wY_allSteps_23 post n 0 (nI nl) (nI ns) (nI nr) (nI nc) kn al cs lt lb lf sb so sf sg rt rv ra ap av af aw p h sp rch) : ∀ d i sp, i + d = 32 → (∀ j, j < i → sp j = 0) → wY_allSteps_2 post (nI nl) (nI ns) (nI nr) (nI nc) kn (d + 1) (nI i) al cs lt lb lf sb so sf sg rt rv ra ap av af aw p h sp rch := by
  intro d
  induction d with
  | zero =>
    intro i sp hi k
    obtain rfl : i = 32 := by omega
    exact br_t (by decide) (hP sp k)
  | succ d ih =>
    intro i sp hi k
    have ei : (nI i).toNatClampNeg = i := nI_clamp (by omega)
    refine br_f (nI_ge (b := 32) (by omega) (by decide)) ⟨vp_in_nI (by omega) (by decide), ?_⟩
    rw [ei]
    exact nm_e (nm_r (nI_1 i) (ih (i + 1) _ (by omega) (fun j hj => by
      by_cases e : j = i
      · rw [e, pk_us]
      · rw [pk_un e]; exact k j (by omega))))
theorem ry_as {post : SY → Prop} (hn : nr ≤ 12) (R : rr_R rt rv ra nr) (e : rg_Eq 12 vs p) (O : rr_O oc sg)
    (hP : ∀ sp, rd_sp sp (rd_T vs rv ra rt oc nr) → post ((nI nl), (nI ns), (nI nr), (nI nc), kn, al, cs, lt, lb, lf, sb, so, sf, sg, rt, rv, ra, ap, av, af, aw, p, h, sp, rch)) : wpY_allSteps post ((nI nl), (nI ns), (nI nr), (nI nc), kn, al, cs, lt, lb, lf, sb, so, sf, sg, rt, rv, ra, ap, av, af, aw, p, h, sp, rch) :=
  ⟨33, ry_as2 (fun sp k => ⟨nr + 1, ry_as23 hn R e O hP nr 0 sp (by omega) (fun q a t hq ha => by
    rw [k _ (by omega), b_0]
    exact ⟨fun z => absurd z (by decide), fun ⟨r, h, _⟩ => absurd h (Nat.not_lt_zero r)⟩)⟩) 32 0 sp rfl (fun j hj => absurd hj (Nat.not_lt_zero j))⟩
theorem rd_em {i : Nat} (hi : i < 32) : nI i - nI i / 8 * 8 = nI (i % 8) := pk_rem (d := 8) (by omega) (by decide) (by decide)
theorem rd_ed {i : Nat} (hi : i < 32) : nI i / 8 = nI (i / 8) := pk_div (d := 8) (by omega) (by decide) (by decide)
theorem ry_be4 {post : Int32 → Prop} {x : Int32} (hP : ∀ m, (∀ t, bt m t = true ↔ ∃ i, i < 32 ∧ bt x (i % 8) = true ∧ bt (sp i) t = true) → post m) :
    ∀ d i m, i + d = 32 → (∀ t, bt m t = true ↔ ∃ j, j < i ∧ bt x (j % 8) = true ∧ bt (sp j) t = true) → wY_beyond_4 post x (nI nl) (nI ns) (nI nr) (nI nc) kn al cs lt lb lf sb so sf sg rt rv ra ap av af aw p h sp rch (d + 1) m (nI i) := by
  intro d
  induction d with
  | zero =>
    intro i m hi hm
    obtain rfl : i = 32 := by omega
    exact br_t (by decide) (hP m hm)
  | succ d ih =>
    intro i m hi hm
    have ei : (nI i).toNatClampNeg = i := nI_clamp (by omega)
    refine br_f (nI_ge (b := 32) (by omega) (by decide)) ⟨by decide, ?_⟩
    rw [rd_em (by omega), ei]
    refine rf_brY _ (i % 8) (by omega) (fun hb => ⟨vp_in_nI (by omega) (by decide), nm_e (nm_r (nI_1 i) (ih (i + 1) _ (by omega) (fun t => ?_)))⟩) (fun hb => nm_r (nI_1 i) (ih (i + 1) m (by omega) (fun t => ?_)))
    · rw [b_or, Bool.or_eq_true, hm t]
      constructor
      · rintro (⟨j, hj, y⟩ | y)
        · exact ⟨j, by omega, y⟩
        · exact ⟨i, by omega, hb, y⟩
      · rintro ⟨j, hj, y⟩
        by_cases c : j = i
        · subst c; exact Or.inr y.2
        · exact Or.inl ⟨j, by omega, y⟩
    · rw [hm t]
      constructor
      · rintro ⟨j, hj, y⟩
        exact ⟨j, by omega, y⟩
      · rintro ⟨j, hj, y⟩
        by_cases c : j = i
        · subst c
          rw [hb] at y
          exact absurd y.1 (by decide)
        · exact ⟨j, by omega, y⟩
theorem ry_be {post : Int32 → Prop} {x : Int32} {T : Nat → Nat → Nat → Prop} (hz : rd_sp sp T) (hP : ∀ m, (∀ t, bt m t = true ↔ ∃ a, a < 8 ∧ bt x a = true ∧ rd_R T a t) → post m) : wpY_beyond post ((nI nl), (nI ns), (nI nr), (nI nc), kn, al, cs, lt, lb, lf, sb, so, sf, sg, rt, rv, ra, ap, av, af, aw, p, h, sp, rch) x := by
  refine ⟨33, ry_be4 (fun m hm => hP m (fun t => (hm t).trans ?_)) 32 0 0 rfl (fun t => by rw [b_0]; exact ⟨fun z => absurd z (by decide), fun ⟨j, h, _⟩ => absurd h (Nat.not_lt_zero j)⟩)⟩
  constructor
  · rintro ⟨i, hi, y, z⟩
    refine ⟨i % 8, by omega, y, i / 8, by omega, (hz (i / 8) (i % 8) t (by omega) (by omega)).mp ?_⟩
    rw [show i / 8 * 8 + i % 8 = i by omega]
    exact z
  · rintro ⟨a, ha, y, q, hq, z⟩
    refine ⟨q * 8 + a, by omega, ?_, (hz q a t hq ha).mpr z⟩
    rw [show (q * 8 + a) % 8 = a by omega]
    exact y
theorem ry_w33 {post : SY → Prop} {J : ry_J} {T : Nat → Nat → Nat → Prop} {k : Nat} (hz : rd_sp sp T) (hJ : ∀ rch, (∀ a t, a < 8 → (bt (rch a) t = true ↔ rd_V (rd_R T) (k + 1) a t)) → J (nI (k + 1)) al cs lt lb lf sb so sf sg rt rv ra ap av af aw p h sp rch) :
    ∀ d s rch, s + d = 8 → (∀ a t, a < s → (bt (rch a) t = true ↔ rd_V (rd_R T) (k + 1) a t)) → (∀ a t, s ≤ a → a < 8 → (bt (rch a) t = true ↔ rd_V (rd_R T) k a t)) → wY_allWays_33 post J (nI k) (nI nl) (nI ns) (nI nr) (nI nc) kn (d + 1) (nI s) al cs lt lb lf sb so sf sg rt rv ra ap av af aw p h sp rch := by
  intro d
  induction d with
  | zero =>
    intro s rch hs h1 h2
    obtain rfl : s = 8 := by omega
    exact br_t (by decide) (nm_r (nI_1 k) (hJ rch h1))
  | succ d ih =>
    intro s rch hs h1 h2
    have es : (nI s).toNatClampNeg = s := nI_clamp (by omega)
    have hin : vp_in (nI s) 8 := vp_in_nI (by omega) (by decide)
    refine br_f (nI_ge (b := 8) (by omega) (by decide)) ⟨hin, hin, ?_⟩
    rw [es]
    refine ry_be hz (fun m hm => ⟨hin, nm_e (nm_r (nI_1 s) (ih (s + 1) _ (by omega) (fun a t ha => ?_) (fun a t ha hb => ?_)))⟩)
    · by_cases e : a = s
      · subst e
        rw [pk_us, b_or, Bool.or_eq_true, hm t, h2 a t (Nat.le_refl _) (by omega)]
        constructor
        · rintro (x | ⟨b, hb, x, y⟩)
          · exact Or.inl x
          · exact Or.inr ⟨b, hb, (h2 a b (Nat.le_refl _) (by omega)).mp x, y⟩
        · rintro (x | ⟨b, hb, x, y⟩)
          · exact Or.inl x
          · exact Or.inr ⟨b, hb, (h2 a b (Nat.le_refl _) (by omega)).mpr x, y⟩
      · rw [pk_un e]; exact h1 a t (by omega)
    · rw [pk_un (by omega)]; exact h2 a t (by omega) hb
theorem ry_w25 {post : SY → Prop} {T : Nat → Nat → Nat → Prop} (hz : rd_sp sp T) (hP : ∀ rch, (∀ a t, a < 8 → (bt (rch a) t = true ↔ rd_V (rd_R T) 8 a t)) → post ((nI nl), (nI ns), (nI nr), (nI nc), kn, al, cs, lt, lb, lf, sb, so, sf, sg, rt, rv, ra, ap, av, af, aw, p, h, sp, rch)) :
    ∀ d k rch, k + d = 8 → (∀ a t, a < 8 → (bt (rch a) t = true ↔ rd_V (rd_R T) k a t)) → wY_allWays_25 post (nI nl) (nI ns) (nI nr) (nI nc) kn (d + 1) (nI k) al cs lt lb lf sb so sf sg rt rv ra ap av af aw p h sp rch := by
  intro d
  induction d with
  | zero =>
    intro k rch hk h1
    obtain rfl : k = 8 := by omega
    exact br_t (by decide) (hP rch h1)
  | succ d ih =>
    intro k rch hk h1
    exact br_f (nI_ge (b := 8) (by omega) (by decide)) ⟨9, ry_w33 hz (fun rch h1 => ih (k + 1) rch (by omega) h1) 8 0 rch rfl (fun a t ha => absurd ha (Nat.not_lt_zero a)) (fun a t _ ha => h1 a t ha)⟩
theorem ry_w2 {post : SY → Prop} (hP : ∀ rch, (∀ a t, a < 8 → (bt (rch a) t = true ↔ t = a)) → ∃ n, wY_allWays_25 post (nI nl) (nI ns) (nI nr) (nI nc) kn n 0 al cs lt lb lf sb so sf sg rt rv ra ap av af aw p h sp rch) : ∀ d i rch, i + d = 8 → (∀ a t, a < i → (bt (rch a) t = true ↔ t = a)) → wY_allWays_2 post (nI nl) (nI ns) (nI nr) (nI nc) kn (d + 1) (nI i) al cs lt lb lf sb so sf sg rt rv ra ap av af aw p h sp rch := by
  intro d
  induction d with
  | zero =>
    intro i rch hi k
    obtain rfl : i = 8 := by omega
    exact br_t (by decide) (hP rch k)
  | succ d ih =>
    intro i rch hi k
    have ei : (nI i).toNatClampNeg = i := nI_clamp (by omega)
    refine br_f (nI_ge (b := 8) (by omega) (by decide)) ⟨vp_in_nI (by omega) (by decide), ?_⟩
    rw [ei]
    exact nm_e (nm_r (nI_1 i) (ih (i + 1) _ (by omega) (fun a t ha => by
      by_cases e : a = i
      · rw [e, pk_us, rf_one i (by omega), decide_eq_true_eq]
      · rw [pk_un e]; exact k a t (by omega))))
theorem ry_w {post : SY → Prop} {T : Nat → Nat → Nat → Prop} (hz : rd_sp sp T) (hP : ∀ rch, (∀ a t, a < 8 → (bt (rch a) t = true ↔ rd_V (rd_R T) 8 a t)) → post ((nI nl), (nI ns), (nI nr), (nI nc), kn, al, cs, lt, lb, lf, sb, so, sf, sg, rt, rv, ra, ap, av, af, aw, p, h, sp, rch)) : wpY_allWays post ((nI nl), (nI ns), (nI nr), (nI nc), kn, al, cs, lt, lb, lf, sb, so, sf, sg, rt, rv, ra, ap, av, af, aw, p, h, sp, rch) :=
  ⟨9, ry_w2 (fun rch k => ⟨9, ry_w25 hz hP 8 0 rch rfl k⟩) 8 0 rch rfl (fun a t ha => absurd ha (Nat.not_lt_zero a))⟩
end
/-- threads found up to (i, t) -/
def rd_M (Z : Nat → Nat → Prop) (m : Int32) (i0 t0 : Nat) : Prop := ∀ q, bt m q = true ↔ ∃ i t, t < 8 ∧ (i < i0 ∨ (i = i0 ∧ t < t0)) ∧ i / 8 = q ∧ Z i t
theorem rd_M0 {Z : Nat → Nat → Prop} : rd_M Z 0 0 0 := fun q => by
  rw [b_0]
  exact ⟨fun z => absurd z (by decide), fun ⟨i, t, _, h, _⟩ => by omega⟩
theorem rd_Mn {Z : Nat → Nat → Prop} {m : Int32} {i t : Nat} (h : rd_M Z m i t) (n : ¬ Z i t) : rd_M Z m i (t + 1) := fun q => by
  rw [h q]
  constructor
  · rintro ⟨j, u, a, b, c⟩
    exact ⟨j, u, a, by omega, c⟩
  · rintro ⟨j, u, a, b, c, d⟩
    by_cases e : j = i ∧ u = t
    · rw [e.1, e.2] at d; exact absurd d n
    · exact ⟨j, u, a, by omega, c, d⟩
theorem rd_My {Z : Nat → Nat → Prop} {m : Int32} {i t : Nat} (hi : i < 32) (ht : t < 8) (h : rd_M Z m i t) (z : Z i t) : rd_M Z (m ||| ((1 : Int32) <<< (nI (i / 8) &&& 31))) i (t + 1) := fun q => by
  rw [b_or, Bool.or_eq_true, h q, rf_one (i / 8) (by omega), decide_eq_true_eq]
  constructor
  · rintro (⟨j, u, a, b, c⟩ | e)
    · exact ⟨j, u, a, by omega, c⟩
    · exact ⟨i, t, ht, by omega, e.symm, z⟩
  · rintro ⟨j, u, a, b, c, d⟩
    by_cases e : j = i ∧ u = t
    · exact Or.inr (by rw [← c, e.1])
    · exact Or.inl ⟨j, u, a, by omega, c, d⟩
theorem rd_Me {Z : Nat → Nat → Prop} {m : Int32} {i : Nat} (h : rd_M Z m i 8) : rd_M Z m (i + 1) 0 := fun q => by
  rw [h q]
  constructor
  · rintro ⟨j, u, a, b, c⟩
    exact ⟨j, u, a, by omega, c⟩
  · rintro ⟨j, u, a, b, c⟩
    exact ⟨j, u, a, by omega, c⟩
def rd_Z (sp rch : Nat → Int32) (x i t : Nat) : Prop := bt (sp i) t = true ∧ bt (rch x) (i % 8) = true ∧ bt (rch t) x = true
section
variable {nl ns nr nc : Nat} {oc kn : Int32} {vs ss cs lt lb lf sb sf so rt rv ra ap av af aw al sg p h sp rch : Nat → Int32}
theorem ry_t13 {post : Int32 → Prop} {J : Int32 → Int32 → Prop} {x i : Nat} (hx : x < 8) (hi : i < 32) (hJ : ∀ m, rd_M (rd_Z sp rch x) m (i + 1) 0 → J m (nI (i + 1))) :
    ∀ d t m, t + d = 8 → rd_M (rd_Z sp rch x) m i t → wY_threadsAround_13 post J (nI x) (nI i) (nI nl) (nI ns) (nI nr) (nI nc) kn al cs lt lb lf sb so sf sg rt rv ra ap av af aw p h sp rch (d + 1) m (nI t) := by
  have ei : (nI i).toNatClampNeg = i := nI_clamp (by omega)
  have ex : (nI x).toNatClampNeg = x := nI_clamp (by omega)
  intro d
  induction d with
  | zero =>
    intro t m ht hm
    obtain rfl : t = 8 := by omega
    exact br_t (by decide) (nm_r (nI_1 i) (hJ m (rd_Me hm)))
  | succ d ih =>
    intro t m ht hm
    have et : (nI t).toNatClampNeg = t := nI_clamp (by omega)
    have no : ¬ rd_Z sp rch x i t → wY_threadsAround_13 post J (nI x) (nI i) (nI nl) (nI ns) (nI nr) (nI nc) kn al cs lt lb lf sb so sf sg rt rv ra ap av af aw p h sp rch (d + 1) m (nI (t + 1)) := fun n => ih (t + 1) m (by omega) (rd_Mn hm n)
    refine br_f (nI_ge (b := 8) (by omega) (by decide)) ⟨vp_in_nI (by omega) (by decide), ?_⟩
    rw [ei]
    refine rf_brY _ t (by omega) (fun hb => ?_) (fun hb => ?_)
    · unfold wY_threadsAround_40
      refine br_f (by decide) ⟨vp_in_nI hx (by decide), by decide, ?_⟩
      rw [rd_em hi, rd_ed hi, ex, et]
      refine rf_brY _ (i % 8) (by omega) (fun hc => ⟨vp_in_nI (by omega) (by decide), rf_brY _ x (by omega) (fun hd => ⟨by decide, nm_e (nm_r (nI_1 t) (ih (t + 1) _ (by omega) (rd_My hi (by omega) hm ⟨hb, hc, hd⟩)))⟩) (fun hd => nm_r (nI_1 t) (no (fun z => ?_)))⟩) (fun hc => nm_r (nI_1 t) (no (fun z => ?_)))
      · have := z.2.2
        rw [hd] at this; exact absurd this (by decide)
      · have := z.2.1
        rw [hc] at this; exact absurd this (by decide)
    · unfold wY_threadsAround_40
      refine br_t rfl (nm_r (nI_1 t) (no (fun z => ?_)))
      have := z.1
      rw [hb] at this; exact absurd this (by decide)
theorem ry_t4' {post : Int32 → Prop} {x : Nat} (hx : x < 8) (hP : ∀ m, rd_M (rd_Z sp rch x) m 32 0 → post (nI (rf_pc m 8))) :
    ∀ d i m, i + d = 32 → rd_M (rd_Z sp rch x) m i 0 → wY_threadsAround_4 post (nI x) (nI nl) (nI ns) (nI nr) (nI nc) kn al cs lt lb lf sb so sf sg rt rv ra ap av af aw p h sp rch (d + 1) m (nI i) := by
  intro d
  induction d with
  | zero =>
    intro i m hi hm
    obtain rfl : i = 32 := by omega
    exact br_t (by decide) (ry_size _ (hP m hm))
  | succ d ih =>
    intro i m hi hm
    exact br_f (nI_ge (b := 32) (by omega) (by decide)) ⟨9, ry_t13 hx (by omega) (fun m hm => ih (i + 1) m (by omega) hm) 8 0 m rfl hm⟩
theorem ry_ta {post : Int32 → Prop} {x : Nat} {T : Nat → Nat → Nat → Prop} (hx : x < 8) (hz : rd_sp sp T) (hr : ∀ a t, a < 8 → (bt (rch a) t = true ↔ rd_V (rd_R T) 8 a t))
    (hP : ∀ n, n ≤ 8 → (2 ≤ n ↔ ∃ q1 q2, q1 < q2 ∧ q2 < 4 ∧ rd_N T q1 x ∧ rd_N T q2 x) → post (nI n)) : wpY_threadsAround post ((nI nl), (nI ns), (nI nr), (nI nc), kn, al, cs, lt, lb, lf, sb, so, sf, sg, rt, rv, ra, ap, av, af, aw, p, h, sp, rch) (nI x) := by
  refine ⟨33, ry_t4' hx (fun m hm => hP _ (rf_pcle m 8) ?_) 32 0 0 rfl rd_M0⟩
  have key : ∀ q, bt m q = true ↔ (q < 4 ∧ rd_N T q x) := fun q => by
    rw [hm q]
    constructor
    · rintro ⟨i, t, ht, hi, rfl, z1, z2, z3⟩
      have hi' : i < 32 := by omega
      refine ⟨by omega, i % 8, t, by omega, ht, (hz (i / 8) (i % 8) t (by omega) (by omega)).mp ?_, (hr x _ hx).mp z2, (hr t x ht).mp z3⟩
      rw [show i / 8 * 8 + i % 8 = i by omega]
      exact z1
    · rintro ⟨hq, a, t, ha, ht, z1, z2, z3⟩
      refine ⟨q * 8 + a, t, ht, Or.inl (by omega), by omega, (hz q a t hq ha).mpr z1, ?_, (hr t x ht).mpr z3⟩
      rw [show (q * 8 + a) % 8 = a by omega]
      exact (hr x a hx).mpr z2
  rw [rf_pc2]
  constructor
  · rintro ⟨i, j, a, b, c, d⟩
    exact ⟨i, j, a, ((key j).mp d).1, ((key i).mp c).2, ((key j).mp d).2⟩
  · rintro ⟨i, j, a, b, c, d⟩
    exact ⟨i, j, a, by omega, (key i).mpr ⟨by omega, c⟩, (key j).mpr ⟨b, d⟩⟩
theorem ry_d16 {post : Int32 → SY → Prop} {T : Nat → Nat → Nat → Prop} (hz : rd_sp sp T) (hr : ∀ a t, a < 8 → (bt (rch a) t = true ↔ rd_V (rd_R T) 8 a t))
    (hP : ∀ m, rf_b8 m → (∀ i, i < 8 → (bt m i = true ↔ ∃ q1 q2, q1 < q2 ∧ q2 < 4 ∧ rd_N T q1 i ∧ rd_N T q2 i)) → post m ((nI nl), (nI ns), (nI nr), (nI nc), kn, al, cs, lt, lb, lf, sb, so, sf, sg, rt, rv, ra, ap, av, af, aw, p, h, sp, rch)) :
    ∀ d s m, s + d = 8 → (∀ i, bt m i = true ↔ (i < s ∧ ∃ q1 q2, q1 < q2 ∧ q2 < 4 ∧ rd_N T q1 i ∧ rd_N T q2 i)) → wY_danger_16 post (nI nl) (nI ns) (nI nr) (nI nc) kn al cs lt lb lf sb so sf sg rt rv ra ap av af aw p h sp rch (d + 1) m (nI s) := by
  intro d
  induction d with
  | zero =>
    intro s m hs hm
    obtain rfl : s = 8 := by omega
    exact br_t (by decide) (hP m (fun t ht => rf_nf (fun z => absurd ((hm t).mp z).1 (by omega))) (fun i hi => (hm i).trans ⟨fun z => z.2, fun z => ⟨hi, z⟩⟩))
  | succ d ih =>
    intro s m hs hm
    refine br_f (nI_ge (b := 8) (by omega) (by decide)) ?_
    refine ry_ta (show s < 8 by omega) hz hr (fun n hn hq => br_c (fun z => nm_r (nI_1 s) (ih (s + 1) m (by omega) (fun i => ?_))) (fun z => nm_e (nm_r (nI_1 s) (ih (s + 1) _ (by omega) (fun i => ?_)))))
    · have z' : n ≤ 1 := (nI_leI (b := 1) (by omega) (by decide)).mp z
      rw [hm i]
      constructor
      · rintro ⟨a, b⟩
        exact ⟨by omega, b⟩
      · rintro ⟨a, b⟩
        by_cases e : i = s
        · subst e
          have := hq.mpr b
          omega
        · exact ⟨by omega, b⟩
    · have z' : 2 ≤ n := by
        rcases Nat.lt_or_ge n 2 with y | y
        · exact absurd ((nI_leI (b := 1) (by omega) (by decide)).mpr (by omega)) z
        · exact y
      rw [b_or, Bool.or_eq_true, hm i, rf_one s (by omega), decide_eq_true_eq]
      constructor
      · rintro (⟨a, b⟩ | rfl)
        · exact ⟨by omega, b⟩
        · exact ⟨by omega, hq.mp z'⟩
      · rintro ⟨a, b⟩
        by_cases e : i = s
        · exact Or.inr e
        · exact Or.inl ⟨by omega, b⟩
theorem ry_danger {post : Int32 → SY → Prop} (hn : nr ≤ 12) (R : rr_R rt rv ra nr) (O : rr_O oc sg) (hl : nl ≤ 20) (hs : ns ≤ 20) (hL : rg_RL lt lb lf nl) (hS : rg_RL so sb sf ns)
    (K : kn ≠ 0 → rg_Eq 12 vs p ∧ rg_Eq 16 ss h) (L : rg_Le (rg_Cl al cs lt lb lf sb sf so nl ns) vs ss)
    (hP : ∀ kn p h sp rch m, kn ≠ 0 → rg_Eq 12 vs p → rg_Eq 16 ss h → rf_b8 m → (∀ i, i < 8 → (bt m i = true ↔ ∃ q1 q2, q1 < q2 ∧ q2 < 4 ∧ rd_N (rd_T vs rv ra rt oc nr) q1 i ∧ rd_N (rd_T vs rv ra rt oc nr) q2 i)) → post m ((nI nl), (nI ns), (nI nr), (nI nc), kn, al, cs, lt, lb, lf, sb, so, sf, sg, rt, rv, ra, ap, av, af, aw, p, h, sp, rch)) : wpY_danger post ((nI nl), (nI ns), (nI nr), (nI nc), kn, al, cs, lt, lb, lf, sb, so, sf, sg, rt, rv, ra, ap, av, af, aw, p, h, sp, rch) := by
  unfold wpY_danger
  refine ry_work hl hs hL hS K L (fun kn p h z e f => ?_)
  refine ry_as (vs := vs) (oc := oc) hn R e O (fun sp hz => ?_)
  refine ry_w hz (fun rch hr => ⟨9, ?_⟩)
  exact ry_d16 hz hr (fun m b hm => hP kn p h sp rch m z e f b hm) 8 0 0 rfl (fun i => by rw [b_0]; exact ⟨fun z => absurd z (by decide), fun z => absurd z.1 (Nat.not_lt_zero i)⟩)
end
end
section
theorem i_vc_danger {k : Nat} {u : SX} {v : SY} (I : i_Rel k u v) (hk : k + 5 ≤ 2560) : wpX_danger (fun r => wpY_danger (fun r' v' => r' = r ∧ i_Rel (k + 5) u v') v) u := by
  obtain ⟨nl, ns, nr, nc, oc, kn, vs, ss, cs, lt, lb, lf, sb, sf, so, rt, rv, ra, ap, av, af, aw, al, sg, p, h, sp, rch, rfl, rfl, F⟩ := I
  obtain ⟨f1, f2, f3, f4, f5, f6, f7, f8, f9, f10, f11⟩ := id F
  have hT := rd_Tb (oc := oc) f3 f8 f10.1
  refine rx_danger f3 f8 f10.1 (fun m b hm => ry_danger (vs := vs) (ss := ss) (oc := oc) f3 f8 f7 f1 f2 f5 f6 f11 f10 (fun kn p h sp rch m' z e g b' hm' => ⟨rf_b8ext b' b (fun i hi => ?_), rr_mk ⟨f1, f2, f3, f4, f5, f6, f7, f8, f9, f10, fun _ => ⟨e, g⟩⟩⟩))
  rw [hm i hi, hm' i hi]
  constructor
  · rintro ⟨q1, q2, x, y, c, d⟩
    exact ⟨q1, q2, x, y, (rd_UN hT (by omega) hi).mpr c, (rd_UN hT y hi).mpr d⟩
  · rintro ⟨q1, q2, x, y, c, d⟩
    exact ⟨q1, q2, x, y, (rd_UN hT (by omega) hi).mp c, (rd_UN hT y hi).mp d⟩
end
