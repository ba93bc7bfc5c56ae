/-! rows of kit/rows pasted (pk_, b_, wb_), then rows on bits of our own -/
theorem pk_us {f : Nat → Int32} {k : Nat} {x : Int32} : upd f k x k = x := if_pos rfl
theorem pk_un {f : Nat → Int32} {k j : Nat} {x : Int32} (h : j ≠ k) : upd f k x j = f j := if_neg h
theorem pk_sub {a b : Nat} (h : b ≤ a) : nI a - nI b = nI (a - b) := by
  obtain ⟨c, rfl⟩ : ∃ c, a = c + b := ⟨a - b, by omega⟩
  rw [← nI_add, Int32.add_sub_cancel, Nat.add_sub_cancel]
theorem pk_m1 (n : Nat) : nI (n + 1) + (-1) = nI n := by
  rw [← nI_1, Int32.add_assoc, show (1 : Int32) + (-1) = 0 from rfl, Int32.add_zero]
theorem pk_mul (a b : Nat) : nI a * nI b = nI (a * b) := (Int32.ofNat_mul a b).symm
theorem pk_div {a d : Nat} (ha : a < 2 ^ 31) (h0 : 0 < d) (hd : d < 2 ^ 31) : nI a / nI d = nI (a / d) := by
  apply Int32.toInt_inj.mp
  rw [lg_idiv_nonneg (by rw [nI_toInt ha]; omega) (by rw [nI_toInt hd]; omega), nI_toInt ha, nI_toInt hd, nI_toInt (Nat.lt_of_le_of_lt (Nat.div_le_self a d) ha)]
  first | rfl | exact (Int.natCast_ediv _ _).symm
theorem pk_rem {a d : Nat} (ha : a < 2 ^ 31) (h0 : 0 < d) (hd : d < 2 ^ 31) : nI a - nI a / nI d * nI d = nI (a % d) := by
  rw [pk_div ha h0 hd, pk_mul, pk_sub (Nat.div_mul_le_self a d)]
  exact congrArg nI (by have := Nat.div_add_mod' a d; omega)
theorem pk_sub_toInt {a b : Nat} (ha : a < 2 ^ 30) (hb : b < 2 ^ 30) : (nI a - nI b).toInt = (a : Int) - b := by
  rw [Int32.toInt_sub, nI_toInt (by omega), nI_toInt (by omega)]
  exact Int.bmod_eq_of_le (by omega) (by omega)
theorem pk_sneg {a b : Nat} (hb : b < 2 ^ 30) (h : a < b) : nI a - nI b < 0 := by
  rw [Int32.lt_iff_toInt_lt, pk_sub_toInt (by omega) hb, show (0 : Int32).toInt = 0 from by decide]
  omega
theorem pk_ix (x : Int32) {n : Nat} (hn : n < 2 ^ 31) : x < 0 ∨ nI n ≤ x ∨ ∃ j : Nat, j < n ∧ x = nI j := by
  by_cases h : x < 0
  · exact Or.inl h
  · obtain ⟨j, hj, rfl⟩ := nI_of h
    by_cases h2 : j < n
    · exact Or.inr (Or.inr ⟨j, h2, rfl⟩)
    · exact Or.inr (Or.inl (nI_le (by omega) hj))
theorem pk_le {x y : Int32} {A B : Prop} (a b : Nat) (f : a ≤ b → A) (g : b < a → B) (hx : x = nI a := by rfl) (hy : y = nI b := by rfl) (ha : a < 2 ^ 31 := by omega) (hb : b < 2 ^ 31 := by omega) : (x ≤ y → A) ∧ (¬ x ≤ y → B) := by
  subst hx hy
  rw [nI_leI ha hb]
  exact ⟨f, fun z => g (by omega)⟩
theorem pk_lt {x y : Int32} {A B : Prop} (a b : Nat) (f : a < b → A) (g : b ≤ a → B) (hx : x = nI a := by rfl) (hy : y = nI b := by rfl) (ha : a < 2 ^ 31 := by omega) (hb : b < 2 ^ 31 := by omega) : (x < y → A) ∧ (¬ x < y → B) := by
  subst hx hy
  rw [nI_ltI ha hb]
  exact ⟨f, fun z => g (by omega)⟩
theorem pk_eq {x y : Int32} {A B : Prop} (a b : Nat) (f : a = b → A) (g : a ≠ b → B) (hx : x = nI a := by rfl) (hy : y = nI b := by rfl) (ha : a < 2 ^ 31 := by omega) (hb : b < 2 ^ 31 := by omega) : (x = y → A) ∧ (¬ x = y → B) := by
  subst hx hy
  rw [nI_eq ha hb]
  exact ⟨f, g⟩
theorem pk_in {x : Int32} (n N : Nat) (h : n < N) (hx : x = nI n := by rfl) (hN : N < 2 ^ 31 := by omega) : vp_in x N := by
  subst hx
  exact vp_in_nI h hN
theorem pk_cl {x : Int32} (n : Nat) (hx : x = nI n := by rfl) (h : n < 2 ^ 31 := by omega) : x.toNatClampNeg = n := by
  subst hx
  exact nI_clamp h
theorem pk_tn {n : Nat} (h : n < 2 ^ 32) : (nI n).toBitVec.toNat = n := Nat.mod_eq_of_lt h
theorem pk_and (x : Int32) {m : Int32} (k : Nat) (hm : m.toBitVec.toNat = 2 ^ k - 1) : x &&& m = nI (x.toBitVec.toNat % 2 ^ k) := by
  apply Int32.toBitVec_inj.mp
  apply BitVec.eq_of_toNat_eq
  rw [Int32.toBitVec_and, BitVec.toNat_and, hm, Nat.and_two_pow_sub_one_eq_mod]
  show _ = (BitVec.ofNat 32 _).toNat
  rw [BitVec.toNat_ofNat]
  exact (Nat.mod_eq_of_lt (Nat.lt_of_le_of_lt (Nat.mod_le _ _) x.toBitVec.isLt)).symm
theorem pk_andE (x : Int32) {m : Int32} (k : Nat) (hm : m.toBitVec.toNat = 2 ^ k - 1) : ∃ j : Nat, j < 2 ^ k ∧ x &&& m = nI j := ⟨_, Nat.mod_lt _ (Nat.two_pow_pos k), pk_and x k hm⟩
def bt (x : Int32) (i : Nat) : Bool := x.toBitVec.getLsbD i
theorem b_ext {x y : Int32} (h : ∀ i, i < 32 → bt x i = bt y i) : x = y := Int32.toBitVec_inj.mp (BitVec.eq_of_getLsbD_eq (fun i hi => h i hi))
theorem b_or (x y : Int32) (i : Nat) : bt (x ||| y) i = (bt x i || bt y i) := by unfold bt; rw [Int32.toBitVec_or, BitVec.getLsbD_or]
theorem b_and (x y : Int32) (i : Nat) : bt (x &&& y) i = (bt x i && bt y i) := by unfold bt; rw [Int32.toBitVec_and, BitVec.getLsbD_and]
theorem b_xor (x y : Int32) (i : Nat) : bt (x ^^^ y) i = (bt x i ^^ bt y i) := by unfold bt; rw [Int32.toBitVec_xor, BitVec.getLsbD_xor]
theorem b_big {x : Int32} {i : Nat} (h : 32 ≤ i) : bt x i = false := BitVec.getLsbD_of_ge _ _ h
theorem b_255 (i : Nat) : bt 255 i = decide (i < 8) := by
  rcases Nat.lt_or_ge i 32 with h | h
  · exact (by decide +kernel : ∀ i, i < 32 → bt 255 i = decide (i < 8)) i h
  · rw [b_big h, decide_eq_false (by omega)]
theorem b_m1 : ∀ i, i < 32 → bt (-1) i = true := by decide +kernel
theorem b_0 (i : Nat) : bt 0 i = false := BitVec.getLsbD_zero
theorem s_l : ∀ n, n < 32 → ((nI n &&& 31).toBitVec.smod 32).toNat = n := by decide +kernel
theorem s_u : ∀ n, n < 32 → (((nI n).toUInt32 &&& Int32.toUInt32 31).toBitVec % 32).toNat = n := by decide +kernel
theorem b_shl (n : Nat) (hn : n < 32) (x : Int32) {i : Nat} (hi : i < 32) : bt (x <<< (nI n &&& 31)) i = (decide (n ≤ i) && bt x (i - n)) := by
  unfold bt
  rw [Int32.toBitVec_shiftLeft]
  show (x.toBitVec <<< ((nI n &&& 31).toBitVec.smod 32).toNat).getLsbD i = _
  rw [s_l n hn, BitVec.getLsbD_shiftLeft]
  rcases Nat.lt_or_ge i n with h | h
  · simp [h, Nat.not_le.mpr h]
  · simp [hi, h, Nat.not_lt.mpr h]
theorem b_ushr (n : Nat) (hn : n < 32) (x : Int32) (i : Nat) : bt ((x.toUInt32 >>> ((nI n).toUInt32 &&& Int32.toUInt32 31)).toInt32) i = bt x (n + i) := by
  show (x.toUInt32 >>> ((nI n).toUInt32 &&& Int32.toUInt32 31)).toBitVec.getLsbD i = x.toUInt32.toBitVec.getLsbD (n + i)
  rw [UInt32.toBitVec_shiftRight]
  show (x.toUInt32.toBitVec >>> (((nI n).toUInt32 &&& Int32.toUInt32 31).toBitVec % 32).toNat).getLsbD i = _
  rw [s_u n hn, BitVec.getLsbD_ushiftRight]
theorem b_sshr (n : Nat) (hn : n < 32) (x : Int32) {i : Nat} (hi : i < 32) : bt (x >>> (nI n &&& 31)) i = if n + i < 32 then bt x (n + i) else bt x 31 := by
  unfold bt
  rw [Int32.toBitVec_shiftRight]
  show (x.toBitVec.sshiftRight ((nI n &&& 31).toBitVec.smod 32).toNat).getLsbD i = _
  rw [s_l n hn, BitVec.getLsbD_sshiftRight, BitVec.msb_eq_getLsbD_last]
  simp [hi]
theorem wb_tb (n : Nat) : (lN n).toBitVec = BitVec.ofNat 64 n := rfl
theorem wb_inj {a b : Int64} (h : a.toBitVec = b.toBitVec) : a = b := Int64.toBitVec_inj.mp h
theorem wb_of (x : Int64) : ∃ n, n < 2 ^ 64 ∧ x = lN n := ⟨x.toBitVec.toNat, x.toBitVec.isLt, wb_inj (by rw [wb_tb]; simp)⟩
theorem wb_of32 (x : Int32) : ∃ n, n < 2 ^ 32 ∧ x = nI n := ⟨x.toBitVec.toNat, x.toBitVec.isLt, Int32.toBitVec_inj.mp (by show _ = BitVec.ofNat 32 _; simp)⟩
theorem wb_c : ∀ k, k < 64 → ((nI k).toInt64 &&& 63) = lN k := by decide +kernel
theorem wb_cu : ∀ k, k < 64 → ((nI k).toInt64.toUInt64 &&& Int64.toUInt64 63) = UInt64.ofNat k := by decide +kernel
theorem wb_sm : ∀ k, k < 64 → (BitVec.ofNat 64 k).smod 64 = BitVec.ofNat 64 k := by decide +kernel
/-! ===== rows of our own on bits ===== -/
/-- every bit of x is one of y -/
def rf_sub (x y : Int32) : Prop := ∀ t, bt x t = true → bt y t = true
/-- no bit from 8 on -/
def rf_b8 (x : Int32) : Prop := ∀ t, 8 ≤ t → bt x t = false
theorem rf_nf {b : Bool} (h : ¬ b = true) : b = false := by cases b <;> first | rfl | exact absurd rfl h
theorem rf_nt {b : Bool} (h : ¬ b = false) : b = true := by cases b <;> first | rfl | exact absurd rfl h
theorem rf_beq {a b : Bool} (h : a = true ↔ b = true) : a = b := by cases a <;> cases b <;> simp at h <;> rfl
theorem rf_subr (x : Int32) : rf_sub x x := fun _ h => h
theorem rf_subt {x y z : Int32} (h : rf_sub x y) (k : rf_sub y z) : rf_sub x z := fun t e => k t (h t e)
theorem rf_suba {x y : Int32} (h : rf_sub x y) (k : rf_sub y x) : x = y := b_ext (fun i _ => rf_beq ⟨h i, k i⟩)
theorem rf_sub0 (x : Int32) : rf_sub 0 x := fun t h => by rw [b_0] at h; exact absurd h (by decide)
theorem rf_b80 : rf_b8 0 := fun t _ => b_0 t
theorem rf_orl (x y : Int32) : rf_sub x (x ||| y) := fun t h => by rw [b_or, h]; rfl
theorem rf_orr (x y : Int32) : rf_sub y (x ||| y) := fun t h => by rw [b_or, h, Bool.or_true]
theorem rf_ors {x y z : Int32} (h : rf_sub x z) (k : rf_sub y z) : rf_sub (x ||| y) z := fun t e => by
  rw [b_or] at e
  cases hx : bt x t
  · rw [hx, Bool.false_or] at e; exact k t e
  · exact h t hx
theorem rf_b8or {x y : Int32} (h : rf_b8 x) (k : rf_b8 y) : rf_b8 (x ||| y) := fun t e => by rw [b_or, h t e, k t e]; rfl
theorem rf_b8and {x y : Int32} (h : rf_b8 x) : rf_b8 (x &&& y) := fun t e => by rw [b_and, h t e]; rfl
theorem rf_b8lt {x : Int32} (h : rf_b8 x) {t : Nat} (e : bt x t = true) : t < 8 := by
  rcases Nat.lt_or_ge t 8 with z | z
  · exact z
  · rw [h t z] at e; exact absurd e (by decide)
theorem rf_b8ext {x y : Int32} (h : rf_b8 x) (k : rf_b8 y) (e : ∀ i, i < 8 → (bt x i = true ↔ bt y i = true)) : x = y := b_ext (fun i _ => by
  rcases Nat.lt_or_ge i 8 with z | z
  · exact rf_beq (e i z)
  · rw [h i z, k i z])
/-- what is new of x over y -/
theorem rf_fr (x y : Int32) : y ||| (x &&& (y ^^^ (-1))) = y ||| x := b_ext (fun i hi => by
  rw [b_or, b_or, b_and, b_xor, b_m1 i hi]
  cases bt x i <;> cases bt y i <;> rfl)
theorem rf_fr0 (x y : Int32) : x &&& (y ^^^ (-1)) = 0 ↔ rf_sub x y := by
  constructor
  · intro h t e
    rcases Nat.lt_or_ge t 32 with z | z
    · have k : bt (x &&& (y ^^^ (-1))) t = false := by rw [h, b_0]
      rw [b_and, b_xor, b_m1 t z, e] at k
      cases hy : bt y t
      · rw [hy] at k; exact absurd k (by decide)
      · rfl
    · rw [b_big z] at e; exact absurd e (by decide)
  · intro h
    apply b_ext
    intro i hi
    rw [b_and, b_xor, b_m1 i hi, b_0]
    cases hx : bt x i
    · rfl
    · rw [h i hx]; rfl
theorem rf_or0 (x y : Int32) : x ||| y = 0 ↔ x = 0 ∧ y = 0 := by
  constructor
  · intro h
    have k : ∀ i, (bt x i || bt y i) = false := fun i => by rw [← b_or, h, b_0]
    exact ⟨b_ext fun i _ => by have := k i; rw [b_0]; cases hx : bt x i <;> simp [hx] at this ⊢, b_ext fun i _ => by have := k i; rw [b_0]; cases hx : bt y i <;> simp [hx] at this ⊢⟩
  · rintro ⟨rfl, rfl⟩; rfl
theorem rf_orid {x y : Int32} (h : rf_sub y x) : x ||| y = x := rf_suba (rf_ors (rf_subr x) h) (rf_orl x y)
theorem b_1 (i : Nat) : bt 1 i = decide (i = 0) := by
  rcases Nat.lt_or_ge i 32 with h | h
  · exact (by decide +kernel : ∀ i, i < 32 → bt 1 i = decide (i = 0)) i h
  · rw [b_big h, decide_eq_false (by omega)]
theorem rf_one (s : Nat) (hs : s < 32) (i : Nat) : bt ((1 : Int32) <<< (nI s &&& 31)) i = decide (i = s) := by
  rcases Nat.lt_or_ge i 32 with hi | hi
  · rw [b_shl s hs 1 hi, b_1]
    rcases Nat.lt_or_ge i s with z | z
    · rw [decide_eq_false (show ¬ s ≤ i by omega), decide_eq_false (show ¬ i = s by omega)]; rfl
    · rw [decide_eq_true z, Bool.true_and]
      exact decide_eq_decide.mpr (by omega)
  · rw [b_big hi, decide_eq_false (by omega)]
theorem rf_b81 (s : Nat) (hs : s < 8) : rf_b8 ((1 : Int32) <<< (nI s &&& 31)) := fun t ht => by rw [rf_one s (by omega)]; exact decide_eq_false (by omega)
theorem rf_tX (x : Int32) (s : Nat) (hs : s < 32) : ((x.toUInt32 >>> ((nI s).toUInt32 &&& Int32.toUInt32 31)).toInt32 &&& 1) = nI (bt x s).toNat := by
  apply b_ext
  intro i hi
  rw [b_and, b_ushr s hs, b_1]
  by_cases z : i = 0
  · subst z
    rw [decide_eq_true rfl, Bool.and_true, Nat.add_zero]
    cases bt x s
    · exact (b_0 0).symm
    · exact (b_1 0).symm
  · rw [decide_eq_false z, Bool.and_false]
    cases bt x s
    · exact (b_0 i).symm
    · exact ((b_1 i).trans (decide_eq_false z)).symm
theorem rf_tY (x : Int32) (s : Nat) (hs : s < 32) : ((x >>> (nI s &&& 31)) &&& 1) = nI (bt x s).toNat := by
  apply b_ext
  intro i hi
  rw [b_and, b_sshr s hs _ hi, b_1]
  by_cases z : i = 0
  · subst z
    rw [decide_eq_true rfl, Bool.and_true, if_pos (by omega), Nat.add_zero]
    cases bt x s
    · exact (b_0 0).symm
    · exact (b_1 0).symm
  · rw [decide_eq_false z, Bool.and_false]
    cases bt x s
    · exact (b_0 i).symm
    · exact ((b_1 i).trans (decide_eq_false z)).symm
theorem rf_brX {A B : Prop} (x : Int32) (s : Nat) (hs : s < 32) (f : bt x s = false → A) (g : bt x s = true → B) : (((x.toUInt32 >>> ((nI s).toUInt32 &&& Int32.toUInt32 31)).toInt32 &&& 1) = 0 → A) ∧ (¬ ((x.toUInt32 >>> ((nI s).toUInt32 &&& Int32.toUInt32 31)).toInt32 &&& 1) = 0 → B) := by
  rw [rf_tX x s hs]
  cases h : bt x s
  · exact br_t rfl (f h)
  · exact br_f (by decide) (g h)
theorem rf_brY {A B : Prop} (x : Int32) (s : Nat) (hs : s < 32) (f : bt x s = true → A) (g : bt x s = false → B) : (((x >>> (nI s &&& 31)) &&& 1) = 1 → A) ∧ (¬ ((x >>> (nI s &&& 31)) &&& 1) = 1 → B) := by
  rw [rf_tY x s hs]
  cases h : bt x s
  · exact br_f (by decide) (g h)
  · exact br_t rfl (f h)
/-- how many of the first n bits -/
def rf_pc (x : Int32) : Nat → Nat
  | 0 => 0
  | n + 1 => rf_pc x n + (bt x n).toNat
theorem rf_pcle (x : Int32) : ∀ n, rf_pc x n ≤ n
  | 0 => Nat.le_refl _
  | n + 1 => by
    have := rf_pcle x n
    have h : (bt x n).toNat ≤ 1 := by cases bt x n <;> decide
    show rf_pc x n + _ ≤ _
    omega
theorem rf_pcm {x y : Int32} (h : rf_sub x y) : ∀ n, rf_pc x n ≤ rf_pc y n
  | 0 => Nat.le_refl _
  | n + 1 => by
    have := rf_pcm h n
    have k : (bt x n).toNat ≤ (bt y n).toNat := by
      cases hx : bt x n
      · exact Nat.zero_le _
      · rw [h n hx]; exact Nat.le_refl _
    show rf_pc x n + _ ≤ rf_pc y n + _
    omega
theorem rf_pce {x y : Int32} (h : rf_sub x y) : ∀ n, rf_pc y n ≤ rf_pc x n → ∀ i, i < n → bt y i = bt x i
  | 0 => fun _ i hi => absurd hi (Nat.not_lt_zero i)
  | n + 1 => fun e i hi => by
    have e : rf_pc y n + (bt y n).toNat ≤ rf_pc x n + (bt x n).toNat := e
    have a := rf_pcm h n
    have k : (bt x n).toNat ≤ (bt y n).toNat := by
      cases hx : bt x n
      · exact Nat.zero_le _
      · rw [h n hx]; exact Nat.le_refl _
    rcases Nat.lt_or_ge i n with z | z
    · exact rf_pce h n (by omega) i z
    · obtain rfl : i = n := by omega
      have q : (bt y i).toNat = (bt x i).toNat := by omega
      revert q
      cases bt y i <;> cases bt x i <;> decide
theorem rf_pc8 {x y : Int32} (h : rf_sub x y) (hy : rf_b8 y) (e : rf_pc y 8 ≤ rf_pc x 8) : y = x := b_ext (fun i _ => by
  rcases Nat.lt_or_ge i 8 with z | z
  · exact rf_pce h 8 e i z
  · rw [hy i z]
    cases hx : bt x i
    · rfl
    · rw [← hy i z, h i hx])
theorem rf_pc1 (x : Int32) : ∀ n, 1 ≤ rf_pc x n ↔ ∃ i, i < n ∧ bt x i = true
  | 0 => ⟨fun h => absurd h (show ¬ 1 ≤ 0 by decide), fun ⟨i, h, _⟩ => absurd h (Nat.not_lt_zero i)⟩
  | n + 1 => by
    have ih := rf_pc1 x n
    constructor
    · intro h
      have h : 1 ≤ rf_pc x n + (bt x n).toNat := h
      cases hx : bt x n
      · rw [hx] at h
        obtain ⟨i, a, b⟩ := ih.mp h
        exact ⟨i, by omega, b⟩
      · exact ⟨n, by omega, hx⟩
    · rintro ⟨i, a, b⟩
      show 1 ≤ rf_pc x n + (bt x n).toNat
      rcases Nat.lt_or_ge i n with z | z
      · have := ih.mpr ⟨i, z, b⟩
        omega
      · obtain rfl : i = n := by omega
        rw [b]
        exact Nat.le_add_left _ _
theorem rf_pc2 (x : Int32) : ∀ n, 2 ≤ rf_pc x n ↔ ∃ i j, i < j ∧ j < n ∧ bt x i = true ∧ bt x j = true
  | 0 => ⟨fun h => absurd h (show ¬ 2 ≤ 0 by decide), fun ⟨i, j, _, h, _⟩ => absurd h (Nat.not_lt_zero j)⟩
  | n + 1 => by
    have ih := rf_pc2 x n
    constructor
    · intro h
      have h : 2 ≤ rf_pc x n + (bt x n).toNat := h
      cases hx : bt x n
      · rw [hx] at h
        obtain ⟨i, j, a, b, c⟩ := ih.mp h
        exact ⟨i, j, a, by omega, c⟩
      · rw [hx] at h
        have h : 2 ≤ rf_pc x n + 1 := h
        obtain ⟨i, a, b⟩ := (rf_pc1 x n).mp (by omega)
        exact ⟨i, n, a, by omega, b, hx⟩
    · rintro ⟨i, j, a, b, c, d⟩
      show 2 ≤ rf_pc x n + (bt x n).toNat
      rcases Nat.lt_or_ge j n with z | z
      · have := ih.mpr ⟨i, j, a, z, c, d⟩
        omega
      · obtain rfl : j = n := by omega
        have := (rf_pc1 x j).mpr ⟨i, a, c⟩
        rw [d]
        show 2 ≤ rf_pc x j + 1
        omega
/-! ===== longs by their bits ===== -/
def rf_l (x : Int64) (i : Nat) : Bool := x.toBitVec.getLsbD i
theorem rf_lor (x y : Int64) (i : Nat) : rf_l (x ||| y) i = (rf_l x i || rf_l y i) := by unfold rf_l; rw [Int64.toBitVec_or, BitVec.getLsbD_or]
theorem rf_land (x y : Int64) (i : Nat) : rf_l (x &&& y) i = (rf_l x i && rf_l y i) := by unfold rf_l; rw [Int64.toBitVec_and, BitVec.getLsbD_and]
theorem rf_l0 (i : Nat) : rf_l 0 i = false := BitVec.getLsbD_zero
theorem rf_l1 : ∀ i, i < 64 → rf_l 1 i = decide (i = 0) := by decide +kernel
theorem rf_i64 (x : Int32) (h : rf_b8 x) (i : Nat) (hi : i < 64) : rf_l x.toInt64 i = bt x i := by
  unfold rf_l
  rw [Int32.toBitVec_toInt64, BitVec.getLsbD_signExtend, BitVec.msb_eq_getLsbD_last, decide_eq_true hi, Bool.true_and]
  have e : x.toBitVec.getLsbD (32 - 1) = false := h 31 (by decide)
  rw [e]
  split
  · rfl
  · rw [b_big (by omega)]
theorem rf_lshl (y : Int64) (k : Nat) (hk : k < 64) (i : Nat) (hi : i < 64) : rf_l (y <<< ((nI k).toInt64 &&& 63)) i = (decide (k ≤ i) && rf_l y (i - k)) := by
  rw [wb_c k hk]
  unfold rf_l
  rw [Int64.toBitVec_shiftLeft, wb_tb, wb_sm k hk, BitVec.shiftLeft_eq', BitVec.toNat_ofNat, Nat.mod_eq_of_lt (show k < 2 ^ 64 by omega), BitVec.getLsbD_shiftLeft]
  rcases Nat.lt_or_ge i k with h | h
  · simp [h, Nat.not_le.mpr h]
  · simp [hi, h, Nat.not_lt.mpr h]
theorem rf_lshr (y : Int64) (k : Nat) (hk : k < 64) (i : Nat) : rf_l ((y.toUInt64 >>> ((nI k).toInt64.toUInt64 &&& Int64.toUInt64 63)).toInt64) i = rf_l y (k + i) := by
  rw [wb_cu k hk]
  show (y.toUInt64 >>> UInt64.ofNat k).toBitVec.getLsbD i = y.toUInt64.toBitVec.getLsbD (k + i)
  rw [UInt64.toBitVec_shiftRight]
  show (y.toUInt64.toBitVec >>> ((UInt64.ofNat k).toBitVec % 64)).getLsbD i = _
  have e : ((UInt64.ofNat k).toBitVec % 64).toNat = k := by
    rw [BitVec.toNat_umod]
    show (BitVec.ofNat 64 k).toNat % 64 = k
    rw [BitVec.toNat_ofNat, Nat.mod_eq_of_lt (show k < 2 ^ 64 by omega), Nat.mod_eq_of_lt hk]
  rw [BitVec.ushiftRight_eq', e, BitVec.getLsbD_ushiftRight]
theorem rf_m8 (s : Nat) : nI s * 8 = nI (s * 8) := pk_mul s 8
theorem rf_put (x : Int32) (h : rf_b8 x) (s a b : Nat) (hs : s < 8) (ha : a < 8) (hb : b < 8) : rf_l (x.toInt64 <<< ((nI s * 8).toInt64 &&& 63)) (a * 8 + b) = (decide (a = s) && bt x b) := by
  rw [rf_m8, rf_lshl _ _ (by omega) _ (by omega)]
  rcases Nat.lt_trichotomy a s with z | z | z
  · rw [decide_eq_false (by omega), decide_eq_false (by omega)]; rfl
  · subst z
    rw [decide_eq_true (by omega), decide_eq_true rfl, rf_i64 x h _ (by omega), show a * 8 + b - a * 8 = b by omega]
  · rw [decide_eq_true (by omega), decide_eq_false (by omega), rf_i64 x h _ (by omega), h _ (by omega)]; rfl
theorem rf_row (x : Int64) (s : Nat) (hs : s < 8) (i : Nat) : bt (((x.toUInt64 >>> ((nI s * 8).toInt64.toUInt64 &&& Int64.toUInt64 63)).toInt64).toInt32 &&& 255) i = (decide (i < 8) && rf_l x (s * 8 + i)) := by
  rw [b_and, b_255, rf_m8, Bool.and_comm]
  rcases Nat.lt_or_ge i 8 with z | z
  · congr 1
    rw [← rf_lshr x (s * 8) (by omega) i]
    unfold bt rf_l
    rw [Int64.toBitVec_toInt32, BitVec.getLsbD_signExtend, decide_eq_true (show i < 32 by omega), Bool.true_and, if_pos (show i < 64 by omega)]
  · rw [decide_eq_false (by omega)]; rfl
theorem rf_tr (x : Int64) (s t a b : Nat) (hs : s < 8) (ht : t < 8) (ha : a < 8) (hb : b < 8) : rf_l ((((x.toUInt64 >>> (((nI s * 8) + nI t).toInt64.toUInt64 &&& Int64.toUInt64 63)).toInt64) &&& 1) <<< (((nI t * 8) + nI s).toInt64 &&& 63)) (a * 8 + b) = (decide (a = t ∧ b = s) && rf_l x (s * 8 + t)) := by
  rw [rf_m8, rf_m8, nI_add, nI_add, rf_lshl _ _ (by omega) _ (by omega)]
  rcases Nat.lt_or_ge (a * 8 + b) (t * 8 + s) with z | z
  · rw [decide_eq_false (by omega), decide_eq_false (by omega)]; rfl
  · rw [decide_eq_true z, Bool.true_and, rf_land, rf_lshr _ _ (by omega), rf_l1 _ (by omega)]
    by_cases e : a = t ∧ b = s
    · obtain ⟨rfl, rfl⟩ := e
      rw [Nat.sub_self, decide_eq_true rfl, decide_eq_true ⟨rfl, rfl⟩, Bool.and_true, Bool.true_and, Nat.add_zero]
    · rw [decide_eq_false e, decide_eq_false (by omega), Bool.and_false, Bool.false_and]
