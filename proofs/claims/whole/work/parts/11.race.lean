/-! ===== race and races ===== -/
def rh_th (rt : Nat → Int32) (x : Int32) : Int32 := if 4 ≤ x then rt (x - 4).toNatClampNeg else x
def rh_Q (rt ap av af aw vs rv ra : Nat → Int32) (oc : Int32) (i j : Nat) : Prop :=
  rh_th rt (ap i) ≠ rh_th rt (ap j) ∧ af i = af j ∧ (aw i ≠ 0 ∨ aw j ≠ 0) ∧ ¬ (vs (av i).toNatClampNeg &&& vs (av j).toNatClampNeg) = 0 ∧ ∀ s, ¬ (rh_A (rh_L vs rv oc) ra (ap i - 4) 12 s ∧ rh_A (rh_L vs rv oc) ra (ap j - 4) 12 s)
theorem rh_and0 {x y : Int32} {P Q : Nat → Prop} (hx : ∀ s, bt x s = true ↔ P s) (hy : ∀ s, bt y s = true ↔ Q s) : (x &&& y) = 0 ↔ ∀ s, ¬ (P s ∧ Q s) := by
  constructor
  · rintro e s ⟨a, b⟩
    have : bt (x &&& y) s = true := by rw [b_and, (hx s).mpr a, (hy s).mpr b]; rfl
    rw [e, b_0] at this
    exact absurd this (by decide)
  · intro e
    apply b_ext
    intro i _
    rw [b_0]
    apply rf_nf
    intro z
    rw [b_and, Bool.and_eq_true] at z
    exact e i ⟨(hx i).mp z.1, (hy i).mp z.2⟩
theorem rh_p12 {nr j : Nat} (hn : nr ≤ 12) (hj : j < 4 + nr) (z : (4 : Int32) ≤ nI j) : vp_in (nI j - 4) 12 := by
  have z' : 4 ≤ j := (nI_leI (a := 4) (by decide) (by omega)).mp z
  have : nI j - 4 = nI (j - 4) := pk_sub (b := 4) z'
  rw [this]
  exact vp_in_nI (by omega) (by omega)
noncomputable def rh_q (Q : Prop) : Nat := @ite Nat Q (Classical.propDecidable Q) 1 0
theorem rh_q1 {Q : Prop} (h : Q) : rh_q Q = 1 := if_pos h
theorem rh_q0 {Q : Prop} (h : ¬ Q) : rh_q Q = 0 := if_neg h
def rh_s (f : Nat → Nat) : Nat → Nat
  | 0 => 0
  | n + 1 => rh_s f n + f n
theorem rh_sS (f : Nat → Nat) (n : Nat) : rh_s f (n + 1) = rh_s f n + f n := rfl
theorem rh_sadd (f g : Nat → Nat) : ∀ n, rh_s (fun i => f i + g i) n = rh_s f n + rh_s g n
  | 0 => rfl
  | n + 1 => by
    rw [rh_sS, rh_sS, rh_sS, rh_sadd f g n]
    omega
theorem rh_scong {f g : Nat → Nat} : ∀ n, (∀ i, i < n → f i = g i) → rh_s f n = rh_s g n
  | 0 => fun _ => rfl
  | n + 1 => fun h => by rw [rh_sS, rh_sS, rh_scong n (fun i hi => h i (by omega)), h n (by omega)]
theorem rh_s0 {f : Nat → Nat} : ∀ n, (∀ i, i < n → f i = 0) → rh_s f n = 0
  | 0 => fun _ => rfl
  | n + 1 => fun h => by rw [rh_sS, rh_s0 n (fun i hi => h i (by omega)), h n (by omega)]
/-- pairs counted by the later and by the earlier -/
theorem rh_swap (q : Nat → Nat → Nat) : ∀ n, rh_s (fun j => rh_s (fun i => q i j) j) n = rh_s (fun i => rh_s (fun j => if i < j then q i j else 0) n) n
  | 0 => rfl
  | n + 1 => by
    have a : rh_s (fun i => rh_s (fun j => if i < j then q i j else 0) (n + 1)) n = rh_s (fun i => rh_s (fun j => if i < j then q i j else 0) n + (if i < n then q i n else 0)) n := rfl
    have b : rh_s (fun i => if i < n then q i n else 0) n = rh_s (fun i => q i n) n := rh_scong n (fun i hi => if_pos hi)
    have c : rh_s (fun j => if n < j then q n j else 0) (n + 1) = 0 := rh_s0 (n + 1) (fun j hj => if_neg (by omega))
    rw [rh_sS, rh_sS, a, rh_sadd, b, c, rh_swap q n]
    rfl
abbrev rh_JY : Type := Int32 → Int32 → Int32 → Int32 → Int32 → Int32 → Int32 → (Nat → Int32) → (Nat → Int32) → (Nat → Int32) → (Nat → Int32) → (Nat → Int32) → (Nat → Int32) → (Nat → Int32) → (Nat → Int32) → (Nat → Int32) → (Nat → Int32) → (Nat → Int32) → (Nat → Int32) → (Nat → Int32) → (Nat → Int32) → (Nat → Int32) → (Nat → Int32) → (Nat → Int32) → (Nat → Int32) → (Nat → Int32) → (Nat → Int32) → Prop
section
variable {nl ns nr nc : Nat} {oc kn : Int32} {vs ss cs lt lb lf sb sf so rt rv ra ap av af aw al sg p h sp rch : Nat → Int32}
theorem rx_thr {post : Int32 → Prop} {x : Int32} (hn : nr ≤ 12) (hx : vp_in x (4 + nr)) (k : post (rh_th rt x)) : wpX_threadOf post ((nI nl), (nI ns), oc, (nI nr), (nI nc), vs, ss, cs, lt, lb, lf, sb, sf, so, rt, rv, ra, ap, av, af, aw) x := by
  obtain ⟨j, hj, rfl⟩ := vp_in_of hx (by omega)
  unfold rh_th at k
  exact br_c (fun z => ⟨rh_p12 hn hj z, by rw [if_pos z] at k; exact k⟩) (fun z => by rw [if_neg z] at k; exact k)
theorem ry_thr {post : Int32 → Prop} {x : Int32} (hn : nr ≤ 12) (hx : vp_in x (4 + nr)) (k : post (rh_th rt x)) : wpY_threadAt post ((nI nl), (nI ns), (nI nr), (nI nc), kn, al, cs, lt, lb, lf, sb, so, sf, sg, rt, rv, ra, ap, av, af, aw, p, h, sp, rch) x := by
  obtain ⟨j, hj, rfl⟩ := vp_in_of hx (by omega)
  unfold rh_th at k
  exact br_c (fun z => ⟨rh_p12 hn hj z, by rw [if_pos z] at k; exact k⟩) (fun z => by rw [if_neg z] at k; exact k)
theorem rx_dt {post : Int32 → Prop} {i j : Nat} (hn : nr ≤ 12) (hc : nc ≤ 16) (hi : i < nc) (hj : j < nc) (A : rr_A ap av nr nc) (t : rh_th rt (ap i) ≠ rh_th rt (ap j) → post 1) (f : rh_th rt (ap i) = rh_th rt (ap j) → post 0) : wpX_inDifferentThreads post ((nI nl), (nI ns), oc, (nI nr), (nI nc), vs, ss, cs, lt, lb, lf, sb, sf, so, rt, rv, ra, ap, av, af, aw) (nI i) (nI j) := by
  unfold wpX_inDifferentThreads
  refine ⟨vp_in_nI (by omega) (by decide), ?_⟩
  rw [nI_clamp (show i < 2 ^ 31 by omega), nI_clamp (show j < 2 ^ 31 by omega)]
  refine rx_thr hn (A i hi).1 ⟨vp_in_nI (by omega) (by decide), ?_⟩
  exact rx_thr hn (A j hj).1 (br_c f t)
theorem rx_mc {post : Int32 → Prop} {i j : Nat} (hc : nc ≤ 16) (hi : i < nc) (hj : j < nc) (A : rr_A ap av nr nc) (t : af i = af j → (aw i ≠ 0 ∨ aw j ≠ 0) → ¬ (vs (av i).toNatClampNeg &&& vs (av j).toNatClampNeg) = 0 → post 1) (f : ¬ (af i = af j ∧ (aw i ≠ 0 ∨ aw j ≠ 0) ∧ ¬ (vs (av i).toNatClampNeg &&& vs (av j).toNatClampNeg) = 0) → post 0) : wpX_mayClash post ((nI nl), (nI ns), oc, (nI nr), (nI nc), vs, ss, cs, lt, lb, lf, sb, sf, so, rt, rv, ra, ap, av, af, aw) (nI i) (nI j) := by
  have hin : vp_in (nI i) 16 := vp_in_nI (by omega) (by decide)
  have hjn : vp_in (nI j) 16 := vp_in_nI (by omega) (by decide)
  unfold wpX_mayClash
  refine ⟨hin, ?_⟩
  rw [nI_clamp (show i < 2 ^ 31 by omega), nI_clamp (show j < 2 ^ 31 by omega)]
  refine ⟨(A i hi).2, hjn, (A j hj).2, nm_e ⟨hin, hjn, br_c (fun a => ⟨hin, br_c (fun b => ⟨hjn, br_c (fun c => f ?_) (fun c => br_c (fun d => f ?_) (fun d => t a (Or.inr c) d))⟩) (fun b => br_c (fun d => f ?_) (fun d => t a (Or.inl b) d))⟩) (fun a => f ?_)⟩⟩
  · rintro ⟨_, q, _⟩
    exact q.elim (fun q => q b) (fun q => q c)
  · rintro ⟨_, _, q⟩
    exact q d
  · rintro ⟨_, _, q⟩
    exact q d
  · rintro ⟨q, _⟩
    exact a q
theorem rx_ssl {post : Int32 → Prop} {i j : Nat} (hn : nr ≤ 12) (hc : nc ≤ 16) (hi : i < nc) (hj : j < nc) (R : rr_R rt rv ra nr) (B : rg_B8 12 vs) (A : rr_A ap av nr nc) (t : ¬ (∀ s, ¬ (rh_A (rh_L vs rv oc) ra (ap i - 4) 12 s ∧ rh_A (rh_L vs rv oc) ra (ap j - 4) 12 s)) → post 1) (f : (∀ s, ¬ (rh_A (rh_L vs rv oc) ra (ap i - 4) 12 s ∧ rh_A (rh_L vs rv oc) ra (ap j - 4) 12 s)) → post 0) : wpX_shareSureLock post ((nI nl), (nI ns), oc, (nI nr), (nI nc), vs, ss, cs, lt, lb, lf, sb, sf, so, rt, rv, ra, ap, av, af, aw) (nI i) (nI j) := by
  unfold wpX_shareSureLock
  refine ⟨vp_in_nI (by omega) (by decide), ?_⟩
  rw [nI_clamp (show i < 2 ^ 31 by omega), nI_clamp (show j < 2 ^ 31 by omega)]
  obtain ⟨a, ha, ea⟩ := vp_in_of (A i hi).1 (by omega)
  obtain ⟨b, hb, eb⟩ := vp_in_of (A j hj).1 (by omega)
  rw [ea, eb] at t f
  rw [ea]
  refine rx_sh ha hn R B (fun m hm => ⟨vp_in_nI (by omega) (by decide), ?_⟩)
  rw [eb]
  refine rx_sh hb hn R B (fun m' hm' => ?_)
  exact br_c (fun z => f ((rh_and0 hm hm').mp z)) (fun z => t (fun q => z ((rh_and0 hm hm').mpr q)))
theorem rx_race0 {post : Int32 → Prop} {v1 v2 : Int32} (hc : nc ≤ 16) (hb : rr_bad nc v1 ∨ rr_bad nc v2) (k : post 0) : wpX_race post ((nI nl), (nI ns), oc, (nI nr), (nI nc), vs, ss, cs, lt, lb, lf, sb, sf, so, rt, rv, ra, ap, av, af, aw) v1 v2 := by
  unfold wpX_race
  refine rx_isA hc (fun _ => br_t rfl k) (fun j hj e => br_f (by decide) ?_)
  refine rx_isA hc (fun _ => br_t rfl k) (fun s hs f => ?_)
  exact hb.elim (fun b => absurd (e ▸ b) (rr_nb (by omega) hj)) (fun b => absurd (f ▸ b) (rr_nb (by omega) hs))
theorem rx_race {post : Int32 → Prop} {i j : Nat} (hn : nr ≤ 12) (hc : nc ≤ 16) (hi : i < nc) (hj : j < nc) (R : rr_R rt rv ra nr) (B : rg_B8 12 vs) (A : rr_A ap av nr nc) (t : rh_Q rt ap av af aw vs rv ra oc i j → post 1) (f : ¬ rh_Q rt ap av af aw vs rv ra oc i j → post 0) : wpX_race post ((nI nl), (nI ns), oc, (nI nr), (nI nc), vs, ss, cs, lt, lb, lf, sb, sf, so, rt, rv, ra, ap, av, af, aw) (nI i) (nI j) := by
  unfold wpX_race
  refine rx_isA hc (fun b => absurd b (rr_nb (by omega) hi)) (fun _ _ _ => br_f (by decide) ?_)
  refine rx_isA hc (fun b => absurd b (rr_nb (by omega) hj)) (fun _ _ _ => br_f (by decide) ?_)
  refine rx_dt hn hc hi hj A (fun a => br_f (by decide) ?_) (fun a => br_t rfl (f (fun q => q.1 a)))
  refine rx_mc hc hi hj A (fun b c d => br_f (by decide) ?_) (fun b => br_t rfl (f (fun q => b ⟨q.2.1, q.2.2.1, q.2.2.2.1⟩)))
  exact rx_ssl hn hc hi hj R B A (fun e => br_f (by decide) (f (fun q => e q.2.2.2.2))) (fun e => br_t rfl (t ⟨a, b, c, d, e⟩))
theorem ry_race0 {post : Int32 → SY → Prop} {v1 v2 : Int32} (hb : rr_bad nc v1 ∨ rr_bad nc v2) (k : post 0 ((nI nl), (nI ns), (nI nr), (nI nc), kn, al, cs, lt, lb, lf, sb, so, sf, sg, rt, rv, ra, ap, av, af, aw, p, h, sp, rch)) : wpY_race post ((nI nl), (nI ns), (nI nr), (nI nc), kn, al, cs, lt, lb, lf, sb, so, sf, sg, rt, rv, ra, ap, av, af, aw, p, h, sp, rch) v1 v2 := by
  unfold wpY_race
  refine br_c (fun _ => k) (fun a => br_c (fun _ => k) (fun b => br_c (fun _ => k) (fun c => br_c (fun d => ?_) (fun _ => k))))
  rcases hb with (e | e) | (e | e)
  · exact absurd e a
  · exact absurd e b
  · exact absurd e c
  · exact absurd d (Int32.not_lt.mpr e)
theorem ry_race84 {post : Int32 → SY → Prop} {i j : Nat} (hn : nr ≤ 12) (hc : nc ≤ 16) (hi : i < nc) (hj : j < nc) (R : rr_R rt rv ra nr) (O : rr_O oc sg) (A : rr_A ap av nr nc) (hl : nl ≤ 20) (hs : ns ≤ 20) (hL : rg_RL lt lb lf nl) (hS : rg_RL so sb sf ns)
    (K : kn ≠ 0 → rg_Eq 12 vs p ∧ rg_Eq 16 ss h) (L : rg_Le (rg_Cl al cs lt lb lf sb sf so nl ns) vs ss)
    (t : ∀ kn p h, (kn ≠ 0 → rg_Eq 12 vs p ∧ rg_Eq 16 ss h) → ¬ (vs (av i).toNatClampNeg &&& vs (av j).toNatClampNeg) = 0 → (∀ s, ¬ (rh_A (rh_L vs rv oc) ra (ap i - 4) 12 s ∧ rh_A (rh_L vs rv oc) ra (ap j - 4) 12 s)) → post 1 ((nI nl), (nI ns), (nI nr), (nI nc), kn, al, cs, lt, lb, lf, sb, so, sf, sg, rt, rv, ra, ap, av, af, aw, p, h, sp, rch))
    (f : ∀ kn p h, (kn ≠ 0 → rg_Eq 12 vs p ∧ rg_Eq 16 ss h) → ¬ (¬ (vs (av i).toNatClampNeg &&& vs (av j).toNatClampNeg) = 0 ∧ (∀ s, ¬ (rh_A (rh_L vs rv oc) ra (ap i - 4) 12 s ∧ rh_A (rh_L vs rv oc) ra (ap j - 4) 12 s))) → post 0 ((nI nl), (nI ns), (nI nr), (nI nc), kn, al, cs, lt, lb, lf, sb, so, sf, sg, rt, rv, ra, ap, av, af, aw, p, h, sp, rch)) : wY_race_84 post (nI i) (nI j) (nI nl) (nI ns) (nI nr) (nI nc) kn al cs lt lb lf sb so sf sg rt rv ra ap av af aw p h sp rch := by
  have hin : vp_in (nI i) 16 := vp_in_nI (by omega) (by decide)
  have hjn : vp_in (nI j) 16 := vp_in_nI (by omega) (by decide)
  unfold wY_race_84
  rw [nI_clamp (show i < 2 ^ 31 by omega), nI_clamp (show j < 2 ^ 31 by omega)]
  refine ry_work hl hs hL hS K L (fun kn p h z e g => ⟨hin, (A i hi).2, hjn, (A j hj).2, ?_⟩)
  obtain ⟨a, ha, ea⟩ := vp_in_of (A i hi).1 (by omega)
  obtain ⟨b, hb, eb⟩ := vp_in_of (A j hj).1 (by omega)
  rw [e _ (rg_lt (A i hi).2 (by decide)), e _ (rg_lt (A j hj).2 (by decide)), ea]
  rw [ea, eb] at t f
  refine br_c (fun y => f kn p h (fun _ => ⟨e, g⟩) (fun q => q.1 y)) (fun y => ⟨hin, ?_⟩)
  refine ry_held (vs := vs) (ss := ss) (al := al) ha hn R O hl hs hL hS (fun _ => ⟨e, g⟩) L (fun kn p h m z e g hm => ⟨hjn, ?_⟩)
  rw [eb]
  refine ry_held (vs := vs) (ss := ss) (al := al) hb hn R O hl hs hL hS (fun _ => ⟨e, g⟩) L (fun kn p h m' z e g hm' => ?_)
  exact br_c (fun x => t kn p h (fun _ => ⟨e, g⟩) y ((rh_and0 hm hm').mp x)) (fun x => f kn p h (fun _ => ⟨e, g⟩) (fun q => x ((rh_and0 hm hm').mpr q.2)))
theorem ry_race {post : Int32 → SY → Prop} {i j : Nat} (hn : nr ≤ 12) (hc : nc ≤ 16) (hi : i < nc) (hj : j < nc) (R : rr_R rt rv ra nr) (O : rr_O oc sg) (A : rr_A ap av nr nc) (hl : nl ≤ 20) (hs : ns ≤ 20) (hL : rg_RL lt lb lf nl) (hS : rg_RL so sb sf ns)
    (K : kn ≠ 0 → rg_Eq 12 vs p ∧ rg_Eq 16 ss h) (L : rg_Le (rg_Cl al cs lt lb lf sb sf so nl ns) vs ss)
    (t : ∀ kn p h, (kn ≠ 0 → rg_Eq 12 vs p ∧ rg_Eq 16 ss h) → rh_Q rt ap av af aw vs rv ra oc i j → post 1 ((nI nl), (nI ns), (nI nr), (nI nc), kn, al, cs, lt, lb, lf, sb, so, sf, sg, rt, rv, ra, ap, av, af, aw, p, h, sp, rch))
    (f : ∀ kn p h, (kn ≠ 0 → rg_Eq 12 vs p ∧ rg_Eq 16 ss h) → ¬ rh_Q rt ap av af aw vs rv ra oc i j → post 0 ((nI nl), (nI ns), (nI nr), (nI nc), kn, al, cs, lt, lb, lf, sb, so, sf, sg, rt, rv, ra, ap, av, af, aw, p, h, sp, rch)) : wpY_race post ((nI nl), (nI ns), (nI nr), (nI nc), kn, al, cs, lt, lb, lf, sb, so, sf, sg, rt, rv, ra, ap, av, af, aw, p, h, sp, rch) (nI i) (nI j) := by
  have hin : vp_in (nI i) 16 := vp_in_nI (by omega) (by decide)
  have hjn : vp_in (nI j) 16 := vp_in_nI (by omega) (by decide)
  unfold wpY_race
  rw [nI_clamp (show i < 2 ^ 31 by omega), nI_clamp (show j < 2 ^ 31 by omega)]
  refine br_f (nI_pos (by omega)) (br_f (nI_ge (by omega) (by omega)) (br_f (nI_pos (by omega)) (br_t (nI_lt (by omega) (by omega)) ⟨hin, ?_⟩)))
  refine ry_thr hn (A i hi).1 ⟨hjn, ?_⟩
  refine ry_thr hn (A j hj).1 (br_c (fun a => f kn p h K (fun q => q.1 a)) (fun a => ⟨hin, hjn, br_c (fun b => ⟨hin, ?_⟩) (fun b => f kn p h K (fun q => b q.2.1))⟩))
  refine br_c (fun c => ⟨hjn, br_c (fun d => f kn p h K (fun q => q.2.2.1.elim (fun q => q c) (fun q => q d))) (fun d => ?_)⟩) (fun c => ?_)
  · exact ry_race84 (vs := vs) (ss := ss) (oc := oc) hn hc hi hj R O A hl hs hL hS K L (fun kn p h K x y => t kn p h K ⟨a, b, Or.inr d, x, y⟩) (fun kn p h K x => f kn p h K (fun q => x q.2.2.2))
  · exact ry_race84 (vs := vs) (ss := ss) (oc := oc) hn hc hi hj R O A hl hs hL hS K L (fun kn p h K x y => t kn p h K ⟨a, b, Or.inl c, x, y⟩) (fun kn p h K x => f kn p h K (fun q => x q.2.2.2))
theorem rx_r14 {post : Int32 → Prop} {J : Int32 → Int32 → Prop} {j a : Nat} (hn : nr ≤ 12) (hc : nc ≤ 16) (hj : j < nc) (R : rr_R rt rv ra nr) (B : rg_B8 12 vs) (A : rr_A ap av nr nc)
    (hJ : J (nI (a + rh_s (fun i => rh_q (rh_Q rt ap av af aw vs rv ra oc i j)) j)) (nI (j + 1))) :
    ∀ d i, i + d = j → wX_races_14 post J (nI j) (nI nl) (nI ns) oc (nI nr) (nI nc) vs ss cs lt lb lf sb sf so rt rv ra ap av af aw (d + 1) (nI (a + rh_s (fun i => rh_q (rh_Q rt ap av af aw vs rv ra oc i j)) i)) (nI i) := by
  intro d
  induction d with
  | zero =>
    intro i hi
    obtain rfl : i = j := by omega
    exact br_t (nI_le (Nat.le_refl _) (by omega)) (nm_r (nI_1 i) hJ)
  | succ d ih =>
    intro i hi
    have k := ih (i + 1) (by omega)
    rw [rh_sS] at k
    refine br_f (nI_ge (by omega) (by omega)) ?_
    refine rx_race hn hc (by omega) hj R B A (fun q => br_f (by decide) ?_) (fun q => br_t rfl ?_)
    · rw [rh_q1 q] at k
      exact nm_r (nI_1 _) (nm_r (nI_1 i) k)
    · rw [rh_q0 q] at k
      exact nm_r (nI_1 i) k
theorem rx_r4 {post : Int32 → Prop} (hn : nr ≤ 12) (hc : nc ≤ 16) (R : rr_R rt rv ra nr) (B : rg_B8 12 vs) (A : rr_A ap av nr nc)
    (hP : post (nI (rh_s (fun j => rh_s (fun i => rh_q (rh_Q rt ap av af aw vs rv ra oc i j)) j) nc))) :
    ∀ d j, j + d = nc → wX_races_4 post (nI nl) (nI ns) oc (nI nr) (nI nc) vs ss cs lt lb lf sb sf so rt rv ra ap av af aw (d + 1) (nI (rh_s (fun j => rh_s (fun i => rh_q (rh_Q rt ap av af aw vs rv ra oc i j)) j) j)) (nI j) := by
  intro d
  induction d with
  | zero =>
    intro j hj
    obtain rfl : j = nc := by omega
    exact br_t (nI_le (Nat.le_refl _) (by omega)) hP
  | succ d ih =>
    intro j hj
    exact br_f (nI_ge (by omega) (by omega)) ⟨j + 1, rx_r14 hn hc (by omega) R B A (ih (j + 1) (by omega)) j 0 (by omega)⟩
theorem rx_races {post : Int32 → Prop} (hn : nr ≤ 12) (hc : nc ≤ 16) (R : rr_R rt rv ra nr) (B : rg_B8 12 vs) (A : rr_A ap av nr nc)
    (hP : post (nI (rh_s (fun j => rh_s (fun i => rh_q (rh_Q rt ap av af aw vs rv ra oc i j)) j) nc))) : wpX_races post ((nI nl), (nI ns), oc, (nI nr), (nI nc), vs, ss, cs, lt, lb, lf, sb, sf, so, rt, rv, ra, ap, av, af, aw) := by
  by_cases z : nc = 0
  · subst z
    exact ⟨1, br_t (show nI 0 ≤ 1 by decide) hP⟩
  · exact ⟨nc - 1 + 1, rx_r4 hn hc R B A hP (nc - 1) 1 (by omega)⟩
theorem ry_r16 {post : Int32 → SY → Prop} {J : rh_JY} {i a : Nat} (hn : nr ≤ 12) (hc : nc ≤ 16) (hi : i < nc) (R : rr_R rt rv ra nr) (O : rr_O oc sg) (A : rr_A ap av nr nc) (hl : nl ≤ 20) (hs : ns ≤ 20) (hL : rg_RL lt lb lf nl) (hS : rg_RL so sb sf ns) (L : rg_Le (rg_Cl al cs lt lb lf sb sf so nl ns) vs ss)
    (hJ : ∀ kn p h, (kn ≠ 0 → rg_Eq 12 vs p ∧ rg_Eq 16 ss h) → J (nI (a + rh_s (fun j => if i < j then rh_q (rh_Q rt ap av af aw vs rv ra oc i j) else 0) nc)) (nI (i + 1)) (nI nl) (nI ns) (nI nr) (nI nc) kn al cs lt lb lf sb so sf sg rt rv ra ap av af aw p h sp rch) :
    ∀ d j kn p h, j + d = nc → i < j → (kn ≠ 0 → rg_Eq 12 vs p ∧ rg_Eq 16 ss h) → wY_races_16 post J (nI i) (d + 1) (nI (a + rh_s (fun j => if i < j then rh_q (rh_Q rt ap av af aw vs rv ra oc i j) else 0) j)) (nI j) (nI nl) (nI ns) (nI nr) (nI nc) kn al cs lt lb lf sb so sf sg rt rv ra ap av af aw p h sp rch := by
  intro d
  induction d with
  | zero =>
    intro j kn p h hj hij K
    obtain rfl : j = nc := by omega
    exact br_t (nI_le (Nat.le_refl _) (by omega)) (nm_r (nI_1 i) (hJ kn p h K))
  | succ d ih =>
    intro j kn p h hj hij K
    refine br_f (nI_ge (by omega) (by omega)) ?_
    refine ry_race (vs := vs) (ss := ss) (oc := oc) hn hc hi (by omega) R O A hl hs hL hS K L (fun kn p h K q => br_f (by decide) ?_) (fun kn p h K q => br_t rfl ?_)
    · have k := ih (j + 1) kn p h (by omega) (by omega) K
      rw [rh_sS, if_pos hij, rh_q1 q] at k
      exact nm_r (nI_1 _) (nm_r (nI_1 j) k)
    · have k := ih (j + 1) kn p h (by omega) (by omega) K
      rw [rh_sS, if_pos hij, rh_q0 q] at k
      exact nm_r (nI_1 j) k
theorem ry_r4 {post : Int32 → SY → Prop} (hn : nr ≤ 12) (hc : nc ≤ 16) (R : rr_R rt rv ra nr) (O : rr_O oc sg) (A : rr_A ap av nr nc) (hl : nl ≤ 20) (hs : ns ≤ 20) (hL : rg_RL lt lb lf nl) (hS : rg_RL so sb sf ns) (L : rg_Le (rg_Cl al cs lt lb lf sb sf so nl ns) vs ss)
    (hP : ∀ kn p h, (kn ≠ 0 → rg_Eq 12 vs p ∧ rg_Eq 16 ss h) → post (nI (rh_s (fun i => rh_s (fun j => if i < j then rh_q (rh_Q rt ap av af aw vs rv ra oc i j) else 0) nc) nc)) ((nI nl), (nI ns), (nI nr), (nI nc), kn, al, cs, lt, lb, lf, sb, so, sf, sg, rt, rv, ra, ap, av, af, aw, p, h, sp, rch)) :
    ∀ d i kn p h, i + d = nc → (kn ≠ 0 → rg_Eq 12 vs p ∧ rg_Eq 16 ss h) → wY_races_4 post (d + 1) (nI (rh_s (fun i => rh_s (fun j => if i < j then rh_q (rh_Q rt ap av af aw vs rv ra oc i j) else 0) nc) i)) (nI i) (nI nl) (nI ns) (nI nr) (nI nc) kn al cs lt lb lf sb so sf sg rt rv ra ap av af aw p h sp rch := by
  intro d
  induction d with
  | zero =>
    intro i kn p h hi K
    obtain rfl : i = nc := by omega
    exact br_t (nI_le (Nat.le_refl _) (by omega)) (hP kn p h K)
  | succ d ih =>
    intro i kn p h hi K
    refine br_f (nI_ge (by omega) (by omega)) (nm_r (nI_1 i) ⟨d + 1, ?_⟩)
    have k := ry_r16 (post := post) (J := wY_races_4 post (d + 1)) (a := rh_s (fun i => rh_s (fun j => if i < j then rh_q (rh_Q rt ap av af aw vs rv ra oc i j) else 0) nc) i) hn hc (show i < nc by omega) R O A hl hs hL hS L (fun kn p h K => ih (i + 1) kn p h (by omega) K) d (i + 1) kn p h (by omega) (by omega) K
    rw [rh_s0 (i + 1) (fun j hj => if_neg (by omega))] at k
    exact k
theorem ry_races {post : Int32 → SY → Prop} (hn : nr ≤ 12) (hc : nc ≤ 16) (R : rr_R rt rv ra nr) (O : rr_O oc sg) (A : rr_A ap av nr nc) (hl : nl ≤ 20) (hs : ns ≤ 20) (hL : rg_RL lt lb lf nl) (hS : rg_RL so sb sf ns) (L : rg_Le (rg_Cl al cs lt lb lf sb sf so nl ns) vs ss) (K : kn ≠ 0 → rg_Eq 12 vs p ∧ rg_Eq 16 ss h)
    (hP : ∀ kn p h, (kn ≠ 0 → rg_Eq 12 vs p ∧ rg_Eq 16 ss h) → post (nI (rh_s (fun i => rh_s (fun j => if i < j then rh_q (rh_Q rt ap av af aw vs rv ra oc i j) else 0) nc) nc)) ((nI nl), (nI ns), (nI nr), (nI nc), kn, al, cs, lt, lb, lf, sb, so, sf, sg, rt, rv, ra, ap, av, af, aw, p, h, sp, rch)) : wpY_races post ((nI nl), (nI ns), (nI nr), (nI nc), kn, al, cs, lt, lb, lf, sb, so, sf, sg, rt, rv, ra, ap, av, af, aw, p, h, sp, rch) :=
  ⟨nc + 1, ry_r4 hn hc R O A hl hs hL hS L hP nc 0 kn p h (by omega) K⟩
end
