/-! ===== the locks surely held; races ===== -/
/-- the regions outwards from x -/
def rh_it (ra : Nat → Int32) (x : Int32) : Nat → Int32
  | 0 => x
  | n + 1 => if rh_it ra x n < 0 then rh_it ra x n else ra (rh_it ra x n).toNatClampNeg
theorem rh_itn {ra : Nat → Int32} {x : Int32} {k : Nat} (h : rh_it ra x k < 0) : ∀ d, rh_it ra x (k + d) < 0
  | 0 => h
  | d + 1 => by
    have ih := rh_itn h d
    show (if rh_it ra x (k + d) < 0 then rh_it ra x (k + d) else ra (rh_it ra x (k + d)).toNatClampNeg) < 0
    rw [if_pos ih]; exact ih
theorem rh_itr {rt rv ra : Nat → Int32} {nr : Nat} {x : Int32} (R : rr_R rt rv ra nr) (hn : nr ≤ 12) (hx : x < 0 ∨ vp_in x nr) : ∀ k, rh_it ra x k < 0 ∨ vp_in (rh_it ra x k) nr
  | 0 => hx
  | k + 1 => by
    have ih := rh_itr R hn hx k
    show (if rh_it ra x k < 0 then rh_it ra x k else ra (rh_it ra x k).toNatClampNeg) < 0 ∨ vp_in (if rh_it ra x k < 0 then rh_it ra x k else ra (rh_it ra x k).toNatClampNeg) nr
    by_cases z : rh_it ra x k < 0
    · rw [if_pos z]; exact Or.inl z
    · rw [if_neg z]
      rcases ih with c | c
      · exact absurd c z
      · exact (R _ (rg_lt c (by omega))).2.1
/-- something is so of one of the first d regions outwards from x -/
def rh_A (Q : Nat → Nat → Prop) (ra : Nat → Int32) (x : Int32) (d s : Nat) : Prop := ∃ k, k < d ∧ ¬ rh_it ra x k < 0 ∧ Q (rh_it ra x k).toNatClampNeg s
theorem rh_A0 {Q : Nat → Nat → Prop} {ra : Nat → Int32} {x : Int32} {s : Nat} : ¬ rh_A Q ra x 0 s := fun ⟨k, h, _⟩ => absurd h (Nat.not_lt_zero k)
theorem rh_AS {Q : Nat → Nat → Prop} {ra : Nat → Int32} {x : Int32} {d s : Nat} (z : ¬ rh_it ra x d < 0) : rh_A Q ra x (d + 1) s ↔ rh_A Q ra x d s ∨ Q (rh_it ra x d).toNatClampNeg s := by
  constructor
  · rintro ⟨k, h, a, b⟩
    by_cases e : k = d
    · subst e; exact Or.inr b
    · exact Or.inl ⟨k, by omega, a, b⟩
  · rintro (⟨k, h, a, b⟩ | b)
    · exact ⟨k, by omega, a, b⟩
    · exact ⟨d, by omega, z, b⟩
theorem rh_AN {Q : Nat → Nat → Prop} {ra : Nat → Int32} {x : Int32} {d s : Nat} (z : rh_it ra x d < 0) {e : Nat} (h : d ≤ e) : rh_A Q ra x e s ↔ rh_A Q ra x d s := by
  constructor
  · rintro ⟨k, hk, a, b⟩
    rcases Nat.lt_or_ge k d with c | c
    · exact ⟨k, c, a, b⟩
    · have := rh_itn z (k - d)
      rw [show d + (k - d) = k by omega] at this
      exact absurd this a
  · rintro ⟨k, hk, a, b⟩
    exact ⟨k, by omega, a, b⟩
/-- region i surely locks s -/
def rh_L (vs rv : Nat → Int32) (oc : Int32) (i s : Nat) : Prop := s < 8 ∧ vs (rv i).toNatClampNeg = (1 : Int32) <<< (nI s &&& 31) ∧ bt oc s = true
theorem rh_pow256 : ∀ k, k < 256 → ∀ s, s < 8 → (((nI k &&& (nI k - 1)) = 0 ∧ bt (nI k) s = true) ↔ nI k = (1 : Int32) <<< (nI s &&& 31)) := by decide +kernel
theorem rh_pow {x : Int32} (h : rf_b8 x) {s : Nat} (hs : s < 8) : ((x &&& (x - 1)) = 0 ∧ bt x s = true) ↔ x = (1 : Int32) <<< (nI s &&& 31) := by
  have e : x = x &&& 255 := b_ext (fun i _ => by
    rw [b_and, b_255]
    rcases Nat.lt_or_ge i 8 with z | z
    · rw [decide_eq_true z, Bool.and_true]
    · rw [h i z]; rfl)
  obtain ⟨k, hk, f⟩ := pk_andE x (m := 255) 8 (by decide)
  rw [← e] at f
  subst f
  exact rh_pow256 k hk s hs
section
variable {nl ns nr nc : Nat} {oc kn : Int32} {vs ss cs lt lb lf sb sf so rt rv ra ap av af aw al sg p h sp rch : Nat → Int32}
theorem rx_sl {post : Int32 → Prop} {i : Nat} (hn : nr ≤ 12) (hi : i < nr) (R : rr_R rt rv ra nr) (B : rg_B8 12 vs) (hP : ∀ m, (∀ s, bt m s = true ↔ rh_L vs rv oc i s) → post m) : wpX_surelyLocked post ((nI nl), (nI ns), oc, (nI nr), (nI nc), vs, ss, cs, lt, lb, lf, sb, sf, so, rt, rv, ra, ap, av, af, aw) (nI i) := by
  have ei : (nI i).toNatClampNeg = i := nI_clamp (by omega)
  have r := (R i hi).1
  have b := B _ (rg_lt r (by decide))
  unfold wpX_surelyLocked
  refine ⟨vp_in_nI (by omega) (by decide), ?_⟩
  rw [ei]
  refine ⟨r, nm_e (br_c (fun z => br_f (by decide) (hP _ (fun s => ?_))) (fun z => br_t rfl (hP _ (fun s => ?_))))⟩
  · rw [b_and, Bool.and_eq_true]
    constructor
    · rintro ⟨c, d⟩
      exact ⟨rf_b8lt b c, (rh_pow b (rf_b8lt b c)).mp ⟨z, c⟩, d⟩
    · rintro ⟨c, d, e⟩
      exact ⟨((rh_pow b c).mpr d).2, e⟩
  · rw [b_0]
    constructor
    · intro c; exact absurd c (by decide)
    · rintro ⟨c, d, _⟩
      exact absurd ((rh_pow b c).mpr d).1 z
theorem rx_sh9 {post : Int32 → Prop} {x : Int32} (hx : x < 0 ∨ vp_in x nr) (hn : nr ≤ 12) (R : rr_R rt rv ra nr) (B : rg_B8 12 vs) (hP : ∀ m, (∀ s, bt m s = true ↔ rh_A (rh_L vs rv oc) ra x 12 s) → post m) :
    ∀ d k m, k + d = 12 → (∀ s, bt m s = true ↔ rh_A (rh_L vs rv oc) ra x k s) → wX_surelyHeld_9 post (nI nl) (nI ns) oc (nI nr) (nI nc) vs ss cs lt lb lf sb sf so rt rv ra ap av af aw (d + 1) m (rh_it ra x k) (nI k) := by
  intro d
  induction d with
  | zero =>
    intro k m hk hm
    obtain rfl : k = 12 := by omega
    exact br_t (by decide) (hP m hm)
  | succ d ih =>
    intro k m hk hm
    refine br_f (nI_ge (b := 12) (by omega) (by decide)) (br_c (fun z => hP m (fun s => (hm s).trans (rh_AN z (by omega)).symm)) (fun z => ?_))
    have hr := (rh_itr R hn hx k).resolve_left z
    obtain ⟨i, hi, e⟩ := vp_in_of hr (by omega)
    have ei : (nI i).toNatClampNeg = i := nI_clamp (by omega)
    have e1 : ra (nI i).toNatClampNeg = rh_it ra x (k + 1) := by
      show _ = if rh_it ra x k < 0 then rh_it ra x k else ra (rh_it ra x k).toNatClampNeg
      rw [if_neg z, e]
    rw [e]
    refine rx_sl hn hi R B (fun r hr => nm_e ⟨vp_in_nI (by omega) (by decide), nm_r e1 (nm_r (nI_1 k) (ih (k + 1) _ (by omega) (fun s => ?_)))⟩)
    rw [b_or, Bool.or_eq_true, hm s, hr s, rh_AS z, e, ei]
theorem rh_pl {j : Nat} (hj : j < 4 + nr) (hn : nr ≤ 12) : nI j - 4 < 0 ∨ vp_in (nI j - 4) nr := by
  rcases Nat.lt_or_ge j 4 with z | z
  · exact Or.inl (pk_sneg (b := 4) (by decide) z)
  · refine Or.inr ?_
    have : nI j - 4 = nI (j - 4) := pk_sub (b := 4) z
    rw [this]
    exact vp_in_nI (by omega) (by omega)
theorem rx_sh {post : Int32 → Prop} {j : Nat} (hj : j < 4 + nr) (hn : nr ≤ 12) (R : rr_R rt rv ra nr) (B : rg_B8 12 vs) (hP : ∀ m, (∀ s, bt m s = true ↔ rh_A (rh_L vs rv oc) ra (nI j - 4) 12 s) → post m) : wpX_surelyHeld post ((nI nl), (nI ns), oc, (nI nr), (nI nc), vs, ss, cs, lt, lb, lf, sb, sf, so, rt, rv, ra, ap, av, af, aw) (nI j) :=
  nm_e ⟨13, rx_sh9 (rh_pl hj hn) hn R B hP 12 0 0 rfl (fun s => by rw [b_0]; exact ⟨fun z => absurd z (by decide), fun z => absurd z rh_A0⟩)⟩
theorem rx_held0 {post : Int32 → Prop} {v : Int32} (hn : nr ≤ 12) (hb : rr_bad (4 + nr) v) (k : post (-1)) : wpX_held post ((nI nl), (nI ns), oc, (nI nr), (nI nc), vs, ss, cs, lt, lb, lf, sb, sf, so, rt, rv, ra, ap, av, af, aw) v := by
  unfold wpX_held
  exact rx_isP hn (fun _ => br_t rfl k) (fun j hj e => absurd (e ▸ hb) (rr_nb (by omega) hj))
theorem rx_held {post : Int32 → Prop} {j : Nat} (hj : j < 4 + nr) (hn : nr ≤ 12) (R : rr_R rt rv ra nr) (B : rg_B8 12 vs) (hP : ∀ m, (∀ s, bt m s = true ↔ rh_A (rh_L vs rv oc) ra (nI j - 4) 12 s) → post m) : wpX_held post ((nI nl), (nI ns), oc, (nI nr), (nI nc), vs, ss, cs, lt, lb, lf, sb, sf, so, rt, rv, ra, ap, av, af, aw) (nI j) := by
  unfold wpX_held
  exact rx_isP hn (fun b => absurd b (rr_nb (by omega) hj)) (fun _ _ _ => br_f (by decide) (rx_sh hj hn R B hP))
theorem ry_h37 {post : Int32 → SY → Prop} {J : Int32 → Int32 → Int32 → Prop} {i k : Nat} {m0 : Int32} (hn : nr ≤ 12) (hi : i < nr) (R : rr_R rt rv ra nr) (O : rr_O oc sg) (e : rg_Eq 12 vs p)
    (hJ : ∀ m, (∀ s, bt m s = true ↔ (bt m0 s = true ∨ rh_L vs rv oc i s)) → J m (ra i) (nI (k + 1))) :
    ∀ d s m, s + d = 8 → (∀ t, bt m t = true ↔ (bt m0 t = true ∨ (t < s ∧ rh_L vs rv oc i t))) → wY_held_37 post J (nI i) (nI k) (nI nl) (nI ns) (nI nr) (nI nc) kn al cs lt lb lf sb so sf sg rt rv ra ap av af aw p h sp rch (d + 1) m (nI s) := by
  have ei : (nI i).toNatClampNeg = i := nI_clamp (by omega)
  have hin : vp_in (nI i) 12 := vp_in_nI (by omega) (by decide)
  have r := (R i hi).1
  intro d
  induction d with
  | zero =>
    intro s m hs hm
    obtain rfl : s = 8 := by omega
    refine br_t (by decide) ⟨hin, nm_r (by rw [ei]) (nm_r (nI_1 k) (hJ m (fun t => (hm t).trans ?_)))⟩
    constructor
    · rintro (c | c)
      · exact Or.inl c
      · exact Or.inr c.2
    · rintro (c | c)
      · exact Or.inl c
      · exact Or.inr ⟨c.1, c⟩
  | succ d ih =>
    intro s m hs hm
    have es : (nI s).toNatClampNeg = s := nI_clamp (by omega)
    refine br_f (nI_ge (b := 8) (by omega) (by decide)) ⟨hin, ?_⟩
    rw [ei, es, e _ (rg_lt r (by decide))]
    have no : ¬ rh_L vs rv oc i s → ∀ t, bt m t = true ↔ (bt m0 t = true ∨ (t < s + 1 ∧ rh_L vs rv oc i t)) := fun n t => by
      rw [hm t]
      constructor
      · rintro (c | c)
        · exact Or.inl c
        · exact Or.inr ⟨by omega, c.2⟩
      · rintro (c | c)
        · exact Or.inl c
        · refine Or.inr ⟨?_, c.2⟩
          by_cases q : t = s
          · subst q; exact absurd c.2 n
          · omega
    refine ⟨r, br_c (fun z => ⟨vp_in_nI (by omega) (by decide), br_c (fun y => ?_) (fun y => ?_)⟩) (fun z => ?_)⟩
    · exact nm_r (nI_1 s) (ih (s + 1) m (by omega) (no (fun q => (O s (by omega)).mp q.2.2 y)))
    · refine nm_e (nm_r (nI_1 s) (ih (s + 1) _ (by omega) (fun t => ?_)))
      rw [b_or, Bool.or_eq_true, rf_one s (by omega), decide_eq_true_eq, hm t]
      constructor
      · rintro ((c | c) | c)
        · exact Or.inl c
        · exact Or.inr ⟨by omega, c.2⟩
        · subst c; exact Or.inr ⟨by omega, by omega, z, (O t (by omega)).mpr y⟩
      · rintro (c | c)
        · exact Or.inl (Or.inl c)
        · by_cases q : t = s
          · exact Or.inr q
          · exact Or.inl (Or.inr ⟨by omega, c.2⟩)
    · exact nm_r (nI_1 s) (ih (s + 1) m (by omega) (no (fun q => z q.2.1)))
theorem ry_h23 {post : Int32 → SY → Prop} {x : Int32} (hx : x < 0 ∨ vp_in x nr) (hn : nr ≤ 12) (R : rr_R rt rv ra nr) (O : rr_O oc sg) (e : rg_Eq 12 vs p) (hP : ∀ m, (∀ s, bt m s = true ↔ rh_A (rh_L vs rv oc) ra x 12 s) → post m ((nI nl), (nI ns), (nI nr), (nI nc), kn, al, cs, lt, lb, lf, sb, so, sf, sg, rt, rv, ra, ap, av, af, aw, p, h, sp, rch)) :
    ∀ d k m, k + d = 12 → (∀ s, bt m s = true ↔ rh_A (rh_L vs rv oc) ra x k s) → wY_held_23 post (nI nl) (nI ns) (nI nr) (nI nc) kn al cs lt lb lf sb so sf sg rt rv ra ap av af aw p h sp rch (d + 1) m (rh_it ra x k) (nI k) := by
  intro d
  induction d with
  | zero =>
    intro k m hk hm
    obtain rfl : k = 12 := by omega
    exact br_t (by decide) (hP m hm)
  | succ d ih =>
    intro k m hk hm
    refine br_f (nI_ge (b := 12) (by omega) (by decide)) (br_c (fun z => hP m (fun s => (hm s).trans (rh_AN z (by omega)).symm)) (fun z => ⟨9, ?_⟩))
    have hr := (rh_itr R hn hx k).resolve_left z
    obtain ⟨i, hi, f⟩ := vp_in_of hr (by omega)
    have ei : (nI i).toNatClampNeg = i := nI_clamp (by omega)
    have e1 : ra i = rh_it ra x (k + 1) := by
      show _ = if rh_it ra x k < 0 then rh_it ra x k else ra (rh_it ra x k).toNatClampNeg
      rw [if_neg z, f, ei]
    rw [f]
    refine ry_h37 (vs := vs) (oc := oc) hn hi R O e (fun m' h' => ?_) 8 0 m rfl (fun t => ⟨fun c => Or.inl c, fun c => c.elim id (fun c => absurd c.1 (Nat.not_lt_zero t))⟩)
    rw [e1]
    exact ih (k + 1) m' (by omega) (fun s => by rw [h' s, hm s, rh_AS z, f, ei])
theorem ry_held0 {post : Int32 → SY → Prop} {v : Int32} (hn : nr ≤ 12) (hb : rr_bad (4 + nr) v) (k : post (-1) ((nI nl), (nI ns), (nI nr), (nI nc), kn, al, cs, lt, lb, lf, sb, so, sf, sg, rt, rv, ra, ap, av, af, aw, p, h, sp, rch)) : wpY_held post ((nI nl), (nI ns), (nI nr), (nI nc), kn, al, cs, lt, lb, lf, sb, so, sf, sg, rt, rv, ra, ap, av, af, aw, p, h, sp, rch) v := by
  unfold wpY_held
  exact ry_bP hn (fun _ => br_f (by decide) k) (fun j hj e => absurd (e ▸ hb) (rr_nb (by omega) hj))
theorem ry_held {post : Int32 → SY → Prop} {j : Nat} (hj : j < 4 + nr) (hn : nr ≤ 12) (R : rr_R rt rv ra nr) (O : rr_O oc sg) (hl : nl ≤ 20) (hs : ns ≤ 20) (hL : rg_RL lt lb lf nl) (hS : rg_RL so sb sf ns)
    (K : kn ≠ 0 → rg_Eq 12 vs p ∧ rg_Eq 16 ss h) (L : rg_Le (rg_Cl al cs lt lb lf sb sf so nl ns) vs ss)
    (hP : ∀ kn p h m, kn ≠ 0 → rg_Eq 12 vs p → rg_Eq 16 ss h → (∀ s, bt m s = true ↔ rh_A (rh_L vs rv oc) ra (nI j - 4) 12 s) → post m ((nI nl), (nI ns), (nI nr), (nI nc), kn, al, cs, lt, lb, lf, sb, so, sf, sg, rt, rv, ra, ap, av, af, aw, p, h, sp, rch)) : wpY_held post ((nI nl), (nI ns), (nI nr), (nI nc), kn, al, cs, lt, lb, lf, sb, so, sf, sg, rt, rv, ra, ap, av, af, aw, p, h, sp, rch) (nI j) := by
  unfold wpY_held
  refine ry_bP hn (fun b => absurd b (rr_nb (by omega) hj)) (fun _ _ _ => br_t rfl ?_)
  refine ry_work hl hs hL hS K L (fun kn p h z e f => nm_e ⟨13, ?_⟩)
  exact ry_h23 (rh_pl hj hn) hn R O e (fun m hm => hP kn p h m z e f hm) 12 0 0 rfl (fun s => by rw [b_0]; exact ⟨fun z => absurd z (by decide), fun z => absurd z rh_A0⟩)
end
