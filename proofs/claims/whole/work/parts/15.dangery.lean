/-! ===== the reference's danger ===== -/
def rd_sp (sp : Nat → Int32) (P : Nat → Nat → Nat → Prop) : Prop := ∀ q a t, q < 4 → a < 8 → (bt (sp (q * 8 + a)) t = true ↔ P q a t)
theorem rd_spc {sp : Nat → Int32} {P Q : Nat → Nat → Nat → Prop} (h : rd_sp sp P) (e : ∀ q a t, q < 4 → a < 8 → (P q a t ↔ Q q a t)) : rd_sp sp Q := fun q a t hq ha => (h q a t hq ha).trans (e q a t hq ha)
theorem rd_tg2 {y : Int32} {s t : Nat} (hs : s < 8) : bt (y &&& (((1 : Int32) <<< (nI s &&& 31)) ^^^ (-1))) t = true ↔ (bt y t = true ∧ ¬ t = s) := by
  rcases Nat.lt_or_ge t 32 with z | z
  · rw [b_and, b_xor, b_m1 t z, rf_one s (by omega), Bool.and_eq_true]
    by_cases e : t = s
    · simp [e]
    · simp [e]
  · rw [b_big z, b_big z]
    exact ⟨fun q => absurd q (by decide), fun q => absurd q.1 (by decide)⟩
/-- one store into steps -/
theorem rd_spu {sp : Nat → Int32} {P Q : Nat → Nat → Nat → Prop} {th s : Nat} {x : Int32} (hs : s < 8) (h : rd_sp sp P) (n : ∀ q a t, q < 4 → a < 8 → ¬ (q = th ∧ a = s) → (P q a t ↔ Q q a t)) (y : ∀ t, (P th s t ∨ bt x t = true) ↔ Q th s t) : rd_sp (upd sp (th * 8 + s) (sp (th * 8 + s) ||| x)) Q := by
  intro q a t hq ha
  by_cases e : q * 8 + a = th * 8 + s
  · have e1 : q = th := by omega
    have e2 : a = s := by omega
    subst e1 e2
    rw [pk_us, b_or, Bool.or_eq_true, h q a t hq ha]
    exact y t
  · rw [pk_un e, h q a t hq ha]
    exact n q a t hq ha (fun z => e (by rw [z.1, z.2]))
abbrev rd_J6 : Type := Int32 → Int32 → Int32 → Int32 → Int32 → Int32 → (Nat → Int32) → (Nat → Int32) → (Nat → Int32) → (Nat → Int32) → (Nat → Int32) → (Nat → Int32) → (Nat → Int32) → (Nat → Int32) → (Nat → Int32) → (Nat → Int32) → (Nat → Int32) → (Nat → Int32) → (Nat → Int32) → (Nat → Int32) → (Nat → Int32) → (Nat → Int32) → (Nat → Int32) → (Nat → Int32) → (Nat → Int32) → (Nat → Int32) → Prop
section
variable {nl ns nr nc : Nat} {oc kn : Int32} {vs ss cs lt lb lf sb sf so rt rv ra ap av af aw al sg p h sp rch : Nat → Int32}
theorem ry_st3 {post : SY → Prop} {th : Nat} {w v : Int32} {P : Nat → Nat → Nat → Prop} (hth : th < 4) (hw : vp_in w 12) (hv : vp_in v 12) (e : rg_Eq 12 vs p) (O : rr_O oc sg)
    (hP : ∀ sp, rd_sp sp (fun q a t => P q a t ∨ (q = th ∧ bt (vs w.toNatClampNeg) a = true ∧ bt (vs v.toNatClampNeg) t = true ∧ ¬ (a = t ∧ bt oc a = true))) → post ((nI nl), (nI ns), (nI nr), (nI nc), kn, al, cs, lt, lb, lf, sb, so, sf, sg, rt, rv, ra, ap, av, af, aw, p, h, sp, rch)) :
    ∀ d s sp, s + d = 8 → rd_sp sp (fun q a t => P q a t ∨ (q = th ∧ a < s ∧ bt (vs w.toNatClampNeg) a = true ∧ bt (vs v.toNatClampNeg) t = true ∧ ¬ (a = t ∧ bt oc a = true))) → wY_step_3 post (nI th) w v (nI nl) (nI ns) (nI nr) (nI nc) kn (d + 1) (nI s) al cs lt lb lf sb so sf sg rt rv ra ap av af aw p h sp rch := by
  intro d
  induction d with
  | zero =>
    intro s sp hs hz
    obtain rfl : s = 8 := by omega
    refine br_t (by decide) (hP sp (rd_spc hz (fun q a t _ ha => ?_)))
    exact ⟨fun x => x.elim Or.inl (fun x => Or.inr ⟨x.1, x.2.2⟩), fun x => x.elim Or.inl (fun x => Or.inr ⟨x.1, ha, x.2⟩)⟩
  | succ d ih =>
    intro s sp hs hz
    have hs' : s < 8 := by omega
    have es : (nI s).toNatClampNeg = s := nI_clamp (by omega)
    have ei : nI th * 8 + nI s = nI (th * 8 + s) := by rw [rf_m8, nI_add]
    have ec : (nI (th * 8 + s)).toNatClampNeg = th * 8 + s := nI_clamp (by omega)
    have hin : vp_in (nI (th * 8 + s)) 32 := vp_in_nI (by omega) (by decide)
    refine br_f (nI_ge (b := 8) (by omega) (by decide)) ⟨hw, ?_⟩
    rw [e _ (rg_lt hw (by decide)), es]
    refine rf_brY _ s (by omega) (fun hb => ⟨vp_in_nI hs' (by decide), br_c (fun z => ⟨hv, ?_⟩) (fun z => ⟨hv, ?_⟩)⟩) (fun hb => nm_r (nI_1 s) (ih (s + 1) sp (by omega) (rd_spc hz (fun q a t _ _ => ?_))))
    · unfold wY_step_57
      rw [ei, ec, e _ (rg_lt hv (by decide))]
      refine ⟨hin, hin, nm_e (nm_r (nI_1 s) (ih (s + 1) _ (by omega) (rd_spu hs' hz (fun q a t _ _ n => ?_) (fun t => ?_))))⟩
      · constructor
        · exact fun x => x.elim Or.inl (fun x => Or.inr ⟨x.1, by omega, x.2.2⟩)
        · exact fun x => x.elim Or.inl (fun x => Or.inr ⟨x.1, by have := x.1; have := x.2.1; omega, x.2.2⟩)
      · constructor
        · rintro ((x | x) | x)
          · exact Or.inl x
          · exact absurd x.2.1 (by omega)
          · exact Or.inr ⟨rfl, by omega, hb, x, fun y => (O s hs').mp y.2 z⟩
        · rintro (x | x)
          · exact Or.inl (Or.inl x)
          · exact Or.inr x.2.2.2.1
    · unfold wY_step_57
      rw [ei, ec, e _ (rg_lt hv (by decide))]
      refine ⟨hin, hin, nm_e (nm_r (nI_1 s) (ih (s + 1) _ (by omega) (rd_spu hs' hz (fun q a t _ _ n => ?_) (fun t => ?_))))⟩
      · constructor
        · exact fun x => x.elim Or.inl (fun x => Or.inr ⟨x.1, by omega, x.2.2⟩)
        · exact fun x => x.elim Or.inl (fun x => Or.inr ⟨x.1, by have := x.1; have := x.2.1; omega, x.2.2⟩)
      · rw [rd_tg2 hs']
        constructor
        · rintro ((x | x) | x)
          · exact Or.inl x
          · exact absurd x.2.1 (by omega)
          · exact Or.inr ⟨rfl, by omega, hb, x.1, fun y => x.2 y.1.symm⟩
        · rintro (x | x)
          · exact Or.inl (Or.inl x)
          · exact Or.inr ⟨x.2.2.2.1, fun y => x.2.2.2.2 ⟨y.symm, (O s hs').mpr z⟩⟩
    · constructor
      · exact fun x => x.elim Or.inl (fun x => Or.inr ⟨x.1, by omega, x.2.2⟩)
      · rintro (x | x)
        · exact Or.inl x
        · refine Or.inr ⟨x.1, ?_, x.2.2⟩
          by_cases y : a = s
          · have := x.2.2.1
            rw [y, hb] at this
            exact absurd this (by decide)
          · omega
theorem ry_st {post : SY → Prop} {th : Nat} {w v : Int32} {P : Nat → Nat → Nat → Prop} (hth : th < 4) (hw : vp_in w 12) (hv : vp_in v 12) (e : rg_Eq 12 vs p) (O : rr_O oc sg) (hz : rd_sp sp P)
    (hP : ∀ sp, rd_sp sp (fun q a t => P q a t ∨ (q = th ∧ bt (vs w.toNatClampNeg) a = true ∧ bt (vs v.toNatClampNeg) t = true ∧ ¬ (a = t ∧ bt oc a = true))) → post ((nI nl), (nI ns), (nI nr), (nI nc), kn, al, cs, lt, lb, lf, sb, so, sf, sg, rt, rv, ra, ap, av, af, aw, p, h, sp, rch)) : wpY_step post ((nI nl), (nI ns), (nI nr), (nI nc), kn, al, cs, lt, lb, lf, sb, so, sf, sg, rt, rv, ra, ap, av, af, aw, p, h, sp, rch) (nI th) w v :=
  ⟨9, ry_st3 hth hw hv e O hP 8 0 sp rfl (rd_spc hz (fun q a t _ _ => ⟨Or.inl, fun x => x.elim id (fun x => absurd x.2.1 (Nat.not_lt_zero a))⟩))⟩
theorem ry_as40 {post : SY → Prop} {J : rd_J6} {r : Nat} {P : Nat → Nat → Nat → Prop} (hn : nr ≤ 12) (hr : r < nr) (R : rr_R rt rv ra nr) (e : rg_Eq 12 vs p) (O : rr_O oc sg)
    (hJ : ∀ sp, rd_sp sp (fun q a t => P q a t ∨ (rt r = nI q ∧ rh_A (rd_E vs rv oc r t) ra (ra r) 12 a)) → J (nI (r + 1)) (nI nl) (nI ns) (nI nr) (nI nc) kn al cs lt lb lf sb so sf sg rt rv ra ap av af aw p h sp rch) :
    ∀ d k sp, k + d = 12 → rd_sp sp (fun q a t => P q a t ∨ (rt r = nI q ∧ rh_A (rd_E vs rv oc r t) ra (ra r) k a)) → wY_allSteps_40 post J (nI r) (d + 1) (rh_it ra (ra r) k) (nI k) (nI nl) (nI ns) (nI nr) (nI nc) kn al cs lt lb lf sb so sf sg rt rv ra ap av af aw p h sp rch := by
  have er : (nI r).toNatClampNeg = r := nI_clamp (by omega)
  have hrin : vp_in (nI r) 12 := vp_in_nI (by omega) (by decide)
  obtain ⟨th, hth, eth⟩ := vp_in_of (R r hr).2.2 (by decide)
  intro d
  induction d with
  | zero =>
    intro k sp hk hz
    obtain rfl : k = 12 := by omega
    exact br_t (by decide) (nm_r (nI_1 r) (hJ sp hz))
  | succ d ih =>
    intro k sp hk hz
    refine br_f (nI_ge (b := 12) (by omega) (by decide)) (br_c (fun y => nm_r (nI_1 r) (hJ sp (rd_spc hz (fun q a t _ _ => ?_)))) (fun y => ?_))
    · rw [rh_AN (e := 12) y (by omega)]
    have hr' := (rh_itr R hn (R r hr).2.1 k).resolve_left y
    obtain ⟨i, hi, f⟩ := vp_in_of hr' (by omega)
    have ei : (nI i).toNatClampNeg = i := nI_clamp (by omega)
    have hin : vp_in (nI i) 12 := vp_in_nI (by omega) (by decide)
    have e1 : ra i = rh_it ra (ra r) (k + 1) := by
      show _ = if rh_it ra (ra r) k < 0 then rh_it ra (ra r) k else ra (rh_it ra (ra r) k).toNatClampNeg
      rw [if_neg y, f, ei]
    rw [f, er, ei, eth]
    refine ⟨hrin, hin, hrin, ry_st (vs := vs) (oc := oc) hth (R i hi).1 (R r hr).1 e O hz (fun sp hz => ⟨hin, nm_r e1 (nm_r (nI_1 k) (ih (k + 1) sp (by omega) (rd_spc hz (fun q a t hq _ => ?_))))⟩)⟩
    rw [rh_AS y, f, ei, eth, nI_eq (by omega) (by omega)]
    constructor
    · rintro ((x | x) | x)
      · exact Or.inl x
      · exact Or.inr ⟨x.1, Or.inl x.2⟩
      · exact Or.inr ⟨x.1.symm, Or.inr x.2⟩
    · rintro (x | ⟨x, z | z⟩)
      · exact Or.inl (Or.inl x)
      · exact Or.inl (Or.inr ⟨x, z⟩)
      · exact Or.inr ⟨x.symm, z⟩
theorem ry_as23 {post : SY → Prop} (hn : nr ≤ 12) (R : rr_R rt rv ra nr) (e : rg_Eq 12 vs p) (O : rr_O oc sg)
    (hP : ∀ sp, rd_sp sp (rd_T vs rv ra rt oc nr) → post ((nI nl), (nI ns), (nI nr), (nI nc), kn, al, cs, lt, lb, lf, sb, so, sf, sg, rt, rv, ra, ap, av, af, aw, p, h, sp, rch)) :
    ∀ d r sp, r + d = nr → rd_sp sp (rd_T vs rv ra rt oc r) → wY_allSteps_23 post (d + 1) (nI r) (nI nl) (nI ns) (nI nr) (nI nc) kn al cs lt lb lf sb so sf sg rt rv ra ap av af aw p h sp rch := by
  intro d
  induction d with
  | zero =>
    intro r sp hr hz
    obtain rfl : r = nr := by omega
    exact br_t (nI_le (Nat.le_refl _) (by omega)) (hP sp hz)
  | succ d ih =>
    intro r sp hr hz
    have er : (nI r).toNatClampNeg = r := nI_clamp (by omega)
    refine br_f (nI_ge (by omega) (by omega)) ⟨vp_in_nI (by omega) (by decide), nm_r (by rw [er]) ⟨13, ?_⟩⟩
    refine ry_as40 (vs := vs) (oc := oc) (P := rd_T vs rv ra rt oc r) hn (by omega) R e O (fun sp hz => ih (r + 1) sp (by omega) (rd_spc hz (fun q a t _ _ => ?_))) 12 0 sp rfl (rd_spc hz (fun q a t _ _ => ⟨Or.inl, fun x => x.elim id (fun x => absurd x.2 rh_A0)⟩))
    constructor
    · rintro (⟨r', h, x⟩ | x)
      · exact ⟨r', by omega, x⟩
      · exact ⟨r, by omega, x⟩
    · rintro ⟨r', h, x⟩
      by_cases c : r' = r
      · subst c; exact Or.inr x
      · exact Or.inl ⟨r', by omega, x⟩
theorem ry_as2 {post : SY → Prop} (hP : ∀ sp, (∀ j, j < 32 → sp j = 0) → ∃ n, wY_allSteps_23 post n 0 (nI nl) (nI ns) (nI nr) (nI nc) kn al cs lt lb lf sb so sf sg rt rv ra ap av af aw p h sp rch) : ∀ d i sp, i + d = 32 → (∀ j, j < i → sp j = 0) → wY_allSteps_2 post (nI nl) (nI ns) (nI nr) (nI nc) kn (d + 1) (nI i) al cs lt lb lf sb so sf sg rt rv ra ap av af aw p h sp rch := by
  intro d
  induction d with
  | zero =>
    intro i sp hi k
    obtain rfl : i = 32 := by omega
    exact br_t (by decide) (hP sp k)
  | succ d ih =>
    intro i sp hi k
    have ei : (nI i).toNatClampNeg = i := nI_clamp (by omega)
    refine br_f (nI_ge (b := 32) (by omega) (by decide)) ⟨vp_in_nI (by omega) (by decide), ?_⟩
    rw [ei]
    exact nm_e (nm_r (nI_1 i) (ih (i + 1) _ (by omega) (fun j hj => by
      by_cases e : j = i
      · rw [e, pk_us]
      · rw [pk_un e]; exact k j (by omega))))
theorem ry_as {post : SY → Prop} (hn : nr ≤ 12) (R : rr_R rt rv ra nr) (e : rg_Eq 12 vs p) (O : rr_O oc sg)
    (hP : ∀ sp, rd_sp sp (rd_T vs rv ra rt oc nr) → post ((nI nl), (nI ns), (nI nr), (nI nc), kn, al, cs, lt, lb, lf, sb, so, sf, sg, rt, rv, ra, ap, av, af, aw, p, h, sp, rch)) : wpY_allSteps post ((nI nl), (nI ns), (nI nr), (nI nc), kn, al, cs, lt, lb, lf, sb, so, sf, sg, rt, rv, ra, ap, av, af, aw, p, h, sp, rch) :=
  ⟨33, ry_as2 (fun sp k => ⟨nr + 1, ry_as23 hn R e O hP nr 0 sp (by omega) (fun q a t hq ha => by
    rw [k _ (by omega), b_0]
    exact ⟨fun z => absurd z (by decide), fun ⟨r, h, _⟩ => absurd h (Nat.not_lt_zero r)⟩)⟩) 32 0 sp rfl (fun j hj => absurd hj (Nat.not_lt_zero j))⟩
theorem rd_em {i : Nat} (hi : i < 32) : nI i - nI i / 8 * 8 = nI (i % 8) := pk_rem (d := 8) (by omega) (by decide) (by decide)
theorem rd_ed {i : Nat} (hi : i < 32) : nI i / 8 = nI (i / 8) := pk_div (d := 8) (by omega) (by decide) (by decide)
theorem ry_be4 {post : Int32 → Prop} {x : Int32} (hP : ∀ m, (∀ t, bt m t = true ↔ ∃ i, i < 32 ∧ bt x (i % 8) = true ∧ bt (sp i) t = true) → post m) :
    ∀ d i m, i + d = 32 → (∀ t, bt m t = true ↔ ∃ j, j < i ∧ bt x (j % 8) = true ∧ bt (sp j) t = true) → wY_beyond_4 post x (nI nl) (nI ns) (nI nr) (nI nc) kn al cs lt lb lf sb so sf sg rt rv ra ap av af aw p h sp rch (d + 1) m (nI i) := by
  intro d
  induction d with
  | zero =>
    intro i m hi hm
    obtain rfl : i = 32 := by omega
    exact br_t (by decide) (hP m hm)
  | succ d ih =>
    intro i m hi hm
    have ei : (nI i).toNatClampNeg = i := nI_clamp (by omega)
    refine br_f (nI_ge (b := 32) (by omega) (by decide)) ⟨by decide, ?_⟩
    rw [rd_em (by omega), ei]
    refine rf_brY _ (i % 8) (by omega) (fun hb => ⟨vp_in_nI (by omega) (by decide), nm_e (nm_r (nI_1 i) (ih (i + 1) _ (by omega) (fun t => ?_)))⟩) (fun hb => nm_r (nI_1 i) (ih (i + 1) m (by omega) (fun t => ?_)))
    · rw [b_or, Bool.or_eq_true, hm t]
      constructor
      · rintro (⟨j, hj, y⟩ | y)
        · exact ⟨j, by omega, y⟩
        · exact ⟨i, by omega, hb, y⟩
      · rintro ⟨j, hj, y⟩
        by_cases c : j = i
        · subst c; exact Or.inr y.2
        · exact Or.inl ⟨j, by omega, y⟩
    · rw [hm t]
      constructor
      · rintro ⟨j, hj, y⟩
        exact ⟨j, by omega, y⟩
      · rintro ⟨j, hj, y⟩
        by_cases c : j = i
        · subst c
          rw [hb] at y
          exact absurd y.1 (by decide)
        · exact ⟨j, by omega, y⟩
theorem ry_be {post : Int32 → Prop} {x : Int32} {T : Nat → Nat → Nat → Prop} (hz : rd_sp sp T) (hP : ∀ m, (∀ t, bt m t = true ↔ ∃ a, a < 8 ∧ bt x a = true ∧ rd_R T a t) → post m) : wpY_beyond post ((nI nl), (nI ns), (nI nr), (nI nc), kn, al, cs, lt, lb, lf, sb, so, sf, sg, rt, rv, ra, ap, av, af, aw, p, h, sp, rch) x := by
  refine ⟨33, ry_be4 (fun m hm => hP m (fun t => (hm t).trans ?_)) 32 0 0 rfl (fun t => by rw [b_0]; exact ⟨fun z => absurd z (by decide), fun ⟨j, h, _⟩ => absurd h (Nat.not_lt_zero j)⟩)⟩
  constructor
  · rintro ⟨i, hi, y, z⟩
    refine ⟨i % 8, by omega, y, i / 8, by omega, (hz (i / 8) (i % 8) t (by omega) (by omega)).mp ?_⟩
    rw [show i / 8 * 8 + i % 8 = i by omega]
    exact z
  · rintro ⟨a, ha, y, q, hq, z⟩
    refine ⟨q * 8 + a, by omega, ?_, (hz q a t hq ha).mpr z⟩
    rw [show (q * 8 + a) % 8 = a by omega]
    exact y
theorem ry_w33 {post : SY → Prop} {J : ry_J} {T : Nat → Nat → Nat → Prop} {k : Nat} (hz : rd_sp sp T) (hJ : ∀ rch, (∀ a t, a < 8 → (bt (rch a) t = true ↔ rd_V (rd_R T) (k + 1) a t)) → J (nI (k + 1)) al cs lt lb lf sb so sf sg rt rv ra ap av af aw p h sp rch) :
    ∀ d s rch, s + d = 8 → (∀ a t, a < s → (bt (rch a) t = true ↔ rd_V (rd_R T) (k + 1) a t)) → (∀ a t, s ≤ a → a < 8 → (bt (rch a) t = true ↔ rd_V (rd_R T) k a t)) → wY_allWays_33 post J (nI k) (nI nl) (nI ns) (nI nr) (nI nc) kn (d + 1) (nI s) al cs lt lb lf sb so sf sg rt rv ra ap av af aw p h sp rch := by
  intro d
  induction d with
  | zero =>
    intro s rch hs h1 h2
    obtain rfl : s = 8 := by omega
    exact br_t (by decide) (nm_r (nI_1 k) (hJ rch h1))
  | succ d ih =>
    intro s rch hs h1 h2
    have es : (nI s).toNatClampNeg = s := nI_clamp (by omega)
    have hin : vp_in (nI s) 8 := vp_in_nI (by omega) (by decide)
    refine br_f (nI_ge (b := 8) (by omega) (by decide)) ⟨hin, hin, ?_⟩
    rw [es]
    refine ry_be hz (fun m hm => ⟨hin, nm_e (nm_r (nI_1 s) (ih (s + 1) _ (by omega) (fun a t ha => ?_) (fun a t ha hb => ?_)))⟩)
    · by_cases e : a = s
      · subst e
        rw [pk_us, b_or, Bool.or_eq_true, hm t, h2 a t (Nat.le_refl _) (by omega)]
        constructor
        · rintro (x | ⟨b, hb, x, y⟩)
          · exact Or.inl x
          · exact Or.inr ⟨b, hb, (h2 a b (Nat.le_refl _) (by omega)).mp x, y⟩
        · rintro (x | ⟨b, hb, x, y⟩)
          · exact Or.inl x
          · exact Or.inr ⟨b, hb, (h2 a b (Nat.le_refl _) (by omega)).mpr x, y⟩
      · rw [pk_un e]; exact h1 a t (by omega)
    · rw [pk_un (by omega)]; exact h2 a t (by omega) hb
theorem ry_w25 {post : SY → Prop} {T : Nat → Nat → Nat → Prop} (hz : rd_sp sp T) (hP : ∀ rch, (∀ a t, a < 8 → (bt (rch a) t = true ↔ rd_V (rd_R T) 8 a t)) → post ((nI nl), (nI ns), (nI nr), (nI nc), kn, al, cs, lt, lb, lf, sb, so, sf, sg, rt, rv, ra, ap, av, af, aw, p, h, sp, rch)) :
    ∀ d k rch, k + d = 8 → (∀ a t, a < 8 → (bt (rch a) t = true ↔ rd_V (rd_R T) k a t)) → wY_allWays_25 post (nI nl) (nI ns) (nI nr) (nI nc) kn (d + 1) (nI k) al cs lt lb lf sb so sf sg rt rv ra ap av af aw p h sp rch := by
  intro d
  induction d with
  | zero =>
    intro k rch hk h1
    obtain rfl : k = 8 := by omega
    exact br_t (by decide) (hP rch h1)
  | succ d ih =>
    intro k rch hk h1
    exact br_f (nI_ge (b := 8) (by omega) (by decide)) ⟨9, ry_w33 hz (fun rch h1 => ih (k + 1) rch (by omega) h1) 8 0 rch rfl (fun a t ha => absurd ha (Nat.not_lt_zero a)) (fun a t _ ha => h1 a t ha)⟩
theorem ry_w2 {post : SY → Prop} (hP : ∀ rch, (∀ a t, a < 8 → (bt (rch a) t = true ↔ t = a)) → ∃ n, wY_allWays_25 post (nI nl) (nI ns) (nI nr) (nI nc) kn n 0 al cs lt lb lf sb so sf sg rt rv ra ap av af aw p h sp rch) : ∀ d i rch, i + d = 8 → (∀ a t, a < i → (bt (rch a) t = true ↔ t = a)) → wY_allWays_2 post (nI nl) (nI ns) (nI nr) (nI nc) kn (d + 1) (nI i) al cs lt lb lf sb so sf sg rt rv ra ap av af aw p h sp rch := by
  intro d
  induction d with
  | zero =>
    intro i rch hi k
    obtain rfl : i = 8 := by omega
    exact br_t (by decide) (hP rch k)
  | succ d ih =>
    intro i rch hi k
    have ei : (nI i).toNatClampNeg = i := nI_clamp (by omega)
    refine br_f (nI_ge (b := 8) (by omega) (by decide)) ⟨vp_in_nI (by omega) (by decide), ?_⟩
    rw [ei]
    exact nm_e (nm_r (nI_1 i) (ih (i + 1) _ (by omega) (fun a t ha => by
      by_cases e : a = i
      · rw [e, pk_us, rf_one i (by omega), decide_eq_true_eq]
      · rw [pk_un e]; exact k a t (by omega))))
theorem ry_w {post : SY → Prop} {T : Nat → Nat → Nat → Prop} (hz : rd_sp sp T) (hP : ∀ rch, (∀ a t, a < 8 → (bt (rch a) t = true ↔ rd_V (rd_R T) 8 a t)) → post ((nI nl), (nI ns), (nI nr), (nI nc), kn, al, cs, lt, lb, lf, sb, so, sf, sg, rt, rv, ra, ap, av, af, aw, p, h, sp, rch)) : wpY_allWays post ((nI nl), (nI ns), (nI nr), (nI nc), kn, al, cs, lt, lb, lf, sb, so, sf, sg, rt, rv, ra, ap, av, af, aw, p, h, sp, rch) :=
  ⟨9, ry_w2 (fun rch k => ⟨9, ry_w25 hz hP 8 0 rch rfl k⟩) 8 0 rch rfl (fun a t ha => absurd ha (Nat.not_lt_zero a))⟩
end
/-- threads found up to (i, t) -/
def rd_M (Z : Nat → Nat → Prop) (m : Int32) (i0 t0 : Nat) : Prop := ∀ q, bt m q = true ↔ ∃ i t, t < 8 ∧ (i < i0 ∨ (i = i0 ∧ t < t0)) ∧ i / 8 = q ∧ Z i t
theorem rd_M0 {Z : Nat → Nat → Prop} : rd_M Z 0 0 0 := fun q => by
  rw [b_0]
  exact ⟨fun z => absurd z (by decide), fun ⟨i, t, _, h, _⟩ => by omega⟩
theorem rd_Mn {Z : Nat → Nat → Prop} {m : Int32} {i t : Nat} (h : rd_M Z m i t) (n : ¬ Z i t) : rd_M Z m i (t + 1) := fun q => by
  rw [h q]
  constructor
  · rintro ⟨j, u, a, b, c⟩
    exact ⟨j, u, a, by omega, c⟩
  · rintro ⟨j, u, a, b, c, d⟩
    by_cases e : j = i ∧ u = t
    · rw [e.1, e.2] at d; exact absurd d n
    · exact ⟨j, u, a, by omega, c, d⟩
theorem rd_My {Z : Nat → Nat → Prop} {m : Int32} {i t : Nat} (hi : i < 32) (ht : t < 8) (h : rd_M Z m i t) (z : Z i t) : rd_M Z (m ||| ((1 : Int32) <<< (nI (i / 8) &&& 31))) i (t + 1) := fun q => by
  rw [b_or, Bool.or_eq_true, h q, rf_one (i / 8) (by omega), decide_eq_true_eq]
  constructor
  · rintro (⟨j, u, a, b, c⟩ | e)
    · exact ⟨j, u, a, by omega, c⟩
    · exact ⟨i, t, ht, by omega, e.symm, z⟩
  · rintro ⟨j, u, a, b, c, d⟩
    by_cases e : j = i ∧ u = t
    · exact Or.inr (by rw [← c, e.1])
    · exact Or.inl ⟨j, u, a, by omega, c, d⟩
theorem rd_Me {Z : Nat → Nat → Prop} {m : Int32} {i : Nat} (h : rd_M Z m i 8) : rd_M Z m (i + 1) 0 := fun q => by
  rw [h q]
  constructor
  · rintro ⟨j, u, a, b, c⟩
    exact ⟨j, u, a, by omega, c⟩
  · rintro ⟨j, u, a, b, c⟩
    exact ⟨j, u, a, by omega, c⟩
def rd_Z (sp rch : Nat → Int32) (x i t : Nat) : Prop := bt (sp i) t = true ∧ bt (rch x) (i % 8) = true ∧ bt (rch t) x = true
section
variable {nl ns nr nc : Nat} {oc kn : Int32} {vs ss cs lt lb lf sb sf so rt rv ra ap av af aw al sg p h sp rch : Nat → Int32}
theorem ry_t13 {post : Int32 → Prop} {J : Int32 → Int32 → Prop} {x i : Nat} (hx : x < 8) (hi : i < 32) (hJ : ∀ m, rd_M (rd_Z sp rch x) m (i + 1) 0 → J m (nI (i + 1))) :
    ∀ d t m, t + d = 8 → rd_M (rd_Z sp rch x) m i t → wY_threadsAround_13 post J (nI x) (nI i) (nI nl) (nI ns) (nI nr) (nI nc) kn al cs lt lb lf sb so sf sg rt rv ra ap av af aw p h sp rch (d + 1) m (nI t) := by
  have ei : (nI i).toNatClampNeg = i := nI_clamp (by omega)
  have ex : (nI x).toNatClampNeg = x := nI_clamp (by omega)
  intro d
  induction d with
  | zero =>
    intro t m ht hm
    obtain rfl : t = 8 := by omega
    exact br_t (by decide) (nm_r (nI_1 i) (hJ m (rd_Me hm)))
  | succ d ih =>
    intro t m ht hm
    have et : (nI t).toNatClampNeg = t := nI_clamp (by omega)
    have no : ¬ rd_Z sp rch x i t → wY_threadsAround_13 post J (nI x) (nI i) (nI nl) (nI ns) (nI nr) (nI nc) kn al cs lt lb lf sb so sf sg rt rv ra ap av af aw p h sp rch (d + 1) m (nI (t + 1)) := fun n => ih (t + 1) m (by omega) (rd_Mn hm n)
    refine br_f (nI_ge (b := 8) (by omega) (by decide)) ⟨vp_in_nI (by omega) (by decide), ?_⟩
    rw [ei]
    refine rf_brY _ t (by omega) (fun hb => ?_) (fun hb => ?_)
    · unfold wY_threadsAround_40
      refine br_f (by decide) ⟨vp_in_nI hx (by decide), by decide, ?_⟩
      rw [rd_em hi, rd_ed hi, ex, et]
      refine rf_brY _ (i % 8) (by omega) (fun hc => ⟨vp_in_nI (by omega) (by decide), rf_brY _ x (by omega) (fun hd => ⟨by decide, nm_e (nm_r (nI_1 t) (ih (t + 1) _ (by omega) (rd_My hi (by omega) hm ⟨hb, hc, hd⟩)))⟩) (fun hd => nm_r (nI_1 t) (no (fun z => ?_)))⟩) (fun hc => nm_r (nI_1 t) (no (fun z => ?_)))
      · have := z.2.2
        rw [hd] at this; exact absurd this (by decide)
      · have := z.2.1
        rw [hc] at this; exact absurd this (by decide)
    · unfold wY_threadsAround_40
      refine br_t rfl (nm_r (nI_1 t) (no (fun z => ?_)))
      have := z.1
      rw [hb] at this; exact absurd this (by decide)
theorem ry_t4' {post : Int32 → Prop} {x : Nat} (hx : x < 8) (hP : ∀ m, rd_M (rd_Z sp rch x) m 32 0 → post (nI (rf_pc m 8))) :
    ∀ d i m, i + d = 32 → rd_M (rd_Z sp rch x) m i 0 → wY_threadsAround_4 post (nI x) (nI nl) (nI ns) (nI nr) (nI nc) kn al cs lt lb lf sb so sf sg rt rv ra ap av af aw p h sp rch (d + 1) m (nI i) := by
  intro d
  induction d with
  | zero =>
    intro i m hi hm
    obtain rfl : i = 32 := by omega
    exact br_t (by decide) (ry_size _ (hP m hm))
  | succ d ih =>
    intro i m hi hm
    exact br_f (nI_ge (b := 32) (by omega) (by decide)) ⟨9, ry_t13 hx (by omega) (fun m hm => ih (i + 1) m (by omega) hm) 8 0 m rfl hm⟩
theorem ry_ta {post : Int32 → Prop} {x : Nat} {T : Nat → Nat → Nat → Prop} (hx : x < 8) (hz : rd_sp sp T) (hr : ∀ a t, a < 8 → (bt (rch a) t = true ↔ rd_V (rd_R T) 8 a t))
    (hP : ∀ n, n ≤ 8 → (2 ≤ n ↔ ∃ q1 q2, q1 < q2 ∧ q2 < 4 ∧ rd_N T q1 x ∧ rd_N T q2 x) → post (nI n)) : wpY_threadsAround post ((nI nl), (nI ns), (nI nr), (nI nc), kn, al, cs, lt, lb, lf, sb, so, sf, sg, rt, rv, ra, ap, av, af, aw, p, h, sp, rch) (nI x) := by
  refine ⟨33, ry_t4' hx (fun m hm => hP _ (rf_pcle m 8) ?_) 32 0 0 rfl rd_M0⟩
  have key : ∀ q, bt m q = true ↔ (q < 4 ∧ rd_N T q x) := fun q => by
    rw [hm q]
    constructor
    · rintro ⟨i, t, ht, hi, rfl, z1, z2, z3⟩
      have hi' : i < 32 := by omega
      refine ⟨by omega, i % 8, t, by omega, ht, (hz (i / 8) (i % 8) t (by omega) (by omega)).mp ?_, (hr x _ hx).mp z2, (hr t x ht).mp z3⟩
      rw [show i / 8 * 8 + i % 8 = i by omega]
      exact z1
    · rintro ⟨hq, a, t, ha, ht, z1, z2, z3⟩
      refine ⟨q * 8 + a, t, ht, Or.inl (by omega), by omega, (hz q a t hq ha).mpr z1, ?_, (hr t x ht).mpr z3⟩
      rw [show (q * 8 + a) % 8 = a by omega]
      exact (hr x a hx).mpr z2
  rw [rf_pc2]
  constructor
  · rintro ⟨i, j, a, b, c, d⟩
    exact ⟨i, j, a, ((key j).mp d).1, ((key i).mp c).2, ((key j).mp d).2⟩
  · rintro ⟨i, j, a, b, c, d⟩
    exact ⟨i, j, a, by omega, (key i).mpr ⟨by omega, c⟩, (key j).mpr ⟨b, d⟩⟩
theorem ry_d16 {post : Int32 → SY → Prop} {T : Nat → Nat → Nat → Prop} (hz : rd_sp sp T) (hr : ∀ a t, a < 8 → (bt (rch a) t = true ↔ rd_V (rd_R T) 8 a t))
    (hP : ∀ m, rf_b8 m → (∀ i, i < 8 → (bt m i = true ↔ ∃ q1 q2, q1 < q2 ∧ q2 < 4 ∧ rd_N T q1 i ∧ rd_N T q2 i)) → post m ((nI nl), (nI ns), (nI nr), (nI nc), kn, al, cs, lt, lb, lf, sb, so, sf, sg, rt, rv, ra, ap, av, af, aw, p, h, sp, rch)) :
    ∀ d s m, s + d = 8 → (∀ i, bt m i = true ↔ (i < s ∧ ∃ q1 q2, q1 < q2 ∧ q2 < 4 ∧ rd_N T q1 i ∧ rd_N T q2 i)) → wY_danger_16 post (nI nl) (nI ns) (nI nr) (nI nc) kn al cs lt lb lf sb so sf sg rt rv ra ap av af aw p h sp rch (d + 1) m (nI s) := by
  intro d
  induction d with
  | zero =>
    intro s m hs hm
    obtain rfl : s = 8 := by omega
    exact br_t (by decide) (hP m (fun t ht => rf_nf (fun z => absurd ((hm t).mp z).1 (by omega))) (fun i hi => (hm i).trans ⟨fun z => z.2, fun z => ⟨hi, z⟩⟩))
  | succ d ih =>
    intro s m hs hm
    refine br_f (nI_ge (b := 8) (by omega) (by decide)) ?_
    refine ry_ta (show s < 8 by omega) hz hr (fun n hn hq => br_c (fun z => nm_r (nI_1 s) (ih (s + 1) m (by omega) (fun i => ?_))) (fun z => nm_e (nm_r (nI_1 s) (ih (s + 1) _ (by omega) (fun i => ?_)))))
    · have z' : n ≤ 1 := (nI_leI (b := 1) (by omega) (by decide)).mp z
      rw [hm i]
      constructor
      · rintro ⟨a, b⟩
        exact ⟨by omega, b⟩
      · rintro ⟨a, b⟩
        by_cases e : i = s
        · subst e
          have := hq.mpr b
          omega
        · exact ⟨by omega, b⟩
    · have z' : 2 ≤ n := by
        rcases Nat.lt_or_ge n 2 with y | y
        · exact absurd ((nI_leI (b := 1) (by omega) (by decide)).mpr (by omega)) z
        · exact y
      rw [b_or, Bool.or_eq_true, hm i, rf_one s (by omega), decide_eq_true_eq]
      constructor
      · rintro (⟨a, b⟩ | rfl)
        · exact ⟨by omega, b⟩
        · exact ⟨by omega, hq.mp z'⟩
      · rintro ⟨a, b⟩
        by_cases e : i = s
        · exact Or.inr e
        · exact Or.inl ⟨by omega, b⟩
theorem ry_danger {post : Int32 → SY → Prop} (hn : nr ≤ 12) (R : rr_R rt rv ra nr) (O : rr_O oc sg) (hl : nl ≤ 20) (hs : ns ≤ 20) (hL : rg_RL lt lb lf nl) (hS : rg_RL so sb sf ns)
    (K : kn ≠ 0 → rg_Eq 12 vs p ∧ rg_Eq 16 ss h) (L : rg_Le (rg_Cl al cs lt lb lf sb sf so nl ns) vs ss)
    (hP : ∀ kn p h sp rch m, kn ≠ 0 → rg_Eq 12 vs p → rg_Eq 16 ss h → rf_b8 m → (∀ i, i < 8 → (bt m i = true ↔ ∃ q1 q2, q1 < q2 ∧ q2 < 4 ∧ rd_N (rd_T vs rv ra rt oc nr) q1 i ∧ rd_N (rd_T vs rv ra rt oc nr) q2 i)) → post m ((nI nl), (nI ns), (nI nr), (nI nc), kn, al, cs, lt, lb, lf, sb, so, sf, sg, rt, rv, ra, ap, av, af, aw, p, h, sp, rch)) : wpY_danger post ((nI nl), (nI ns), (nI nr), (nI nc), kn, al, cs, lt, lb, lf, sb, so, sf, sg, rt, rv, ra, ap, av, af, aw, p, h, sp, rch) := by
  unfold wpY_danger
  refine ry_work hl hs hL hS K L (fun kn p h z e f => ?_)
  refine ry_as (vs := vs) (oc := oc) hn R e O (fun sp hz => ?_)
  refine ry_w hz (fun rch hr => ⟨9, ?_⟩)
  exact ry_d16 hz hr (fun m b hm => hP kn p h sp rch m z e f b hm) 8 0 0 rfl (fun i => by rw [b_0]; exact ⟨fun z => absurd z (by decide), fun z => absurd z.1 (Nat.not_lt_zero i)⟩)
end
