/-! ===== once, region, access, pointsTo, holds ===== -/
section
variable {nl ns nr nc : Nat} {oc kn : Int32} {vs ss cs lt lb lf sb sf so rt rv ra ap av af aw al sg p h sp rch : Nat → Int32}
theorem rx_once0 {post : Int32 → SX → Prop} {v1 v2 : Int32} (hb : rr_bad 8 v1) (k : post (-1) ((nI nl), (nI ns), oc, (nI nr), (nI nc), vs, ss, cs, lt, lb, lf, sb, sf, so, rt, rv, ra, ap, av, af, aw)) : wpX_once post ((nI nl), (nI ns), oc, (nI nr), (nI nc), vs, ss, cs, lt, lb, lf, sb, sf, so, rt, rv, ra, ap, av, af, aw) v1 v2 := by
  unfold wpX_once
  exact rx_isS (fun _ => br_t rfl k) (fun s hs f => absurd (f ▸ hb) (rr_nb (by decide) hs))
theorem ry_once0 {post : Int32 → SY → Prop} {v1 v2 : Int32} (hb : rr_bad 8 v1) (k : post (-1) ((nI nl), (nI ns), (nI nr), (nI nc), kn, al, cs, lt, lb, lf, sb, so, sf, sg, rt, rv, ra, ap, av, af, aw, p, h, sp, rch)) : wpY_once post ((nI nl), (nI ns), (nI nr), (nI nc), kn, al, cs, lt, lb, lf, sb, so, sf, sg, rt, rv, ra, ap, av, af, aw, p, h, sp, rch) v1 v2 := by
  refine br_c (fun _ => k) (fun z => br_c (fun y => ?_) (fun _ => k))
  rcases hb with b | b
  · exact absurd b z
  · exact absurd y (rr_gt b (by decide))
theorem rx_once {post : Int32 → SX → Prop} {s : Nat} (hs : s < 8) {b : Int32} (k0 : b = 0 → post (nI (bt oc s).toNat) ((nI nl), (nI ns), oc &&& (((1 : Int32) <<< (nI s &&& 31)) ^^^ (-1)), (nI nr), (nI nc), vs, ss, cs, lt, lb, lf, sb, sf, so, rt, rv, ra, ap, av, af, aw)) (k1 : b ≠ 0 → post (nI (bt oc s).toNat) ((nI nl), (nI ns), oc ||| ((1 : Int32) <<< (nI s &&& 31)), (nI nr), (nI nc), vs, ss, cs, lt, lb, lf, sb, sf, so, rt, rv, ra, ap, av, af, aw)) : wpX_once post ((nI nl), (nI ns), oc, (nI nr), (nI nc), vs, ss, cs, lt, lb, lf, sb, sf, so, rt, rv, ra, ap, av, af, aw) (nI s) b := by
  unfold wpX_once
  refine rx_isS (fun b => absurd b (rr_nb (by decide) hs)) (fun _ _ _ => br_f (by decide) (nm_r (rf_tX oc s (by omega)) ?_))
  exact br_c (fun z => nm_e (k0 z)) (fun z => nm_e (k1 z))
theorem ry_once {post : Int32 → SY → Prop} {s : Nat} (hs : s < 8) {b : Int32} (hO : rr_O oc sg) (k : post (nI (bt oc s).toNat) ((nI nl), (nI ns), (nI nr), (nI nc), kn, al, cs, lt, lb, lf, sb, so, sf, upd sg s (vp_nar .boolean b), rt, rv, ra, ap, av, af, aw, p, h, sp, rch)) : wpY_once post ((nI nl), (nI ns), (nI nr), (nI nc), kn, al, cs, lt, lb, lf, sb, so, sf, sg, rt, rv, ra, ap, av, af, aw, p, h, sp, rch) (nI s) b := by
  have es : (nI s).toNatClampNeg = s := nI_clamp (by omega)
  have hin : vp_in (nI s) 8 := vp_in_nI hs (by decide)
  refine br_f (nI_pos (by omega)) (br_t (nI_le (b := 7) (by omega) (by decide)) ⟨hin, ?_⟩)
  rw [es]
  refine br_c (fun z => ⟨hin, ?_⟩) (fun z => ⟨hin, ?_⟩)
  · have e : bt oc s = false := rf_nf (fun y => (hO s hs).mp y z)
    rw [e] at k
    rw [es]
    exact nm_e k
  · have e : bt oc s = true := (hO s hs).mpr z
    rw [e] at k
    rw [es]
    exact nm_e k
theorem rr_O0 {s : Nat} (hs : s < 8) (hO : rr_O oc sg) : rr_O (oc &&& (((1 : Int32) <<< (nI s &&& 31)) ^^^ (-1))) (upd sg s 0) := by
  intro t ht
  rw [b_and, b_xor, b_m1 t (by omega), rf_one s (by omega)]
  by_cases e : t = s
  · subst e; rw [pk_us, decide_eq_true rfl]; simp
  · rw [pk_un e, decide_eq_false e, ← hO t ht]; simp
theorem rr_O1 {s : Nat} {b : Int32} (hb : b ≠ 0) (hs : s < 8) (hO : rr_O oc sg) : rr_O (oc ||| ((1 : Int32) <<< (nI s &&& 31))) (upd sg s b) := by
  intro t ht
  rw [b_or, rf_one s (by omega)]
  by_cases e : t = s
  · subst e; rw [pk_us, decide_eq_true rfl]; simp [hb]
  · rw [pk_un e, decide_eq_false e, ← hO t ht]; simp
/-- may a region of thread t lie in a -/
def rr_in (rt : Nat → Int32) (nr : Nat) (t a : Int32) : Prop := a = -1 ∨ ∃ j, j < nr ∧ a = nI j ∧ rt j = t
theorem rx_can {post : Int32 → Prop} {t a : Int32} (hn : nr ≤ 12) (f : ¬ rr_in rt nr t a → post 0) (g : rr_in rt nr t a → post 1) : wpX_canLieIn post ((nI nl), (nI ns), oc, (nI nr), (nI nc), vs, ss, cs, lt, lb, lf, sb, sf, so, rt, rv, ra, ap, av, af, aw) t a := by
  unfold wpX_canLieIn
  refine br_c (fun z => g (Or.inl z)) (fun z => ?_)
  refine rx_isR hn (fun b => br_t rfl (f ?_)) (fun j hj e => br_f (by decide) ?_)
  · rintro (c | ⟨j, hj, e, _⟩)
    · exact z c
    · exact rr_nb (by omega) hj (e ▸ b)
  · subst e
    have ej : (nI j).toNatClampNeg = j := nI_clamp (by omega)
    rw [ej]
    refine ⟨vp_in_nI (by omega) (by decide), br_c (fun y => g (Or.inr ⟨j, hj, rfl, y⟩)) (fun y => f ?_)⟩
    rintro (c | ⟨i, hi, e, q⟩)
    · exact z c
    · rw [nI_eq (by omega) (by omega)] at e
      exact y (e ▸ q)
theorem rx_region0 {post : Int32 → SX → Prop} {v1 v2 v3 : Int32} (hn : nr ≤ 12) (hb : rr_bad 4 v1 ∨ rr_bad 12 v2 ∨ ¬ rr_in rt nr v1 v3) (k : post (-1) ((nI nl), (nI ns), oc, (nI nr), (nI nc), vs, ss, cs, lt, lb, lf, sb, sf, so, rt, rv, ra, ap, av, af, aw)) : wpX_region post ((nI nl), (nI ns), oc, (nI nr), (nI nc), vs, ss, cs, lt, lb, lf, sb, sf, so, rt, rv, ra, ap, av, af, aw) v1 v2 v3 := by
  unfold wpX_region
  refine rx_isT (fun _ => br_t rfl k) (fun j hj e => br_f (by decide) ?_)
  refine rx_isV (fun _ => br_t rfl k) (fun s hs f => br_f (by decide) ?_)
  refine rx_can hn (fun _ => br_t rfl k) (fun g => ?_)
  exact hb.elim (fun b => absurd (e ▸ b) (rr_nb (by decide) hj)) (fun b => b.elim (fun b => absurd (f ▸ b) (rr_nb (by decide) hs)) (fun b => absurd g b))
theorem rx_region1 {post : Int32 → SX → Prop} {v1 v2 v3 : Int32} (h1 : ¬ rr_bad 4 v1) (h2 : ¬ rr_bad 12 v2) (h3 : rr_in rt nr v1 v3) (hn : nr = 12) (k : post (-2) ((nI nl), (nI ns), oc, (nI nr), (nI nc), vs, ss, cs, lt, lb, lf, sb, sf, so, rt, rv, ra, ap, av, af, aw)) : wpX_region post ((nI nl), (nI ns), oc, (nI nr), (nI nc), vs, ss, cs, lt, lb, lf, sb, sf, so, rt, rv, ra, ap, av, af, aw) v1 v2 v3 := by
  unfold wpX_region
  refine rx_isT (fun b => absurd b h1) (fun _ _ _ => br_f (by decide) ?_)
  refine rx_isV (fun b => absurd b h2) (fun _ _ _ => br_f (by decide) ?_)
  exact rx_can (by omega) (fun b => absurd h3 b) (fun _ => br_f (by decide) (br_f (nI_nlt (b := 12) (by omega) (by omega)) k))
theorem rx_region {post : Int32 → SX → Prop} {v1 v2 v3 : Int32} (h1 : ¬ rr_bad 4 v1) (h2 : ¬ rr_bad 12 v2) (h3 : rr_in rt nr v1 v3) (hn : nr < 12) (k : post (nI (nr + 1) - 1) ((nI nl), (nI ns), oc, nI (nr + 1), (nI nc), vs, ss, cs, lt, lb, lf, sb, sf, so, upd rt nr v1, upd rv nr v2, upd ra nr v3, ap, av, af, aw)) : wpX_region post ((nI nl), (nI ns), oc, (nI nr), (nI nc), vs, ss, cs, lt, lb, lf, sb, sf, so, rt, rv, ra, ap, av, af, aw) v1 v2 v3 := by
  have ej : (nI nr).toNatClampNeg = nr := nI_clamp (by omega)
  have hln : vp_in (nI nr) 12 := vp_in_nI hn (by decide)
  unfold wpX_region
  refine rx_isT (fun b => absurd b h1) (fun _ _ _ => br_f (by decide) ?_)
  refine rx_isV (fun b => absurd b h2) (fun _ _ _ => br_f (by decide) ?_)
  refine rx_can (by omega) (fun b => absurd h3 b) (fun _ => br_f (by decide) (br_t (nI_lt (b := 12) (by omega) (by omega)) ?_))
  rw [ej]
  exact ⟨hln, nm_e ⟨hln, nm_e ⟨hln, nm_e (nm_r (nI_1 nr) k)⟩⟩⟩
theorem rr_m1 {x : Int32} (h : x < 0) (n : ¬ x < -1) : x = -1 := by
  apply Int32.toInt_inj.mp
  rw [Int32.lt_iff_toInt_lt] at h n
  have a : (0 : Int32).toInt = 0 := by decide
  have b : (-1 : Int32).toInt = -1 := by decide
  omega
theorem ry_region_go {post : Int32 → SY → Prop} {v1 v2 v3 : Int32} (hn : nr ≤ 12) (bad : (rr_bad 4 v1 ∨ rr_bad 12 v2 ∨ ¬ rr_in rt nr v1 v3) → post (-1) ((nI nl), (nI ns), (nI nr), (nI nc), kn, al, cs, lt, lb, lf, sb, so, sf, sg, rt, rv, ra, ap, av, af, aw, p, h, sp, rch)) (ok : ¬ rr_bad 4 v1 → ¬ rr_bad 12 v2 → rr_in rt nr v1 v3 → wY_region_48 post v1 v2 v3 (nI nl) (nI ns) (nI nr) (nI nc) kn al cs lt lb lf sb so sf sg rt rv ra ap av af aw p h sp rch) : wpY_region post ((nI nl), (nI ns), (nI nr), (nI nc), kn, al, cs, lt, lb, lf, sb, so, sf, sg, rt, rv, ra, ap, av, af, aw, p, h, sp, rch) v1 v2 v3 := by
  unfold wpY_region
  refine br_c (fun z => bad (Or.inl (Or.inl z))) (fun z => br_c (fun y => bad (Or.inl (Or.inr ?_))) (fun y => ?_))
  · have y' : (3 : Int32).toInt < v1.toInt := Int32.lt_iff_toInt_lt.mp y
    refine Int32.le_iff_toInt_le.mpr ?_
    have a : (3 : Int32).toInt = 3 := by decide
    have b : (nI 4).toInt = 4 := by decide
    omega
  have h1 : ¬ rr_bad 4 v1 := by
    rintro (c | c)
    · exact z c
    · refine y (Int32.lt_iff_toInt_lt.mpr ?_)
      have c' := Int32.le_iff_toInt_le.mp c
      have a : (3 : Int32).toInt = 3 := by decide
      have b : (nI 4).toInt = 4 := by decide
      omega
  refine ry_bV (fun b => br_f (by decide) (bad (Or.inr (Or.inl b)))) (fun w hw e => br_t rfl ?_)
  have h2 : ¬ rr_bad 12 v2 := by rw [e]; exact rr_nb (by decide) hw
  refine br_c (fun q => bad (Or.inr (Or.inr ?_))) (fun q => br_c (fun r => br_c (fun t => ok h1 h2 (Or.inl (rr_m1 t q))) (fun t => ?_)) (fun r => bad (Or.inr (Or.inr ?_))))
  · rintro (c | ⟨j, hj, f, _⟩)
    · rw [c] at q; exact absurd q (by decide)
    · rw [f] at q
      exact absurd (Int32.lt_trans q (by decide : (-1 : Int32) < 0)) (nI_pos (by omega))
  · obtain ⟨j, hj, rfl⟩ := nI_of t
    rw [nI_ltI hj (by omega)] at r
    have ej : (nI j).toNatClampNeg = j := nI_clamp (by omega)
    rw [ej]
    refine ⟨vp_in_nI (by omega) (by decide), br_c (fun s => ok h1 h2 (Or.inr ⟨j, r, rfl, s⟩)) (fun s => bad (Or.inr (Or.inr ?_)))⟩
    rintro (c | ⟨i, hi, f, g⟩)
    · exact nI_pos hj (by rw [c]; decide)
    · rw [nI_eq (by omega) (by omega)] at f
      exact s (f ▸ g)
  · rintro (c | ⟨j, hj, f, _⟩)
    · refine r (by rw [c]; exact Int32.lt_of_lt_of_le (by decide : (-1 : Int32) < 0) (nI_pos' (by omega)))
    · exact r (by rw [f]; exact nI_lt hj (by omega))
theorem ry_region0 {post : Int32 → SY → Prop} {v1 v2 v3 : Int32} (hn : nr ≤ 12) (hb : rr_bad 4 v1 ∨ rr_bad 12 v2 ∨ ¬ rr_in rt nr v1 v3) (k : post (-1) ((nI nl), (nI ns), (nI nr), (nI nc), kn, al, cs, lt, lb, lf, sb, so, sf, sg, rt, rv, ra, ap, av, af, aw, p, h, sp, rch)) : wpY_region post ((nI nl), (nI ns), (nI nr), (nI nc), kn, al, cs, lt, lb, lf, sb, so, sf, sg, rt, rv, ra, ap, av, af, aw, p, h, sp, rch) v1 v2 v3 :=
  ry_region_go hn (fun _ => k) (fun a b c => hb.elim (fun q => absurd q a) (fun q => q.elim (fun q => absurd q b) (fun q => absurd c q)))
theorem ry_region1 {post : Int32 → SY → Prop} {v1 v2 v3 : Int32} (h1 : ¬ rr_bad 4 v1) (h2 : ¬ rr_bad 12 v2) (h3 : rr_in rt nr v1 v3) (hn : nr = 12) (k : post (-2) ((nI nl), (nI ns), (nI nr), (nI nc), kn, al, cs, lt, lb, lf, sb, so, sf, sg, rt, rv, ra, ap, av, af, aw, p, h, sp, rch)) : wpY_region post ((nI nl), (nI ns), (nI nr), (nI nc), kn, al, cs, lt, lb, lf, sb, so, sf, sg, rt, rv, ra, ap, av, af, aw, p, h, sp, rch) v1 v2 v3 :=
  ry_region_go (by omega) (fun hb => hb.elim (fun q => absurd q h1) (fun q => q.elim (fun q => absurd q h2) (fun q => absurd h3 q))) (fun _ _ _ => br_t (by rw [hn]; rfl) k)
theorem ry_region {post : Int32 → SY → Prop} {v1 v2 v3 : Int32} (h1 : ¬ rr_bad 4 v1) (h2 : ¬ rr_bad 12 v2) (h3 : rr_in rt nr v1 v3) (hn : nr < 12) (k : post (nI (nr + 1) - 1) ((nI nl), (nI ns), nI (nr + 1), (nI nc), kn, al, cs, lt, lb, lf, sb, so, sf, sg, upd rt nr v1, upd rv nr v2, upd ra nr v3, ap, av, af, aw, p, h, sp, rch)) : wpY_region post ((nI nl), (nI ns), (nI nr), (nI nc), kn, al, cs, lt, lb, lf, sb, so, sf, sg, rt, rv, ra, ap, av, af, aw, p, h, sp, rch) v1 v2 v3 := by
  have ej : (nI nr).toNatClampNeg = nr := nI_clamp (by omega)
  have hln : vp_in (nI nr) 12 := vp_in_nI hn (by decide)
  refine ry_region_go (by omega) (fun hb => hb.elim (fun q => absurd q h1) (fun q => q.elim (fun q => absurd q h2) (fun q => absurd h3 q))) (fun _ _ _ => br_f (fun z => absurd ((nI_eq (b := 12) (by omega) (by decide)).mp z) (by omega)) ?_)
  rw [ej]
  exact ⟨hln, nm_e ⟨hln, nm_e ⟨hln, nm_e (nm_r (nI_1 nr) k)⟩⟩⟩
theorem rx_access0 {post : Int32 → SX → Prop} {v1 v2 v3 v4 : Int32} (hn : nr ≤ 12) (hb : rr_bad (4 + nr) v1 ∨ rr_bad 12 v2 ∨ rr_bad 2 v3) (k : post (-1) ((nI nl), (nI ns), oc, (nI nr), (nI nc), vs, ss, cs, lt, lb, lf, sb, sf, so, rt, rv, ra, ap, av, af, aw)) : wpX_access post ((nI nl), (nI ns), oc, (nI nr), (nI nc), vs, ss, cs, lt, lb, lf, sb, sf, so, rt, rv, ra, ap, av, af, aw) v1 v2 v3 v4 := by
  unfold wpX_access
  refine rx_isP hn (fun _ => br_t rfl k) (fun j hj e => br_f (by decide) ?_)
  refine rx_isV (fun _ => br_t rfl k) (fun s hs f => br_f (by decide) ?_)
  refine rx_isF (fun _ => br_t rfl k) (fun t ht g => ?_)
  exact hb.elim (fun b => absurd (e ▸ b) (rr_nb (by omega) hj)) (fun b => b.elim (fun b => absurd (f ▸ b) (rr_nb (by decide) hs)) (fun b => absurd (g ▸ b) (rr_nb (by decide) ht)))
theorem rx_access1 {post : Int32 → SX → Prop} {v1 v2 v3 v4 : Int32} (hn : nr ≤ 12) (h1 : ¬ rr_bad (4 + nr) v1) (h2 : ¬ rr_bad 12 v2) (h3 : ¬ rr_bad 2 v3) (hc : nc = 16) (k : post (-2) ((nI nl), (nI ns), oc, (nI nr), (nI nc), vs, ss, cs, lt, lb, lf, sb, sf, so, rt, rv, ra, ap, av, af, aw)) : wpX_access post ((nI nl), (nI ns), oc, (nI nr), (nI nc), vs, ss, cs, lt, lb, lf, sb, sf, so, rt, rv, ra, ap, av, af, aw) v1 v2 v3 v4 := by
  unfold wpX_access
  refine rx_isP hn (fun b => absurd b h1) (fun _ _ _ => br_f (by decide) ?_)
  refine rx_isV (fun b => absurd b h2) (fun _ _ _ => br_f (by decide) ?_)
  exact rx_isF (fun b => absurd b h3) (fun _ _ _ => br_f (by decide) (br_f (nI_nlt (b := 16) (by omega) (by omega)) k))
theorem rx_access {post : Int32 → SX → Prop} {v1 v2 v3 v4 : Int32} (hn : nr ≤ 12) (h1 : ¬ rr_bad (4 + nr) v1) (h2 : ¬ rr_bad 12 v2) (h3 : ¬ rr_bad 2 v3) (hc : nc < 16) (k : post (nI (nc + 1) - 1) ((nI nl), (nI ns), oc, (nI nr), nI (nc + 1), vs, ss, cs, lt, lb, lf, sb, sf, so, rt, rv, ra, upd ap nc v1, upd av nc v2, upd af nc v3, upd aw nc (vp_nar .boolean v4))) : wpX_access post ((nI nl), (nI ns), oc, (nI nr), (nI nc), vs, ss, cs, lt, lb, lf, sb, sf, so, rt, rv, ra, ap, av, af, aw) v1 v2 v3 v4 := by
  have ej : (nI nc).toNatClampNeg = nc := nI_clamp (by omega)
  have hln : vp_in (nI nc) 16 := vp_in_nI hc (by decide)
  unfold wpX_access
  refine rx_isP hn (fun b => absurd b h1) (fun _ _ _ => br_f (by decide) ?_)
  refine rx_isV (fun b => absurd b h2) (fun _ _ _ => br_f (by decide) ?_)
  refine rx_isF (fun b => absurd b h3) (fun _ _ _ => br_f (by decide) (br_t (nI_lt (b := 16) (by omega) (by omega)) ?_))
  rw [ej]
  exact ⟨hln, nm_e ⟨hln, nm_e ⟨hln, nm_e ⟨hln, nm_e (nm_r (nI_1 nc) k)⟩⟩⟩⟩
theorem ry_access0 {post : Int32 → SY → Prop} {v1 v2 v3 v4 : Int32} (hn : nr ≤ 12) (hb : rr_bad (4 + nr) v1 ∨ rr_bad 12 v2 ∨ rr_bad 2 v3) (k : post (-1) ((nI nl), (nI ns), (nI nr), (nI nc), kn, al, cs, lt, lb, lf, sb, so, sf, sg, rt, rv, ra, ap, av, af, aw, p, h, sp, rch)) : wpY_access post ((nI nl), (nI ns), (nI nr), (nI nc), kn, al, cs, lt, lb, lf, sb, so, sf, sg, rt, rv, ra, ap, av, af, aw, p, h, sp, rch) v1 v2 v3 v4 := by
  unfold wpY_access
  refine ry_bP hn (fun _ => br_f (by decide) k) (fun j hj e => br_t rfl ?_)
  refine ry_bV (fun _ => br_f (by decide) k) (fun s hs f => br_t rfl ?_)
  refine ry_bF (fun _ => br_f (by decide) k) (fun t ht g => ?_)
  exact hb.elim (fun b => absurd (e ▸ b) (rr_nb (by omega) hj)) (fun b => b.elim (fun b => absurd (f ▸ b) (rr_nb (by decide) hs)) (fun b => absurd (g ▸ b) (rr_nb (by decide) ht)))
theorem ry_access1 {post : Int32 → SY → Prop} {v1 v2 v3 v4 : Int32} (hn : nr ≤ 12) (h1 : ¬ rr_bad (4 + nr) v1) (h2 : ¬ rr_bad 12 v2) (h3 : ¬ rr_bad 2 v3) (hc : nc = 16) (k : post (-2) ((nI nl), (nI ns), (nI nr), (nI nc), kn, al, cs, lt, lb, lf, sb, so, sf, sg, rt, rv, ra, ap, av, af, aw, p, h, sp, rch)) : wpY_access post ((nI nl), (nI ns), (nI nr), (nI nc), kn, al, cs, lt, lb, lf, sb, so, sf, sg, rt, rv, ra, ap, av, af, aw, p, h, sp, rch) v1 v2 v3 v4 := by
  unfold wpY_access
  refine ry_bP hn (fun b => absurd b h1) (fun _ _ _ => br_t rfl ?_)
  refine ry_bV (fun b => absurd b h2) (fun _ _ _ => br_t rfl ?_)
  exact ry_bF (fun b => absurd b h3) (fun _ _ _ => br_t rfl (br_t (by rw [hc]; rfl) k))
theorem ry_access {post : Int32 → SY → Prop} {v1 v2 v3 v4 : Int32} (hn : nr ≤ 12) (h1 : ¬ rr_bad (4 + nr) v1) (h2 : ¬ rr_bad 12 v2) (h3 : ¬ rr_bad 2 v3) (hc : nc < 16) (k : post (nI (nc + 1) - 1) ((nI nl), (nI ns), (nI nr), nI (nc + 1), kn, al, cs, lt, lb, lf, sb, so, sf, sg, rt, rv, ra, upd ap nc v1, upd av nc v2, upd af nc v3, upd aw nc (vp_nar .boolean v4), p, h, sp, rch)) : wpY_access post ((nI nl), (nI ns), (nI nr), (nI nc), kn, al, cs, lt, lb, lf, sb, so, sf, sg, rt, rv, ra, ap, av, af, aw, p, h, sp, rch) v1 v2 v3 v4 := by
  have ej : (nI nc).toNatClampNeg = nc := nI_clamp (by omega)
  have hln : vp_in (nI nc) 16 := vp_in_nI hc (by decide)
  unfold wpY_access
  refine ry_bP hn (fun b => absurd b h1) (fun _ _ _ => br_t rfl ?_)
  refine ry_bV (fun b => absurd b h2) (fun _ _ _ => br_t rfl ?_)
  refine ry_bF (fun b => absurd b h3) (fun _ _ _ => br_t rfl (br_f (fun z => absurd ((nI_eq (b := 16) (by omega) (by decide)).mp z) (by omega)) ?_))
  rw [ej]
  exact ⟨hln, nm_e ⟨hln, nm_e ⟨hln, nm_e ⟨hln, nm_e (nm_r (nI_1 nc) k)⟩⟩⟩⟩
theorem rr_vi {n : Nat} {v : Int32} (hn : n < 2 ^ 31) (h : ¬ rr_bad n v) : vp_in v n := by
  rcases rr_cs n v hn with b | ⟨j, hj, rfl⟩
  · exact absurd b h
  · exact vp_in_nI hj hn
theorem rr_vm {m n : Nat} {v : Int32} (h : vp_in v m) (hm : m ≤ n) : vp_in v n := by
  rw [vp_in_iff] at *
  omega
theorem rr_RS {v1 v2 v3 : Int32} (hn : nr < 12) (h1 : ¬ rr_bad 4 v1) (h2 : ¬ rr_bad 12 v2) (h3 : rr_in rt nr v1 v3) (R : rr_R rt rv ra nr) : rr_R (upd rt nr v1) (upd rv nr v2) (upd ra nr v3) (nr + 1) := by
  intro i hi
  by_cases e : i = nr
  · subst e
    rw [pk_us, pk_us, pk_us]
    refine ⟨rr_vi (by decide) h2, ?_, rr_vi (by decide) h1⟩
    rcases h3 with rfl | ⟨j, hj, rfl, _⟩
    · exact Or.inl (by decide)
    · exact Or.inr (vp_in_nI (by omega) (by omega))
  · rw [pk_un e, pk_un e, pk_un e]
    obtain ⟨a, b, c⟩ := R i (by omega)
    exact ⟨a, b.elim Or.inl (fun b => Or.inr (rr_vm b (by omega))), c⟩
theorem rr_AR (A : rr_A ap av nr nc) : rr_A ap av (nr + 1) nc := fun i hi => ⟨rr_vm (A i hi).1 (by omega), (A i hi).2⟩
theorem rr_AS {v1 v2 : Int32} (hn : nr ≤ 12) (h1 : ¬ rr_bad (4 + nr) v1) (h2 : ¬ rr_bad 12 v2) (A : rr_A ap av nr nc) : rr_A (upd ap nc v1) (upd av nc v2) nr (nc + 1) := by
  intro i hi
  by_cases e : i = nc
  · subst e
    rw [pk_us, pk_us]
    exact ⟨rr_vi (by omega) h1, rr_vi (by decide) h2⟩
  · rw [pk_un e, pk_un e]
    exact A i (by omega)
theorem rx_pt {post : Int32 → Prop} {j : Nat} (hj : j < 12) (k : post (vs j)) : wpX_pointsTo post ((nI nl), (nI ns), oc, (nI nr), (nI nc), vs, ss, cs, lt, lb, lf, sb, sf, so, rt, rv, ra, ap, av, af, aw) (nI j) := by
  unfold wpX_pointsTo
  refine rx_isV (fun b => absurd b (rr_nb (by decide) hj)) (fun _ _ _ => br_f (by decide) ⟨vp_in_nI hj (by decide), ?_⟩)
  rw [nI_clamp (by omega)]
  exact k
theorem rx_pt0 {post : Int32 → Prop} {v : Int32} (hb : rr_bad 12 v) (k : post (-1)) : wpX_pointsTo post ((nI nl), (nI ns), oc, (nI nr), (nI nc), vs, ss, cs, lt, lb, lf, sb, sf, so, rt, rv, ra, ap, av, af, aw) v := by
  unfold wpX_pointsTo
  exact rx_isV (fun _ => br_t rfl k) (fun j hj e => absurd (e ▸ hb) (rr_nb (by decide) hj))
theorem ry_pt0 {post : Int32 → SY → Prop} {v : Int32} (hb : rr_bad 12 v) (k : post (-1) ((nI nl), (nI ns), (nI nr), (nI nc), kn, al, cs, lt, lb, lf, sb, so, sf, sg, rt, rv, ra, ap, av, af, aw, p, h, sp, rch)) : wpY_pointsTo post ((nI nl), (nI ns), (nI nr), (nI nc), kn, al, cs, lt, lb, lf, sb, so, sf, sg, rt, rv, ra, ap, av, af, aw, p, h, sp, rch) v := by
  unfold wpY_pointsTo
  exact ry_bV (fun _ => br_f (by decide) k) (fun j hj e => absurd (e ▸ hb) (rr_nb (by decide) hj))
theorem ry_pt {post : Int32 → SY → Prop} {j : Nat} (hj : j < 12) (hl : nl ≤ 20) (hs : ns ≤ 20) (hL : rg_RL lt lb lf nl) (hS : rg_RL so sb sf ns)
    (K : kn ≠ 0 → rg_Eq 12 vs p ∧ rg_Eq 16 ss h) (L : rg_Le (rg_Cl al cs lt lb lf sb sf so nl ns) vs ss)
    (k : ∀ kn p h, kn ≠ 0 → rg_Eq 12 vs p → rg_Eq 16 ss h → post (vs j) ((nI nl), (nI ns), (nI nr), (nI nc), kn, al, cs, lt, lb, lf, sb, so, sf, sg, rt, rv, ra, ap, av, af, aw, p, h, sp, rch)) : wpY_pointsTo post ((nI nl), (nI ns), (nI nr), (nI nc), kn, al, cs, lt, lb, lf, sb, so, sf, sg, rt, rv, ra, ap, av, af, aw, p, h, sp, rch) (nI j) := by
  unfold wpY_pointsTo
  refine ry_bV (fun b => absurd b (rr_nb (by decide) hj)) (fun _ _ _ => br_t rfl ?_)
  refine ry_work hl hs hL hS K L (fun kn p h z e f => ⟨vp_in_nI hj (by decide), ?_⟩)
  rw [nI_clamp (by omega), e j hj]
  exact k kn p h z e f
theorem rx_ho {post : Int32 → Prop} {s f : Nat} (hs : s < 8) (hf : f < 2) (k : post (ss (s * 2 + f))) : wpX_holds post ((nI nl), (nI ns), oc, (nI nr), (nI nc), vs, ss, cs, lt, lb, lf, sb, sf, so, rt, rv, ra, ap, av, af, aw) (nI s) (nI f) := by
  have es := rg_slot (s := s) (y := nI f) hs (vp_in_nI hf (by decide))
  rw [nI_clamp (show f < 2 ^ 31 by omega)] at es
  unfold wpX_holds
  refine rx_isS (fun b => absurd b (rr_nb (by decide) hs)) (fun _ _ _ => br_f (by decide) ?_)
  refine rx_isF (fun b => absurd b (rr_nb (by decide) hf)) (fun _ _ _ => br_f (by decide) ⟨es.1, ?_⟩)
  rw [es.2]
  exact k
theorem rx_ho0 {post : Int32 → Prop} {v1 v2 : Int32} (hb : rr_bad 8 v1 ∨ rr_bad 2 v2) (k : post (-1)) : wpX_holds post ((nI nl), (nI ns), oc, (nI nr), (nI nc), vs, ss, cs, lt, lb, lf, sb, sf, so, rt, rv, ra, ap, av, af, aw) v1 v2 := by
  unfold wpX_holds
  refine rx_isS (fun _ => br_t rfl k) (fun j hj e => br_f (by decide) ?_)
  refine rx_isF (fun _ => br_t rfl k) (fun s hs f => ?_)
  exact hb.elim (fun b => absurd (e ▸ b) (rr_nb (by decide) hj)) (fun b => absurd (f ▸ b) (rr_nb (by decide) hs))
theorem ry_ho0 {post : Int32 → SY → Prop} {v1 v2 : Int32} (hb : rr_bad 8 v1 ∨ rr_bad 2 v2) (k : post (-1) ((nI nl), (nI ns), (nI nr), (nI nc), kn, al, cs, lt, lb, lf, sb, so, sf, sg, rt, rv, ra, ap, av, af, aw, p, h, sp, rch)) : wpY_holds post ((nI nl), (nI ns), (nI nr), (nI nc), kn, al, cs, lt, lb, lf, sb, so, sf, sg, rt, rv, ra, ap, av, af, aw, p, h, sp, rch) v1 v2 := by
  unfold wpY_holds
  refine br_c (fun _ => k) (fun z => br_c (fun _ => k) (fun y => ?_))
  refine ry_bF (fun _ => br_f (by decide) k) (fun s hs f => ?_)
  refine hb.elim (fun b => ?_) (fun b => absurd (f ▸ b) (rr_nb (by decide) hs))
  rcases b with b | b
  · exact absurd b z
  · exact absurd (Int32.not_lt.mp y) (rr_gt b (by decide))
theorem ry_ho {post : Int32 → SY → Prop} {s f : Nat} (hs : s < 8) (hf : f < 2) (hl : nl ≤ 20) (hn : ns ≤ 20) (hL : rg_RL lt lb lf nl) (hS : rg_RL so sb sf ns)
    (K : kn ≠ 0 → rg_Eq 12 vs p ∧ rg_Eq 16 ss h) (L : rg_Le (rg_Cl al cs lt lb lf sb sf so nl ns) vs ss)
    (k : ∀ kn p h, kn ≠ 0 → rg_Eq 12 vs p → rg_Eq 16 ss h → post (ss (s * 2 + f)) ((nI nl), (nI ns), (nI nr), (nI nc), kn, al, cs, lt, lb, lf, sb, so, sf, sg, rt, rv, ra, ap, av, af, aw, p, h, sp, rch)) : wpY_holds post ((nI nl), (nI ns), (nI nr), (nI nc), kn, al, cs, lt, lb, lf, sb, so, sf, sg, rt, rv, ra, ap, av, af, aw, p, h, sp, rch) (nI s) (nI f) := by
  have es := rg_slot (s := s) (y := nI f) hs (vp_in_nI hf (by decide))
  rw [nI_clamp (show f < 2 ^ 31 by omega)] at es
  unfold wpY_holds
  refine br_f (nI_pos (by omega)) (br_f (nI_nlt (a := 7) (by omega) (by decide)) ?_)
  refine ry_bF (fun b => absurd b (rr_nb (by decide) hf)) (fun _ _ _ => br_t rfl ?_)
  refine ry_work hl hn hL hS K L (fun kn p h z e g => ⟨es.1, ?_⟩)
  rw [es.2, g _ (by omega)]
  exact k kn p h z e g
end
