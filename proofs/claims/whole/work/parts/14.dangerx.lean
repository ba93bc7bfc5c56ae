/-! ===== the component's danger ===== -/
def rd_rep (x : Int64) (P : Nat → Nat → Prop) : Prop := ∀ a b, a < 8 → b < 8 → (rf_l x (a * 8 + b) = true ↔ P a b)
theorem rd_rep0 {P : Nat → Nat → Prop} (h : ∀ a b, a < 8 → b < 8 → ¬ P a b) : rd_rep 0 P := fun a b ha hb => by
  rw [rf_l0]; exact ⟨fun z => absurd z (by decide), fun z => absurd z (h a b ha hb)⟩
theorem rd_repc {x : Int64} {P Q : Nat → Nat → Prop} (h : rd_rep x P) (e : ∀ a b, a < 8 → b < 8 → (P a b ↔ Q a b)) : rd_rep x Q := fun a b ha hb => (h a b ha hb).trans (e a b ha hb)
theorem rd_repor {x y : Int64} {P Q S : Nat → Nat → Prop} (h : rd_rep x P) (k : rd_rep y Q) (e : ∀ a b, a < 8 → b < 8 → ((P a b ∨ Q a b) ↔ S a b)) : rd_rep (x ||| y) S := fun a b ha hb => by
  rw [rf_lor, Bool.or_eq_true, h a b ha hb, k a b ha hb]; exact e a b ha hb
theorem rd_repand {x y : Int64} {P Q : Nat → Nat → Prop} (h : rd_rep x P) (k : rd_rep y Q) : rd_rep (x &&& y) (fun a b => P a b ∧ Q a b) := fun a b ha hb => by
  rw [rf_land, Bool.and_eq_true, h a b ha hb, k a b ha hb]
theorem rd_repput {y : Int32} (hy : rf_b8 y) {s : Nat} (hs : s < 8) : rd_rep (y.toInt64 <<< ((nI s * 8).toInt64 &&& 63)) (fun a b => a = s ∧ bt y b = true) := fun a b ha hb => by
  rw [rf_put y hy s a b hs ha hb, Bool.and_eq_true, decide_eq_true_eq]
theorem rd_tg {y oc : Int32} {s b : Nat} (hs : s < 8) (hb : b < 8) : bt (y &&& ((oc &&& ((1 : Int32) <<< (nI s &&& 31))) ^^^ (-1))) b = true ↔ (bt y b = true ∧ ¬ (s = b ∧ bt oc s = true)) := by
  rw [b_and, b_xor, b_m1 b (by omega), b_and, rf_one s (by omega), Bool.and_eq_true]
  by_cases e : b = s
  · subst e
    rw [decide_eq_true rfl]
    cases bt oc b <;> simp
  · rw [decide_eq_false e]
    have : ¬ s = b := fun q => e q.symm
    simp [this]
section
variable {nl ns nr nc : Nat} {oc : Int32} {vs ss cs lt lb lf sb sf so rt rv ra ap av af aw : Nat → Int32}
theorem rx_sb5 {post : Int64 → Prop} {x y : Int32} (hy : rf_b8 y) (hP : ∀ z, rd_rep z (fun a b => bt x a = true ∧ bt y b = true ∧ ¬ (a = b ∧ bt oc a = true)) → post z) :
    ∀ d s z, s + d = 8 → rd_rep z (fun a b => a < s ∧ bt x a = true ∧ bt y b = true ∧ ¬ (a = b ∧ bt oc a = true)) → wX_stepsBetween_5 post x y (nI nl) (nI ns) oc (nI nr) (nI nc) vs ss cs lt lb lf sb sf so rt rv ra ap av af aw (d + 1) z (nI s) := by
  intro d
  induction d with
  | zero =>
    intro s z hs hz
    obtain rfl : s = 8 := by omega
    exact br_t (by decide) (hP z (rd_repc hz (fun a b ha hb => ⟨fun q => q.2, fun q => ⟨ha, q⟩⟩)))
  | succ d ih =>
    intro s z hs hz
    refine br_f (nI_ge (b := 8) (by omega) (by decide)) ?_
    refine rx_has _ _ s (by omega) (fun hb => br_t rfl (nm_r (nI_1 s) (ih (s + 1) z (by omega) (rd_repc hz (fun a b _ _ => ?_))))) (fun hb => br_f (by decide) (nm_e (nm_e (nm_r (nI_1 s) (ih (s + 1) _ (by omega) (rd_repor hz (rd_repput (rf_b8and hy) (by omega)) (fun a b ha hb' => ?_)))))))
    · constructor
      · rintro ⟨q, r⟩; exact ⟨by omega, r⟩
      · rintro ⟨q, r⟩
        refine ⟨?_, r⟩
        by_cases e : a = s
        · rw [e, hb] at r; exact absurd r.1 (by decide)
        · omega
    · rw [rd_tg (by omega) hb']
      constructor
      · rintro (⟨q, r⟩ | ⟨rfl, r⟩)
        · exact ⟨by omega, r⟩
        · exact ⟨by omega, hb, r⟩
      · rintro ⟨q, r⟩
        by_cases e : a = s
        · subst e; exact Or.inr ⟨rfl, r.2⟩
        · exact Or.inl ⟨by omega, r⟩
theorem rx_sb {post : Int64 → Prop} {x y : Int32} (hy : rf_b8 y) (hP : ∀ z, rd_rep z (fun a b => bt x a = true ∧ bt y b = true ∧ ¬ (a = b ∧ bt oc a = true)) → post z) : wpX_stepsBetween post ((nI nl), (nI ns), oc, (nI nr), (nI nc), vs, ss, cs, lt, lb, lf, sb, sf, so, rt, rv, ra, ap, av, af, aw) x y :=
  ⟨9, rx_sb5 hy hP 8 0 0 rfl (rd_rep0 (fun a b _ _ q => absurd q.1 (Nat.not_lt_zero a)))⟩
theorem rx_si26 {post : Int64 → Prop} {r : Nat} (hn : nr ≤ 12) (hr : r < nr) (R : rr_R rt rv ra nr) (B : rg_B8 12 vs) (hP : ∀ z, rd_rep z (fun a b => rh_A (rd_E vs rv oc r b) ra (ra r) 12 a) → post z) :
    ∀ d k z, k + d = 12 → rd_rep z (fun a b => rh_A (rd_E vs rv oc r b) ra (ra r) k a) → wX_stepsInto_26 post (vs (rv r).toNatClampNeg) (nI nl) (nI ns) oc (nI nr) (nI nc) vs ss cs lt lb lf sb sf so rt rv ra ap av af aw (d + 1) z (rh_it ra (ra r) k) (nI k) := by
  have br := B _ (rg_lt (R r hr).1 (by decide))
  intro d
  induction d with
  | zero =>
    intro k z hk hz
    obtain rfl : k = 12 := by omega
    exact br_t (by decide) (hP z hz)
  | succ d ih =>
    intro k z hk hz
    refine br_f (nI_ge (b := 12) (by omega) (by decide)) (br_c (fun y => hP z (rd_repc hz (fun a b _ _ => (rh_AN y (by omega)).symm))) (fun y => ?_))
    have hr' := (rh_itr R hn (R r hr).2.1 k).resolve_left y
    obtain ⟨i, hi, e⟩ := vp_in_of hr' (by omega)
    have ei : (nI i).toNatClampNeg = i := nI_clamp (by omega)
    have hin : vp_in (nI i) 12 := vp_in_nI (by omega) (by decide)
    have e1 : ra i = rh_it ra (ra r) (k + 1) := by
      show _ = if rh_it ra (ra r) k < 0 then rh_it ra (ra r) k else ra (rh_it ra (ra r) k).toNatClampNeg
      rw [if_neg y, e, ei]
    rw [e, ei]
    refine ⟨hin, (R i hi).1, rx_sb br (fun w hw => nm_e ⟨hin, nm_r e1 (nm_r (nI_1 k) (ih (k + 1) _ (by omega) (rd_repor hz hw (fun a b _ _ => ?_))))⟩)⟩
    rw [rh_AS y, e, ei]
    exact Iff.rfl
theorem rx_si {post : Int64 → Prop} {r : Nat} (hn : nr ≤ 12) (hr : r < nr) (R : rr_R rt rv ra nr) (B : rg_B8 12 vs) (hP : ∀ z, rd_rep z (fun a b => rh_A (rd_E vs rv oc r b) ra (ra r) 12 a) → post z) : wpX_stepsInto post ((nI nl), (nI ns), oc, (nI nr), (nI nc), vs, ss, cs, lt, lb, lf, sb, sf, so, rt, rv, ra, ap, av, af, aw) (nI r) := by
  have hin : vp_in (nI r) 12 := vp_in_nI (by omega) (by decide)
  unfold wpX_stepsInto
  rw [nI_clamp (show r < 2 ^ 31 by omega)]
  exact ⟨hin, (R r hr).1, nm_e ⟨hin, nm_e ⟨13, rx_si26 hn hr R B hP 12 0 0 rfl (rd_rep0 (fun a b _ _ => rh_A0))⟩⟩⟩
theorem rx_by5 {post : Int64 → Prop} {q : Nat} (hn : nr ≤ 12) (R : rr_R rt rv ra nr) (B : rg_B8 12 vs) (hP : ∀ z, rd_rep z (rd_T vs rv ra rt oc nr q) → post z) :
    ∀ d r z, r + d = nr → rd_rep z (rd_T vs rv ra rt oc r q) → wX_stepsBy_5 post (nI q) (nI nl) (nI ns) oc (nI nr) (nI nc) vs ss cs lt lb lf sb sf so rt rv ra ap av af aw (d + 1) z (nI r) := by
  intro d
  induction d with
  | zero =>
    intro r z hr hz
    obtain rfl : r = nr := by omega
    exact br_t (nI_le (Nat.le_refl _) (by omega)) (hP z hz)
  | succ d ih =>
    intro r z hr hz
    have er : (nI r).toNatClampNeg = r := nI_clamp (by omega)
    refine br_f (nI_ge (by omega) (by omega)) ⟨vp_in_nI (by omega) (by decide), ?_⟩
    rw [er]
    refine br_c (fun e => rx_si hn (by omega) R B (fun w hw => nm_e (nm_r (nI_1 r) (ih (r + 1) _ (by omega) (rd_repor hz hw (fun a b _ _ => ?_)))))) (fun e => nm_r (nI_1 r) (ih (r + 1) z (by omega) (rd_repc hz (fun a b _ _ => ?_))))
    · constructor
      · rintro (⟨r', h, x⟩ | x)
        · exact ⟨r', by omega, x⟩
        · exact ⟨r, by omega, e, x⟩
      · rintro ⟨r', h, x, y⟩
        by_cases c : r' = r
        · subst c; exact Or.inr y
        · exact Or.inl ⟨r', by omega, x, y⟩
    · constructor
      · rintro ⟨r', h, x⟩
        exact ⟨r', by omega, x⟩
      · rintro ⟨r', h, x, y⟩
        by_cases c : r' = r
        · subst c; exact absurd x e
        · exact ⟨r', by omega, x, y⟩
theorem rx_by {post : Int64 → Prop} {q : Nat} (hn : nr ≤ 12) (R : rr_R rt rv ra nr) (B : rg_B8 12 vs) (hP : ∀ z, rd_rep z (rd_T vs rv ra rt oc nr q) → post z) : wpX_stepsBy post ((nI nl), (nI ns), oc, (nI nr), (nI nc), vs, ss, cs, lt, lb, lf, sb, sf, so, rt, rv, ra, ap, av, af, aw) (nI q) :=
  ⟨nr + 1, rx_by5 hn R B hP nr 0 0 (by omega) (rd_rep0 (fun a b _ _ ⟨r, h, _⟩ => absurd h (Nat.not_lt_zero r)))⟩
theorem rx_row {post : Int32 → Prop} {z : Int64} {s : Nat} {P : Nat → Nat → Prop} (hs : s < 8) (hz : rd_rep z P) (k : ∀ m, rf_b8 m → (∀ i, i < 8 → (bt m i = true ↔ P s i)) → post m) : wpX_row post ((nI nl), (nI ns), oc, (nI nr), (nI nc), vs, ss, cs, lt, lb, lf, sb, sf, so, rt, rv, ra, ap, av, af, aw) z (nI s) := by
  refine k _ (fun i hi => ?_) (fun i hi => ?_)
  · rw [rf_row z s hs, decide_eq_false (by omega)]; rfl
  · rw [rf_row z s hs, decide_eq_true hi, Bool.true_and]; exact hz s i hs hi
theorem rx_c25 {post : Int64 → Prop} {J : Int64 → Int32 → Prop} {P : Nat → Nat → Prop} {k : Nat} {y : Int32} (hk : k < 8) (hy : rf_b8 y) (hy' : ∀ i, i < 8 → (bt y i = true ↔ rd_W P k k i)) (hJ : ∀ z, rd_rep z (rd_W P (k + 1)) → J z (nI (k + 1))) :
    ∀ d s z, s + d = 8 → rd_rep z (fun a b => rd_W P k a b ∨ (a < s ∧ rd_W P k a k ∧ rd_W P k k b)) → wX_closure_25 post J (nI k) y.toInt64 (nI nl) (nI ns) oc (nI nr) (nI nc) vs ss cs lt lb lf sb sf so rt rv ra ap av af aw (d + 1) z (nI s) := by
  intro d
  induction d with
  | zero =>
    intro s z hs hz
    obtain rfl : s = 8 := by omega
    refine br_t (by decide) (nm_r (nI_1 k) (hJ z (rd_repc hz (fun a b ha _ => ?_))))
    constructor
    · rintro (q | q)
      · exact Or.inl q
      · exact Or.inr q.2
    · rintro (q | q)
      · exact Or.inl q
      · exact Or.inr ⟨ha, q⟩
  | succ d ih =>
    intro s z hs hz
    have hs' : s < 8 := by omega
    refine br_f (nI_ge (b := 8) (by omega) (by decide)) ?_
    refine rx_row hs' hz (fun m _ hm => ?_)
    have hsk : bt m k = true ↔ rd_W P k s k := by
      rw [hm k hk]
      exact ⟨fun q => q.elim id (fun q => q.2.1), Or.inl⟩
    refine rx_has _ _ k (by omega) (fun hb => br_t rfl (nm_r (nI_1 s) (ih (s + 1) z (by omega) (rd_repc hz (fun a b _ _ => ?_))))) (fun hb => br_f (by decide) (nm_e (nm_r (nI_1 s) (ih (s + 1) _ (by omega) (rd_repor hz (rd_repput hy hs') (fun a b ha hb' => ?_))))))
    · constructor
      · rintro (q | ⟨q, r⟩)
        · exact Or.inl q
        · exact Or.inr ⟨by omega, r⟩
      · rintro (q | ⟨q, r⟩)
        · exact Or.inl q
        · by_cases e : a = s
          · subst e
            rw [hsk.mpr r.1] at hb
            exact absurd hb (by decide)
          · exact Or.inr ⟨by omega, r⟩
    · rw [hy' b hb']
      constructor
      · rintro ((q | ⟨q, r⟩) | ⟨rfl, q⟩)
        · exact Or.inl q
        · exact Or.inr ⟨by omega, r⟩
        · exact Or.inr ⟨by omega, hsk.mp hb, q⟩
      · rintro (q | ⟨q, r⟩)
        · exact Or.inl (Or.inl q)
        · by_cases e : a = s
          · exact Or.inr ⟨e, r.2⟩
          · exact Or.inl (Or.inr ⟨by omega, r⟩)
theorem rx_c5 {post : Int64 → Prop} {P : Nat → Nat → Prop} (hP : ∀ z, rd_rep z (rd_W P 8) → post z) :
    ∀ d k z, k + d = 8 → rd_rep z (rd_W P k) → wX_closure_5 post (nI nl) (nI ns) oc (nI nr) (nI nc) vs ss cs lt lb lf sb sf so rt rv ra ap av af aw (d + 1) z (nI k) := by
  intro d
  induction d with
  | zero =>
    intro k z hk hz
    obtain rfl : k = 8 := by omega
    exact br_t (by decide) (hP z hz)
  | succ d ih =>
    intro k z hk hz
    refine br_f (nI_ge (b := 8) (by omega) (by decide)) ?_
    refine rx_row (show k < 8 by omega) hz (fun m h1 hm => ⟨9, ?_⟩)
    exact rx_c25 (by omega) h1 hm (fun z hz => ih (k + 1) z (by omega) hz) 8 0 z rfl (rd_repc hz (fun a b _ _ => ⟨Or.inl, fun q => q.elim id (fun q => absurd q.1 (Nat.not_lt_zero a))⟩))
theorem rx_clo {post : Int64 → Prop} {P : Nat → Nat → Prop} {z : Int64} (hz : rd_rep z P) (hP : ∀ z, rd_rep z (rd_W P 8) → post z) : wpX_closure post ((nI nl), (nI ns), oc, (nI nr), (nI nc), vs, ss, cs, lt, lb, lf, sb, sf, so, rt, rv, ra, ap, av, af, aw) z := ⟨9, rx_c5 hP 8 0 z rfl hz⟩
theorem rx_t15 {post : Int64 → Prop} {J : Int64 → Int32 → Prop} {x : Int64} {P : Nat → Nat → Prop} {s : Nat} (hs : s < 8) (hx : rd_rep x P) (hJ : ∀ z, rd_rep z (fun a b => b < s + 1 ∧ P b a) → J z (nI (s + 1))) :
    ∀ d t z, t + d = 8 → rd_rep z (fun a b => (b < s ∨ (b = s ∧ a < t)) ∧ P b a) → wX_transpose_15 post J x (nI s) (nI nl) (nI ns) oc (nI nr) (nI nc) vs ss cs lt lb lf sb sf so rt rv ra ap av af aw (d + 1) z (nI t) := by
  intro d
  induction d with
  | zero =>
    intro t z ht hz
    obtain rfl : t = 8 := by omega
    exact br_t (by decide) (nm_r (nI_1 s) (hJ z (rd_repc hz (fun a b ha _ => ⟨fun q => ⟨by omega, q.2⟩, fun q => ⟨by omega, q.2⟩⟩))))
  | succ d ih =>
    intro t z ht hz
    have ht' : t < 8 := by omega
    refine br_f (nI_ge (b := 8) (by omega) (by decide)) (nm_e (nm_r (nI_1 t) (ih (t + 1) _ (by omega) (fun a b ha hb => ?_))))
    rw [rf_lor, Bool.or_eq_true, hz a b ha hb, rf_tr x s t a b hs ht' ha hb, Bool.and_eq_true, decide_eq_true_eq, hx s t hs ht']
    constructor
    · rintro (⟨q, r⟩ | ⟨⟨rfl, rfl⟩, r⟩)
      · exact ⟨by omega, r⟩
      · exact ⟨by omega, r⟩
    · rintro ⟨q, r⟩
      by_cases e : a = t ∧ b = s
      · obtain ⟨rfl, rfl⟩ := e
        exact Or.inr ⟨⟨rfl, rfl⟩, r⟩
      · exact Or.inl ⟨by omega, r⟩
theorem rx_t5 {post : Int64 → Prop} {x : Int64} {P : Nat → Nat → Prop} (hx : rd_rep x P) (hP : ∀ z, rd_rep z (fun a b => P b a) → post z) :
    ∀ d s z, s + d = 8 → rd_rep z (fun a b => b < s ∧ P b a) → wX_transpose_5 post x (nI nl) (nI ns) oc (nI nr) (nI nc) vs ss cs lt lb lf sb sf so rt rv ra ap av af aw (d + 1) z (nI s) := by
  intro d
  induction d with
  | zero =>
    intro s z hs hz
    obtain rfl : s = 8 := by omega
    exact br_t (by decide) (hP z (rd_repc hz (fun a b _ hb => ⟨fun q => q.2, fun q => ⟨hb, q⟩⟩)))
  | succ d ih =>
    intro s z hs hz
    exact br_f (nI_ge (b := 8) (by omega) (by decide)) ⟨9, rx_t15 (by omega) hx (fun z hz => ih (s + 1) z (by omega) hz) 8 0 z rfl (rd_repc hz (fun a b _ _ => ⟨fun q => ⟨Or.inl q.1, q.2⟩, fun q => ⟨by omega, q.2⟩⟩))⟩
theorem rx_tr {post : Int64 → Prop} {x : Int64} {P : Nat → Nat → Prop} (hx : rd_rep x P) (hP : ∀ z, rd_rep z (fun a b => P b a) → post z) : wpX_transpose post ((nI nl), (nI ns), oc, (nI nr), (nI nc), vs, ss, cs, lt, lb, lf, sb, sf, so, rt, rv, ra, ap, av, af, aw) x :=
  ⟨9, rx_t5 hx hP 8 0 0 rfl (rd_rep0 (fun a b _ _ q => absurd q.1 (Nat.not_lt_zero b)))⟩
theorem rx_sa6 {post : Int32 → Prop} {x y : Int64} {P Q : Nat → Nat → Prop} (hx : rd_rep x P) (hy : rd_rep y Q) (hP : ∀ m, rf_b8 m → (∀ i, i < 8 → (bt m i = true ↔ ∃ s, s < 8 ∧ (∃ b, b < 8 ∧ P s b) ∧ Q s i)) → post m) :
    ∀ d s m, s + d = 8 → rf_b8 m → (∀ i, i < 8 → (bt m i = true ↔ ∃ a, a < s ∧ (∃ b, b < 8 ∧ P a b) ∧ Q a i)) → wX_sitesAlong_6 post x y (nI nl) (nI ns) oc (nI nr) (nI nc) vs ss cs lt lb lf sb sf so rt rv ra ap av af aw (d + 1) m (nI s) := by
  intro d
  induction d with
  | zero =>
    intro s m hs h8 hm
    obtain rfl : s = 8 := by omega
    exact br_t (by decide) (hP m h8 hm)
  | succ d ih =>
    intro s m hs h8 hm
    have hs' : s < 8 := by omega
    refine br_f (nI_ge (b := 8) (by omega) (by decide)) ?_
    refine rx_row hs' hx (fun w _ hw => br_c (fun z => nm_r (nI_1 s) (ih (s + 1) m (by omega) h8 (fun i hi => ?_))) (fun z => ?_))
    · rw [hm i hi]
      constructor
      · rintro ⟨a, ha, r⟩
        exact ⟨a, by omega, r⟩
      · rintro ⟨a, ha, ⟨b, hb, q⟩, r⟩
        by_cases e : a = s
        · subst e
          have := (hw b hb).mpr q
          rw [z, b_0] at this
          exact absurd this (by decide)
        · exact ⟨a, by omega, ⟨b, hb, q⟩, r⟩
    · have ex : ∃ b, b < 8 ∧ P s b := by
        refine Classical.byContradiction (fun n => z (b_ext (fun i _ => ?_)))
        rw [b_0]
        apply rf_nf
        intro q
        have hi := rf_b8lt (by assumption) q
        exact n ⟨i, hi, (hw i hi).mp q⟩
      refine rx_row hs' hy (fun w2 h2 hw2 => nm_e (nm_r (nI_1 s) (ih (s + 1) _ (by omega) (rf_b8or h8 h2) (fun i hi => ?_))))
      rw [b_or, Bool.or_eq_true, hm i hi, hw2 i hi]
      constructor
      · rintro (⟨a, ha, r⟩ | q)
        · exact ⟨a, by omega, r⟩
        · exact ⟨s, by omega, ex, q⟩
      · rintro ⟨a, ha, r⟩
        by_cases e : a = s
        · subst e; exact Or.inr r.2
        · exact Or.inl ⟨a, by omega, r⟩
theorem rx_sa {post : Int32 → Prop} {x y : Int64} {P Q : Nat → Nat → Prop} (hx : rd_rep x P) (hy : rd_rep y Q) (hP : ∀ m, rf_b8 m → (∀ i, i < 8 → (bt m i = true ↔ ∃ s, s < 8 ∧ (∃ b, b < 8 ∧ P s b) ∧ Q s i)) → post m) : wpX_sitesAlong post ((nI nl), (nI ns), oc, (nI nr), (nI nc), vs, ss, cs, lt, lb, lf, sb, sf, so, rt, rv, ra, ap, av, af, aw) x y :=
  ⟨9, rx_sa6 hx hy hP 8 0 0 rfl rf_b80 (fun i _ => by rw [b_0]; exact ⟨fun z => absurd z (by decide), fun ⟨a, h, _⟩ => absurd h (Nat.not_lt_zero a)⟩)⟩
theorem rx_d47 {post : Int32 → Prop} {c : Int64} (hn : nr ≤ 12) (R : rr_R rt rv ra nr) (B : rg_B8 12 vs) (hc : rd_rep c (rd_C (rd_R (rd_T vs rv ra rt oc nr))))
    (hP : ∀ m, rf_b8 m → (∀ i, i < 8 → (bt m i = true ↔ ∃ q1 q2, q1 < q2 ∧ q2 < 4 ∧ rd_U (rd_T vs rv ra rt oc nr) q1 i ∧ rd_U (rd_T vs rv ra rt oc nr) q2 i)) → post m) :
    ∀ d k m1 m2, k + d = 4 → rf_b8 m1 → rf_b8 m2 → (∀ i, i < 8 → (bt m1 i = true ↔ ∃ q, q < k ∧ rd_U (rd_T vs rv ra rt oc nr) q i)) → (∀ i, i < 8 → (bt m2 i = true ↔ ∃ q1 q2, q1 < q2 ∧ q2 < k ∧ rd_U (rd_T vs rv ra rt oc nr) q1 i ∧ rd_U (rd_T vs rv ra rt oc nr) q2 i)) → wX_danger_47 post c (nI nl) (nI ns) oc (nI nr) (nI nc) vs ss cs lt lb lf sb sf so rt rv ra ap av af aw (d + 1) m1 m2 (nI k) := by
  intro d
  induction d with
  | zero =>
    intro k m1 m2 hk b1 b2 h1 h2
    obtain rfl : k = 4 := by omega
    exact br_t (by decide) (hP m2 b2 h2)
  | succ d ih =>
    intro k m1 m2 hk b1 b2 h1 h2
    refine br_f (nI_ge (b := 4) (by omega) (by decide)) ?_
    refine rx_by hn R B (fun z hz => nm_e ?_)
    refine rx_sa (rd_repand hz hc) hc (fun m b hm => nm_e (nm_e (nm_r (nI_1 k) (ih (k + 1) _ _ (by omega) (rf_b8or b1 b) (rf_b8or b2 (rf_b8and b1)) (fun i hi => ?_) (fun i hi => ?_)))))
    · rw [b_or, Bool.or_eq_true, h1 i hi, hm i hi]
      constructor
      · rintro (⟨q, hq, u⟩ | u)
        · exact ⟨q, by omega, u⟩
        · exact ⟨k, by omega, u⟩
      · rintro ⟨q, hq, u⟩
        by_cases e : q = k
        · subst e; exact Or.inr u
        · exact Or.inl ⟨q, by omega, u⟩
    · rw [b_or, Bool.or_eq_true, h2 i hi, b_and, Bool.and_eq_true, h1 i hi, hm i hi]
      constructor
      · rintro (⟨q1, q2, l, hq, u⟩ | ⟨⟨q, hq, u⟩, w⟩)
        · exact ⟨q1, q2, l, by omega, u⟩
        · exact ⟨q, k, hq, by omega, u, w⟩
      · rintro ⟨q1, q2, l, hq, u, w⟩
        by_cases e : q2 = k
        · subst e; exact Or.inr ⟨⟨q1, l, u⟩, w⟩
        · exact Or.inl ⟨q1, q2, l, by omega, u, w⟩
theorem rx_d4 {post : Int32 → Prop} (hn : nr ≤ 12) (R : rr_R rt rv ra nr) (B : rg_B8 12 vs)
    (hP : ∀ m, rf_b8 m → (∀ i, i < 8 → (bt m i = true ↔ ∃ q1 q2, q1 < q2 ∧ q2 < 4 ∧ rd_U (rd_T vs rv ra rt oc nr) q1 i ∧ rd_U (rd_T vs rv ra rt oc nr) q2 i)) → post m) :
    ∀ d k z, k + d = 4 → rd_rep z (fun a b => ∃ q, q < k ∧ rd_T vs rv ra rt oc nr q a b) → wX_danger_4 post (nI nl) (nI ns) oc (nI nr) (nI nc) vs ss cs lt lb lf sb sf so rt rv ra ap av af aw (d + 1) z (nI k) := by
  intro d
  induction d with
  | zero =>
    intro k z hk hz
    obtain rfl : k = 4 := by omega
    refine br_t (by decide) ?_
    refine rx_clo (P := rd_R (rd_T vs rv ra rt oc nr)) hz (fun y hy => ?_)
    refine rx_tr hy (fun w hw => nm_e ⟨5, ?_⟩)
    refine rx_d47 hn R B (rd_repand hy hw) hP 4 0 0 0 rfl rf_b80 rf_b80 (fun i _ => ?_) (fun i _ => ?_)
    · rw [b_0]; exact ⟨fun z => absurd z (by decide), fun ⟨q, h, _⟩ => absurd h (Nat.not_lt_zero q)⟩
    · rw [b_0]; exact ⟨fun z => absurd z (by decide), fun ⟨_, q, _, h, _⟩ => absurd h (Nat.not_lt_zero q)⟩
  | succ d ih =>
    intro k z hk hz
    refine br_f (nI_ge (b := 4) (by omega) (by decide)) ?_
    refine rx_by hn R B (fun w hw => nm_e (nm_r (nI_1 k) (ih (k + 1) _ (by omega) (rd_repor hz hw (fun a b _ _ => ?_)))))
    constructor
    · rintro (⟨q, hq, u⟩ | u)
      · exact ⟨q, by omega, u⟩
      · exact ⟨k, by omega, u⟩
    · rintro ⟨q, hq, u⟩
      by_cases e : q = k
      · subst e; exact Or.inr u
      · exact Or.inl ⟨q, by omega, u⟩
theorem rx_danger {post : Int32 → Prop} (hn : nr ≤ 12) (R : rr_R rt rv ra nr) (B : rg_B8 12 vs)
    (hP : ∀ m, rf_b8 m → (∀ i, i < 8 → (bt m i = true ↔ ∃ q1 q2, q1 < q2 ∧ q2 < 4 ∧ rd_U (rd_T vs rv ra rt oc nr) q1 i ∧ rd_U (rd_T vs rv ra rt oc nr) q2 i)) → post m) : wpX_danger post ((nI nl), (nI ns), oc, (nI nr), (nI nc), vs, ss, cs, lt, lb, lf, sb, sf, so, rt, rv, ra, ap, av, af, aw) :=
  ⟨5, rx_d4 hn R B hP 4 0 0 rfl (rd_rep0 (fun a b _ _ ⟨q, h, _⟩ => absurd h (Nat.not_lt_zero q)))⟩
end
