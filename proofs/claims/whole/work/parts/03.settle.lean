/-! ===== the component's settle ===== -/
abbrev rx_J : Type := Int32 → Int32 → Int32 → Int32 → Int32 → Int32 → Int32 → (Nat → Int32) → (Nat → Int32) → (Nat → Int32) → (Nat → Int32) → (Nat → Int32) → (Nat → Int32) → (Nat → Int32) → (Nat → Int32) → (Nat → Int32) → (Nat → Int32) → (Nat → Int32) → (Nat → Int32) → (Nat → Int32) → (Nat → Int32) → (Nat → Int32) → (Nat → Int32) → Prop
section
variable {nl ns nr nc : Nat} {oc : Int32} {vs ss cs lt lb lf sb sf so rt rv ra ap av af aw al : Nat → Int32}
theorem rx_has (post : Int32 → Prop) (x : Int32) (s : Nat) (hs : s < 32) (f : bt x s = false → post 0) (g : bt x s = true → post 1) : wpX_hasSite post ((nI nl), (nI ns), oc, (nI nr), (nI nc), vs, ss, cs, lt, lb, lf, sb, sf, so, rt, rv, ra, ap, av, af, aw) x (nI s) := rf_brX x s hs f g
theorem rx_growV (post : Int32 → SX → Prop) {v x : Int32} (hv : vp_in v 12) (k : post (x &&& (vs v.toNatClampNeg ^^^ (-1))) ((nI nl), (nI ns), oc, (nI nr), (nI nc), upd vs v.toNatClampNeg (vs v.toNatClampNeg ||| x), ss, cs, lt, lb, lf, sb, sf, so, rt, rv, ra, ap, av, af, aw)) : wpX_growVariable post ((nI nl), (nI ns), oc, (nI nr), (nI nc), vs, ss, cs, lt, lb, lf, sb, sf, so, rt, rv, ra, ap, av, af, aw) v x := ⟨hv, nm_e ⟨hv, hv, nm_r (by rw [rf_fr]) k⟩⟩
theorem rx_growS (post : Int32 → SX → Prop) {v x : Int32} (hv : vp_in v 16) (k : post (x &&& (ss v.toNatClampNeg ^^^ (-1))) ((nI nl), (nI ns), oc, (nI nr), (nI nc), vs, upd ss v.toNatClampNeg (ss v.toNatClampNeg ||| x), cs, lt, lb, lf, sb, sf, so, rt, rv, ra, ap, av, af, aw)) : wpX_growSlot post ((nI nl), (nI ns), oc, (nI nr), (nI nc), vs, ss, cs, lt, lb, lf, sb, sf, so, rt, rv, ra, ap, av, af, aw) v x := ⟨hv, nm_e ⟨hv, hv, nm_r (by rw [rf_fr]) k⟩⟩
theorem rx_c12 {E : Prop} {g0 : Int32} {p0 h0 : Nat → Int32} {post : Int32 → SX → Prop} {J4 : rx_J} {v : Nat} (hv : v < 12)
    (hJ : ∀ g p, rg_SI (rg_Cl al cs lt lb lf sb sf so nl ns) (E ∧ rg_Dn 12 (rg_Qc cs p0) (v + 1) 0) p0 h0 p ss → rg_G (g0 ||| g) p0 h0 p ss → J4 g (nI (v + 1)) (nI nl) (nI ns) oc (nI nr) (nI nc) p ss cs lt lb lf sb sf so rt rv ra ap av af aw) :
    ∀ d w g p, w + d = 12 → rg_SI (rg_Cl al cs lt lb lf sb sf so nl ns) (E ∧ rg_Dn 12 (rg_Qc cs p0) v w) p0 h0 p ss → rg_G (g0 ||| g) p0 h0 p ss → wX_spreadCopies_12 post J4 (nI v) (d + 1) g (nI w) (nI nl) (nI ns) oc (nI nr) (nI nc) p ss cs lt lb lf sb sf so rt rv ra ap av af aw := by
  intro d
  have ev : (nI v).toNatClampNeg = v := nI_clamp (by omega)
  induction d with
  | zero =>
    intro w g p hw S G
    obtain rfl : w = 12 := by omega
    exact br_t (by decide) (nm_r (nI_1 v) (hJ g p (rg_opn S fun a _ _ => ⟨a.1, rg_DnE a.2⟩) G))
  | succ d ih =>
    intro w g p hw S G
    have ew : (nI w).toNatClampNeg = w := nI_clamp (by omega)
    refine br_f (nI_ge (b := 12) (by omega) (by decide)) ⟨vp_in_nI hv (by decide), rf_brX _ w (by omega) (fun hb => ?_) (fun hb => ?_)⟩
    · rw [ev] at hb
      exact nm_r (nI_1 w) (ih (w + 1) g p (by omega) (rg_opn S fun a _ _ => ⟨a.1, rg_DnS a.2 (fun z => absurd z (by rw [hb]; decide))⟩) G)
    · rw [ev] at hb
      refine ⟨vp_in_nI (by omega) (by decide), rx_growV _ (vp_in_nI hv (by decide)) (nm_e (nm_r (nI_1 w) ?_))⟩
      rw [ev, ew]
      exact ih (w + 1) _ _ (by omega) (rg_opp S hv (S.2.2.1 w (by omega)) (fun P H hc wi => rf_subt (wi.1 w (by omega)) (hc.2.1 v w hv (by omega) hb)) (fun a q _ z => ⟨a.1, rg_DnS a.2 (fun _ => by rw [← q w (by omega)]; exact z)⟩)) (by rw [← Int32.or_assoc]; exact rg_Gp S.1 hv G)
theorem rx_c4 {E : Prop} {g0 : Int32} {p0 h0 : Nat → Int32} {post : Int32 → SX → Prop}
    (hP : ∀ g p, rg_SI (rg_Cl al cs lt lb lf sb sf so nl ns) (E ∧ rg_Dn 12 (rg_Qc cs p0) 12 0) p0 h0 p ss → rg_G (g0 ||| g) p0 h0 p ss → post g ((nI nl), (nI ns), oc, (nI nr), (nI nc), p, ss, cs, lt, lb, lf, sb, sf, so, rt, rv, ra, ap, av, af, aw)) :
    ∀ d v g p, v + d = 12 → rg_SI (rg_Cl al cs lt lb lf sb sf so nl ns) (E ∧ rg_Dn 12 (rg_Qc cs p0) v 0) p0 h0 p ss → rg_G (g0 ||| g) p0 h0 p ss → wX_spreadCopies_4 post (d + 1) g (nI v) (nI nl) (nI ns) oc (nI nr) (nI nc) p ss cs lt lb lf sb sf so rt rv ra ap av af aw := by
  intro d
  induction d with
  | zero =>
    intro v g p hv S G
    obtain rfl : v = 12 := by omega
    exact br_t (by decide) (hP g p S G)
  | succ d ih =>
    intro v g p hv S G
    exact br_f (nI_ge (b := 12) (by omega) (by decide)) ⟨13, rx_c12 (by omega) (fun g p S G => ih (v + 1) g p (by omega) S G) 12 0 g p rfl S G⟩
theorem rx_copies {E : Prop} {g0 : Int32} {p0 h0 p : Nat → Int32} {post : Int32 → SX → Prop}
    (S : rg_SI (rg_Cl al cs lt lb lf sb sf so nl ns) E p0 h0 p ss) (G : rg_G g0 p0 h0 p ss)
    (hP : ∀ g p, rg_SI (rg_Cl al cs lt lb lf sb sf so nl ns) (E ∧ rg_Dn 12 (rg_Qc cs p0) 12 0) p0 h0 p ss → rg_G (g0 ||| g) p0 h0 p ss → post g ((nI nl), (nI ns), oc, (nI nr), (nI nc), p, ss, cs, lt, lb, lf, sb, sf, so, rt, rv, ra, ap, av, af, aw)) :
    wpX_spreadCopies post ((nI nl), (nI ns), oc, (nI nr), (nI nc), p, ss, cs, lt, lb, lf, sb, sf, so, rt, rv, ra, ap, av, af, aw) :=
  ⟨13, rx_c4 hP 12 0 0 p rfl (rg_opn S fun a _ _ => ⟨a, rg_Dn0⟩) (by rw [Int32.or_zero]; exact G)⟩
theorem rx_l14 {E : Prop} {g0 : Int32} {p0 h0 : Nat → Int32} {post : Int32 → SX → Prop} {J4 : rx_J} {i : Nat} (hi : i < nl) (hn : nl ≤ 20) (hL : rg_RL lt lb lf nl)
    (hJ : ∀ g p, rg_SI (rg_Cl al cs lt lb lf sb sf so nl ns) (E ∧ rg_Dn 8 (rg_Ql lt lb lf p0 h0) (i + 1) 0) p0 h0 p ss → rg_G (g0 ||| g) p0 h0 p ss → J4 g (nI (i + 1)) (nI nl) (nI ns) oc (nI nr) (nI nc) p ss cs lt lb lf sb sf so rt rv ra ap av af aw) :
    ∀ d s g p, s + d = 8 → rg_SI (rg_Cl al cs lt lb lf sb sf so nl ns) (E ∧ rg_Dn 8 (rg_Ql lt lb lf p0 h0) i s) p0 h0 p ss → rg_G (g0 ||| g) p0 h0 p ss → wX_spreadLoads_14 post J4 (nI i) (d + 1) g (nI s) (nI nl) (nI ns) oc (nI nr) (nI nc) p ss cs lt lb lf sb sf so rt rv ra ap av af aw := by
  intro d
  have ei : (nI i).toNatClampNeg = i := nI_clamp (by omega)
  have hin : vp_in (nI i) 20 := vp_in_nI (by omega) (by decide)
  obtain ⟨r1, r2, r3⟩ := hL i hi
  have l1 := rg_lt r1 (by decide)
  have l2 := rg_lt r2 (by decide)
  have l3 := rg_lt r3 (by decide)
  induction d with
  | zero =>
    intro s g p hs S G
    obtain rfl : s = 8 := by omega
    exact br_t (by decide) (nm_r (nI_1 i) (hJ g p (rg_opn S fun a _ _ => ⟨a.1, rg_DnE a.2⟩) G))
  | succ d ih =>
    intro s g p hs S G
    have es := rg_slot (s := s) (by omega) r3
    refine br_f (nI_ge (b := 8) (by omega) (by decide)) ⟨hin, ?_⟩
    rw [ei]
    refine ⟨r2, rx_has _ _ s (by omega) (fun hb => ?_) (fun hb => ?_)⟩
    · exact br_t rfl (nm_r (nI_1 s) (ih (s + 1) g p (by omega) (rg_opn S fun a q _ => ⟨a.1, rg_DnS a.2 (fun z => absurd z (by rw [← q _ l2, hb]; decide))⟩) G))
    · refine br_f (by decide) ⟨hin, nm_e ⟨hin, es.1, rx_growV _ r1 (nm_e (nm_r (nI_1 s) ?_))⟩⟩
      rw [es.2]
      exact ih (s + 1) _ _ (by omega) (rg_opp S l1 (S.2.2.2.1 _ (by omega)) (fun P H hc wi => rf_subt (wi.2 _ (by omega)) (hc.2.2.1 i s hi (by omega) (wi.1 _ l2 _ hb))) (fun a q r z => ⟨a.1, rg_DnS a.2 (fun _ => by rw [← r _ (by omega)]; exact z)⟩)) (by rw [← Int32.or_assoc]; exact rg_Gp S.1 l1 G)
theorem rx_l4 {E : Prop} {g0 : Int32} {p0 h0 : Nat → Int32} {post : Int32 → SX → Prop} (hn : nl ≤ 20) (hL : rg_RL lt lb lf nl)
    (hP : ∀ g p, rg_SI (rg_Cl al cs lt lb lf sb sf so nl ns) (E ∧ rg_Dn 8 (rg_Ql lt lb lf p0 h0) nl 0) p0 h0 p ss → rg_G (g0 ||| g) p0 h0 p ss → post g ((nI nl), (nI ns), oc, (nI nr), (nI nc), p, ss, cs, lt, lb, lf, sb, sf, so, rt, rv, ra, ap, av, af, aw)) :
    ∀ d i g p, i + d = nl → rg_SI (rg_Cl al cs lt lb lf sb sf so nl ns) (E ∧ rg_Dn 8 (rg_Ql lt lb lf p0 h0) i 0) p0 h0 p ss → rg_G (g0 ||| g) p0 h0 p ss → wX_spreadLoads_4 post (d + 1) g (nI i) (nI nl) (nI ns) oc (nI nr) (nI nc) p ss cs lt lb lf sb sf so rt rv ra ap av af aw := by
  intro d
  induction d with
  | zero =>
    intro i g p hi S G
    obtain rfl : i = nl := by omega
    exact br_t (nI_le (Nat.le_refl _) (by omega)) (hP g p S G)
  | succ d ih =>
    intro i g p hi S G
    exact br_f (nI_ge (by omega) (by omega)) ⟨9, rx_l14 (by omega) hn hL (fun g p S G => ih (i + 1) g p (by omega) S G) 8 0 g p rfl S G⟩
theorem rx_loads {E : Prop} {g0 : Int32} {p0 h0 p : Nat → Int32} {post : Int32 → SX → Prop} (hn : nl ≤ 20) (hL : rg_RL lt lb lf nl)
    (S : rg_SI (rg_Cl al cs lt lb lf sb sf so nl ns) E p0 h0 p ss) (G : rg_G g0 p0 h0 p ss)
    (hP : ∀ g p, rg_SI (rg_Cl al cs lt lb lf sb sf so nl ns) (E ∧ rg_Dn 8 (rg_Ql lt lb lf p0 h0) nl 0) p0 h0 p ss → rg_G (g0 ||| g) p0 h0 p ss → post g ((nI nl), (nI ns), oc, (nI nr), (nI nc), p, ss, cs, lt, lb, lf, sb, sf, so, rt, rv, ra, ap, av, af, aw)) :
    wpX_spreadLoads post ((nI nl), (nI ns), oc, (nI nr), (nI nc), p, ss, cs, lt, lb, lf, sb, sf, so, rt, rv, ra, ap, av, af, aw) :=
  ⟨nl + 1, rx_l4 hn hL hP nl 0 0 p (by omega) (rg_opn S fun a _ _ => ⟨a, rg_Dn0⟩) (by rw [Int32.or_zero]; exact G)⟩
theorem rx_s14 {E : Prop} {g0 : Int32} {p0 h0 p : Nat → Int32} {post : Int32 → SX → Prop} {J4 : rx_J} {i : Nat} (hi : i < ns) (hn : ns ≤ 20) (hL : rg_RL so sb sf ns)
    (hJ : ∀ g h, rg_SI (rg_Cl al cs lt lb lf sb sf so nl ns) (E ∧ rg_Dn 8 (rg_Qs sb sf so p0 h0) (i + 1) 0) p0 h0 p h → rg_G (g0 ||| g) p0 h0 p h → J4 g (nI (i + 1)) (nI nl) (nI ns) oc (nI nr) (nI nc) p h cs lt lb lf sb sf so rt rv ra ap av af aw) :
    ∀ d s g h, s + d = 8 → rg_SI (rg_Cl al cs lt lb lf sb sf so nl ns) (E ∧ rg_Dn 8 (rg_Qs sb sf so p0 h0) i s) p0 h0 p h → rg_G (g0 ||| g) p0 h0 p h → wX_spreadStores_14 post J4 (nI i) (d + 1) g (nI s) (nI nl) (nI ns) oc (nI nr) (nI nc) p h cs lt lb lf sb sf so rt rv ra ap av af aw := by
  intro d
  have ei : (nI i).toNatClampNeg = i := nI_clamp (by omega)
  have hin : vp_in (nI i) 20 := vp_in_nI (by omega) (by decide)
  obtain ⟨r1, r2, r3⟩ := hL i hi
  have l1 := rg_lt r1 (by decide)
  have l2 := rg_lt r2 (by decide)
  have l3 := rg_lt r3 (by decide)
  induction d with
  | zero =>
    intro s g h hs S G
    obtain rfl : s = 8 := by omega
    exact br_t (by decide) (nm_r (nI_1 i) (hJ g h (rg_opn S fun a _ _ => ⟨a.1, rg_DnE a.2⟩) G))
  | succ d ih =>
    intro s g h hs S G
    have es := rg_slot (s := s) (by omega) r3
    refine br_f (nI_ge (b := 8) (by omega) (by decide)) ⟨hin, ?_⟩
    rw [ei]
    refine ⟨r2, rx_has _ _ s (by omega) (fun hb => ?_) (fun hb => ?_)⟩
    · exact br_t rfl (nm_r (nI_1 s) (ih (s + 1) g h (by omega) (rg_opn S fun a q _ => ⟨a.1, rg_DnS a.2 (fun z => absurd z (by rw [← q _ l2, hb]; decide))⟩) G))
    · refine br_f (by decide) ⟨hin, nm_e ⟨hin, r1, rx_growS _ es.1 (nm_e (nm_r (nI_1 s) ?_))⟩⟩
      rw [es.2]
      exact ih (s + 1) _ _ (by omega) (rg_oph S (by omega) (S.2.2.1 _ l1) (fun P H hc wi => rf_subt (wi.1 _ l1) (hc.2.2.2 i s hi (by omega) (wi.1 _ l2 _ hb))) (fun a q r z => ⟨a.1, rg_DnS a.2 (fun _ => by rw [← q _ l1]; exact z)⟩)) (by rw [← Int32.or_assoc]; exact rg_Gh S.2.1 (by omega) G)
theorem rx_s4 {E : Prop} {g0 : Int32} {p0 h0 p : Nat → Int32} {post : Int32 → SX → Prop} (hn : ns ≤ 20) (hL : rg_RL so sb sf ns)
    (hP : ∀ g h, rg_SI (rg_Cl al cs lt lb lf sb sf so nl ns) (E ∧ rg_Dn 8 (rg_Qs sb sf so p0 h0) ns 0) p0 h0 p h → rg_G (g0 ||| g) p0 h0 p h → post g ((nI nl), (nI ns), oc, (nI nr), (nI nc), p, h, cs, lt, lb, lf, sb, sf, so, rt, rv, ra, ap, av, af, aw)) :
    ∀ d i g h, i + d = ns → rg_SI (rg_Cl al cs lt lb lf sb sf so nl ns) (E ∧ rg_Dn 8 (rg_Qs sb sf so p0 h0) i 0) p0 h0 p h → rg_G (g0 ||| g) p0 h0 p h → wX_spreadStores_4 post (d + 1) g (nI i) (nI nl) (nI ns) oc (nI nr) (nI nc) p h cs lt lb lf sb sf so rt rv ra ap av af aw := by
  intro d
  induction d with
  | zero =>
    intro i g h hi S G
    obtain rfl : i = ns := by omega
    exact br_t (nI_le (Nat.le_refl _) (by omega)) (hP g h S G)
  | succ d ih =>
    intro i g h hi S G
    exact br_f (nI_ge (by omega) (by omega)) ⟨9, rx_s14 (by omega) hn hL (fun g h S G => ih (i + 1) g h (by omega) S G) 8 0 g h rfl S G⟩
theorem rx_stores {E : Prop} {g0 : Int32} {p0 h0 p h : Nat → Int32} {post : Int32 → SX → Prop} (hn : ns ≤ 20) (hL : rg_RL so sb sf ns)
    (S : rg_SI (rg_Cl al cs lt lb lf sb sf so nl ns) E p0 h0 p h) (G : rg_G g0 p0 h0 p h)
    (hP : ∀ g h, rg_SI (rg_Cl al cs lt lb lf sb sf so nl ns) (E ∧ rg_Dn 8 (rg_Qs sb sf so p0 h0) ns 0) p0 h0 p h → rg_G (g0 ||| g) p0 h0 p h → post g ((nI nl), (nI ns), oc, (nI nr), (nI nc), p, h, cs, lt, lb, lf, sb, sf, so, rt, rv, ra, ap, av, af, aw)) :
    wpX_spreadStores post ((nI nl), (nI ns), oc, (nI nr), (nI nc), p, h, cs, lt, lb, lf, sb, sf, so, rt, rv, ra, ap, av, af, aw) :=
  ⟨ns + 1, rx_s4 hn hL hP ns 0 0 h (by omega) (rg_opn S fun a _ _ => ⟨a, rg_Dn0⟩) (by rw [Int32.or_zero]; exact G)⟩
/-- the passes -/
theorem rx_set6 {post : SX → Prop} (hl : nl ≤ 20) (hs : ns ≤ 20) (hL : rg_RL lt lb lf nl) (hS : rg_RL so sb sf ns)
    (hP : ∀ p h, rg_Le (rg_Cl al cs lt lb lf sb sf so nl ns) p h → post ((nI nl), (nI ns), oc, (nI nr), (nI nc), p, h, cs, lt, lb, lf, sb, sf, so, rt, rv, ra, ap, av, af, aw)) :
    ∀ d k g p h, k + d = 225 → rg_B8 12 p → rg_B8 16 h → (∀ P H, rg_Cl al cs lt lb lf sb sf so nl ns P H → rg_Wi P H p h) → (∀ v, v < 12 → rf_sub (al v) (p v)) → (g = 0 → rg_Cl al cs lt lb lf sb sf so nl ns p h) → (g ≠ 0 → k ≤ rg_ct p 12 + rg_ct h 16) → wX_settle_6 post (d + 1) g (nI k) (nI nl) (nI ns) oc (nI nr) (nI nc) p h cs lt lb lf sb sf so rt rv ra ap av af aw := by
  intro d
  induction d with
  | zero =>
    intro k g p h hk b1 b2 wi a c0 c1
    obtain rfl : k = 225 := by omega
    refine br_t (by decide) (hP p h ⟨b1, b2, ?_, wi⟩)
    by_cases z : g = 0
    · exact c0 z
    · have x := c1 z
      have y := rg_ctle p 12
      have y' := rg_ctle h 16
      omega
  | succ d ih =>
    intro k g p h hk b1 b2 wi a c0 c1
    refine br_f (nI_ge (b := 225) (by omega) (by decide)) (br_c (fun z => hP p h ⟨b1, b2, c0 z, wi⟩) (fun z => ?_))
    have c := c1 z
    refine rx_copies (E := True) (g0 := 0) (rg_op0 b1 b2 wi trivial) ⟨fun _ => ⟨fun _ _ => rfl, fun _ _ => rfl⟩, fun _ => rfl⟩ (fun g1 p1 S1 G1 => ?_)
    refine rx_loads hl hL S1 G1 (fun g2 p2 S2 G2 => nm_e ?_)
    refine rx_stores hs hS S2 G2 (fun g3 h3 S3 G3 => nm_e (nm_r (nI_1 k) ?_))
    rw [Int32.zero_or] at G3
    refine ih (k + 1) _ p2 h3 (by omega) S3.2.2.1 S3.2.2.2.1 S3.2.2.2.2.1 (fun v hv => rf_subt (a v hv) (S3.1 v hv)) (fun z => ?_) (fun z => ?_)
    · have e := G3.mp z
      have D := S3.2.2.2.2.2 e.1 e.2
      exact rg_ClE hL hS e.1 e.2 (rg_mk a D.1.1.2 D.1.2 D.2)
    · have x := rg_grow S3
      rcases Nat.lt_or_ge (rg_ct p 12 + rg_ct h 16) (rg_ct p2 12 + rg_ct h3 16) with y | y
      · omega
      · exact absurd (G3.mpr (rg_same S3 y)) z
theorem rx_settle {post : SX → Prop} (hl : nl ≤ 20) (hs : ns ≤ 20) (hL : rg_RL lt lb lf nl) (hS : rg_RL so sb sf ns)
    (b1 : rg_B8 12 vs) (b2 : rg_B8 16 ss) (wi : ∀ P H, rg_Cl al cs lt lb lf sb sf so nl ns P H → rg_Wi P H vs ss) (a : ∀ v, v < 12 → rf_sub (al v) (vs v))
    (hP : ∀ p h, rg_Le (rg_Cl al cs lt lb lf sb sf so nl ns) p h → post ((nI nl), (nI ns), oc, (nI nr), (nI nc), p, h, cs, lt, lb, lf, sb, sf, so, rt, rv, ra, ap, av, af, aw)) : wpX_settle post ((nI nl), (nI ns), oc, (nI nr), (nI nc), vs, ss, cs, lt, lb, lf, sb, sf, so, rt, rv, ra, ap, av, af, aw) :=
  ⟨226, rx_set6 hl hs hL hS hP 225 0 255 vs ss rfl b1 b2 wi a (fun z => absurd z (by decide)) (fun _ => Nat.zero_le _)⟩
theorem rx_cnt4 {post : Int32 → Prop} (x : Int32) (hP : post (nI (rf_pc x 8))) : ∀ d s, s + d = 8 → wX_countSites_4 post x (nI nl) (nI ns) oc (nI nr) (nI nc) vs ss cs lt lb lf sb sf so rt rv ra ap av af aw (d + 1) (nI (rf_pc x s)) (nI s) := by
  intro d
  induction d with
  | zero =>
    intro s hs
    obtain rfl : s = 8 := by omega
    exact br_t (by decide) hP
  | succ d ih =>
    intro s hs
    exact br_f (nI_ge (b := 8) (by omega) (by decide)) (nm_r (by rw [rf_tX x s (by omega), nI_add]; rfl) (nm_r (nI_1 s) (ih (s + 1) (by omega))))
theorem rx_cnt {post : Int32 → Prop} (x : Int32) (hP : post (nI (rf_pc x 8))) : wpX_countSites post ((nI nl), (nI ns), oc, (nI nr), (nI nc), vs, ss, cs, lt, lb, lf, sb, sf, so, rt, rv, ra, ap, av, af, aw) x := ⟨9, rx_cnt4 x hP 8 0 rfl⟩
end
