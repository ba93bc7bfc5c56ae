/-! ===== the reference's workOut ===== -/
abbrev ry_J : Type := Int32 → (Nat → Int32) → (Nat → Int32) → (Nat → Int32) → (Nat → Int32) → (Nat → Int32) → (Nat → Int32) → (Nat → Int32) → (Nat → Int32) → (Nat → Int32) → (Nat → Int32) → (Nat → Int32) → (Nat → Int32) → (Nat → Int32) → (Nat → Int32) → (Nat → Int32) → (Nat → Int32) → (Nat → Int32) → (Nat → Int32) → (Nat → Int32) → (Nat → Int32) → Prop
def ry_Da (al p0 : Nat → Int32) (v : Nat) : Prop := ∀ j, j < v → rf_sub (al j) (p0 j)
section
variable {nl ns nr nc : Nat} {kn : Int32} {al cs lt lb lf sb so sf sg rt rv ra ap av af aw p h sp rch vs ss : Nat → Int32}
theorem ry_29 {E : Prop} {p0 h0 : Nat → Int32} {post : SY → Prop} {J2 : ry_J} {v : Nat} (hv : v < 12)
    (hJ : ∀ p, rg_SI (rg_Cl al cs lt lb lf sb sf so nl ns) (E ∧ rg_Dn 12 (rg_Qc cs p0) (v + 1) 0) p0 h0 p h → J2 (nI (v + 1)) al cs lt lb lf sb so sf sg rt rv ra ap av af aw p h sp rch) :
    ∀ d w p, w + d = 12 → rg_SI (rg_Cl al cs lt lb lf sb sf so nl ns) (E ∧ rg_Dn 12 (rg_Qc cs p0) v w) p0 h0 p h → wY_sweep_29 post J2 (nI v) (nI nl) (nI ns) (nI nr) (nI nc) kn (d + 1) (nI w) al cs lt lb lf sb so sf sg rt rv ra ap av af aw p h sp rch := by
  intro d
  have ev : (nI v).toNatClampNeg = v := nI_clamp (by omega)
  have hin : vp_in (nI v) 12 := vp_in_nI hv (by decide)
  induction d with
  | zero =>
    intro w p hw S
    obtain rfl : w = 12 := by omega
    exact br_t (by decide) (nm_r (nI_1 v) (hJ p (rg_opn S fun a _ _ => ⟨a.1, rg_DnE a.2⟩)))
  | succ d ih =>
    intro w p hw S
    have ew : (nI w).toNatClampNeg = w := nI_clamp (by omega)
    refine br_f (nI_ge (b := 12) (by omega) (by decide)) ⟨hin, ?_⟩
    rw [ev, ew]
    refine rf_brY _ w (by omega) (fun hb => ?_) (fun hb => ?_)
    · exact ⟨hin, vp_in_nI (by omega) (by decide), hin, nm_e (nm_r (nI_1 w) (ih (w + 1) _ (by omega) (rg_opp S hv (S.2.2.1 w (by omega)) (fun P H hc wi => rf_subt (wi.1 w (by omega)) (hc.2.1 v w hv (by omega) hb)) (fun a q _ z => ⟨a.1, rg_DnS a.2 (fun _ => by rw [← q w (by omega)]; exact z)⟩))))⟩
    · exact nm_r (nI_1 w) (ih (w + 1) p (by omega) (rg_opn S fun a _ _ => ⟨a.1, rg_DnS a.2 (fun z => absurd z (by rw [hb]; decide))⟩))
theorem ry_2 {p0 h0 : Nat → Int32} {post : SY → Prop} (hA : ∀ v, v < 12 → rf_b8 (al v))
    (hP : ∀ p, rg_SI (rg_Cl al cs lt lb lf sb sf so nl ns) (ry_Da al p0 12 ∧ rg_Dn 12 (rg_Qc cs p0) 12 0) p0 h0 p h → ∃ n, wY_sweep_82 post (nI nl) (nI ns) (nI nr) (nI nc) kn n 0 al cs lt lb lf sb so sf sg rt rv ra ap av af aw p h sp rch) :
    ∀ d v p, v + d = 12 → rg_SI (rg_Cl al cs lt lb lf sb sf so nl ns) (ry_Da al p0 v ∧ rg_Dn 12 (rg_Qc cs p0) v 0) p0 h0 p h → wY_sweep_2 post (nI nl) (nI ns) (nI nr) (nI nc) kn (d + 1) (nI v) al cs lt lb lf sb so sf sg rt rv ra ap av af aw p h sp rch := by
  intro d
  induction d with
  | zero =>
    intro v p hv S
    obtain rfl : v = 12 := by omega
    exact br_t (by decide) (hP p S)
  | succ d ih =>
    intro v p hv S
    have ev : (nI v).toNatClampNeg = v := nI_clamp (by omega)
    have hin : vp_in (nI v) 12 := vp_in_nI (by omega) (by decide)
    refine br_f (nI_ge (b := 12) (by omega) (by decide)) ⟨hin, hin, hin, ?_⟩
    rw [ev]
    refine nm_e ⟨13, ry_29 (E := ry_Da al p0 (v + 1)) (by omega) (fun p S => ih (v + 1) p (by omega) S) 12 0 _ rfl ?_⟩
    exact rg_opp S (by omega) (hA v (by omega)) (fun P H hc _ => hc.1 v (by omega)) (fun a _ _ z => ⟨fun j hj => by
      by_cases e : j = v
      · rw [e]; exact z
      · exact a.1 j (by omega), a.2⟩)
theorem ry_92 {E : Prop} {p0 h0 : Nat → Int32} {post : SY → Prop} {J : ry_J} {i : Nat} (hi : i < nl) (hn : nl ≤ 20) (hL : rg_RL lt lb lf nl)
    (hJ : ∀ p, rg_SI (rg_Cl al cs lt lb lf sb sf so nl ns) (E ∧ rg_Dn 8 (rg_Ql lt lb lf p0 h0) (i + 1) 0) p0 h0 p h → J (nI (i + 1)) al cs lt lb lf sb so sf sg rt rv ra ap av af aw p h sp rch) :
    ∀ d s p, s + d = 8 → rg_SI (rg_Cl al cs lt lb lf sb sf so nl ns) (E ∧ rg_Dn 8 (rg_Ql lt lb lf p0 h0) i s) p0 h0 p h → wY_sweep_92 post J (nI i) (nI nl) (nI ns) (nI nr) (nI nc) kn (d + 1) (nI s) al cs lt lb lf sb so sf sg rt rv ra ap av af aw p h sp rch := by
  intro d
  have ei : (nI i).toNatClampNeg = i := nI_clamp (by omega)
  have hin : vp_in (nI i) 20 := vp_in_nI (by omega) (by decide)
  obtain ⟨r1, r2, r3⟩ := hL i hi
  have l1 := rg_lt r1 (by decide)
  have l2 := rg_lt r2 (by decide)
  have l3 := rg_lt r3 (by decide)
  induction d with
  | zero =>
    intro s p hs S
    obtain rfl : s = 8 := by omega
    exact br_t (by decide) (nm_r (nI_1 i) (hJ p (rg_opn S fun a _ _ => ⟨a.1, rg_DnE a.2⟩)))
  | succ d ih =>
    intro s p hs S
    have es := rg_slot (s := s) (by omega) r3
    refine br_f (nI_ge (b := 8) (by omega) (by decide)) ⟨hin, ?_⟩
    rw [ei]
    refine ⟨r2, rf_brY _ s (by omega) (fun hb => ?_) (fun hb => ?_)⟩
    · refine ⟨hin, hin, r1, hin, es.1, r1, ?_⟩
      rw [es.2]
      exact nm_e (nm_r (nI_1 s) (ih (s + 1) _ (by omega) (rg_opp S l1 (S.2.2.2.1 _ (by omega)) (fun P H hc wi => rf_subt (wi.2 _ (by omega)) (hc.2.2.1 i s hi (by omega) (wi.1 _ l2 _ hb))) (fun a q r z => ⟨a.1, rg_DnS a.2 (fun _ => by rw [← r _ (by omega)]; exact z)⟩))))
    · exact nm_r (nI_1 s) (ih (s + 1) p (by omega) (rg_opn S fun a q _ => ⟨a.1, rg_DnS a.2 (fun z => absurd z (by rw [← q _ l2, hb]; decide))⟩))
theorem ry_82 {E : Prop} {p0 h0 : Nat → Int32} {post : SY → Prop} (hn : nl ≤ 20) (hL : rg_RL lt lb lf nl)
    (hP : ∀ p, rg_SI (rg_Cl al cs lt lb lf sb sf so nl ns) (E ∧ rg_Dn 8 (rg_Ql lt lb lf p0 h0) nl 0) p0 h0 p h → ∃ n, wY_sweep_169 post (nI nl) (nI ns) (nI nr) (nI nc) kn n 0 al cs lt lb lf sb so sf sg rt rv ra ap av af aw p h sp rch) :
    ∀ d i p, i + d = nl → rg_SI (rg_Cl al cs lt lb lf sb sf so nl ns) (E ∧ rg_Dn 8 (rg_Ql lt lb lf p0 h0) i 0) p0 h0 p h → wY_sweep_82 post (nI nl) (nI ns) (nI nr) (nI nc) kn (d + 1) (nI i) al cs lt lb lf sb so sf sg rt rv ra ap av af aw p h sp rch := by
  intro d
  induction d with
  | zero =>
    intro i p hi S
    obtain rfl : i = nl := by omega
    exact br_t (nI_le (Nat.le_refl _) (by omega)) (hP p S)
  | succ d ih =>
    intro i p hi S
    exact br_f (nI_ge (by omega) (by omega)) ⟨9, ry_92 (by omega) hn hL (fun p S => ih (i + 1) p (by omega) S) 8 0 p rfl S⟩
theorem ry_179 {E : Prop} {p0 h0 : Nat → Int32} {post : SY → Prop} {J : ry_J} {i : Nat} (hi : i < ns) (hn : ns ≤ 20) (hL : rg_RL so sb sf ns)
    (hJ : ∀ h, rg_SI (rg_Cl al cs lt lb lf sb sf so nl ns) (E ∧ rg_Dn 8 (rg_Qs sb sf so p0 h0) (i + 1) 0) p0 h0 p h → J (nI (i + 1)) al cs lt lb lf sb so sf sg rt rv ra ap av af aw p h sp rch) :
    ∀ d s h, s + d = 8 → rg_SI (rg_Cl al cs lt lb lf sb sf so nl ns) (E ∧ rg_Dn 8 (rg_Qs sb sf so p0 h0) i s) p0 h0 p h → wY_sweep_179 post J (nI i) (nI nl) (nI ns) (nI nr) (nI nc) kn (d + 1) (nI s) al cs lt lb lf sb so sf sg rt rv ra ap av af aw p h sp rch := by
  intro d
  have ei : (nI i).toNatClampNeg = i := nI_clamp (by omega)
  have hin : vp_in (nI i) 20 := vp_in_nI (by omega) (by decide)
  obtain ⟨r1, r2, r3⟩ := hL i hi
  have l1 := rg_lt r1 (by decide)
  have l2 := rg_lt r2 (by decide)
  have l3 := rg_lt r3 (by decide)
  induction d with
  | zero =>
    intro s h hs S
    obtain rfl : s = 8 := by omega
    exact br_t (by decide) (nm_r (nI_1 i) (hJ h (rg_opn S fun a _ _ => ⟨a.1, rg_DnE a.2⟩)))
  | succ d ih =>
    intro s h hs S
    have es := rg_slot (s := s) (by omega) r3
    refine br_f (nI_ge (b := 8) (by omega) (by decide)) ⟨hin, ?_⟩
    rw [ei]
    refine ⟨r2, rf_brY _ s (by omega) (fun hb => ?_) (fun hb => ?_)⟩
    · refine ⟨hin, hin, es.1, hin, r1, es.1, ?_⟩
      rw [es.2]
      exact nm_e (nm_r (nI_1 s) (ih (s + 1) _ (by omega) (rg_oph S (by omega) (S.2.2.1 _ l1) (fun P H hc wi => rf_subt (wi.1 _ l1) (hc.2.2.2 i s hi (by omega) (wi.1 _ l2 _ hb))) (fun a q r z => ⟨a.1, rg_DnS a.2 (fun _ => by rw [← q _ l1]; exact z)⟩))))
    · exact nm_r (nI_1 s) (ih (s + 1) h (by omega) (rg_opn S fun a q _ => ⟨a.1, rg_DnS a.2 (fun z => absurd z (by rw [← q _ l2, hb]; decide))⟩))
theorem ry_169 {E : Prop} {p0 h0 : Nat → Int32} {post : SY → Prop} (hn : ns ≤ 20) (hL : rg_RL so sb sf ns)
    (hP : ∀ h, rg_SI (rg_Cl al cs lt lb lf sb sf so nl ns) (E ∧ rg_Dn 8 (rg_Qs sb sf so p0 h0) ns 0) p0 h0 p h → post ((nI nl), (nI ns), (nI nr), (nI nc), kn, al, cs, lt, lb, lf, sb, so, sf, sg, rt, rv, ra, ap, av, af, aw, p, h, sp, rch)) :
    ∀ d i h, i + d = ns → rg_SI (rg_Cl al cs lt lb lf sb sf so nl ns) (E ∧ rg_Dn 8 (rg_Qs sb sf so p0 h0) i 0) p0 h0 p h → wY_sweep_169 post (nI nl) (nI ns) (nI nr) (nI nc) kn (d + 1) (nI i) al cs lt lb lf sb so sf sg rt rv ra ap av af aw p h sp rch := by
  intro d
  induction d with
  | zero =>
    intro i h hi S
    obtain rfl : i = ns := by omega
    exact br_t (nI_le (Nat.le_refl _) (by omega)) (hP h S)
  | succ d ih =>
    intro i h hi S
    exact br_f (nI_ge (by omega) (by omega)) ⟨9, ry_179 (by omega) hn hL (fun h S => ih (i + 1) h (by omega) S) 8 0 h rfl S⟩
theorem ry_sweep {post : SY → Prop} (hl : nl ≤ 20) (hs : ns ≤ 20) (hL : rg_RL lt lb lf nl) (hS : rg_RL so sb sf ns) (hA : ∀ v, v < 12 → rf_b8 (al v))
    (b1 : rg_B8 12 p) (b2 : rg_B8 16 h) (wi : ∀ P H, rg_Cl al cs lt lb lf sb sf so nl ns P H → rg_Wi P H p h)
    (hP : ∀ q g, rg_SI (rg_Cl al cs lt lb lf sb sf so nl ns) (((ry_Da al p 12 ∧ rg_Dn 12 (rg_Qc cs p) 12 0) ∧ rg_Dn 8 (rg_Ql lt lb lf p h) nl 0) ∧ rg_Dn 8 (rg_Qs sb sf so p h) ns 0) p h q g → post ((nI nl), (nI ns), (nI nr), (nI nc), kn, al, cs, lt, lb, lf, sb, so, sf, sg, rt, rv, ra, ap, av, af, aw, q, g, sp, rch)) :
    wpY_sweep post ((nI nl), (nI ns), (nI nr), (nI nc), kn, al, cs, lt, lb, lf, sb, so, sf, sg, rt, rv, ra, ap, av, af, aw, p, h, sp, rch) :=
  ⟨13, ry_2 hA (fun q S => ⟨nl + 1, ry_82 hl hL (fun q S => ⟨ns + 1, ry_169 hs hS (fun g S => hP q g S) ns 0 h (by omega) (rg_opn S fun a _ _ => ⟨a, rg_Dn0⟩)⟩) nl 0 q (by omega) (rg_opn S fun a _ _ => ⟨a, rg_Dn0⟩)⟩) 12 0 p rfl (rg_op0 b1 b2 wi ⟨fun j hj => absurd hj (Nat.not_lt_zero j), rg_Dn0⟩)⟩
theorem ry_size4 {post : Int32 → Prop} (x : Int32) (hP : post (nI (rf_pc x 8))) : ∀ d s, s + d = 8 → wY_size_4 post x (nI nl) (nI ns) (nI nr) (nI nc) kn al cs lt lb lf sb so sf sg rt rv ra ap av af aw p h sp rch (d + 1) (nI (rf_pc x s)) (nI s) := by
  intro d
  induction d with
  | zero =>
    intro s hs
    obtain rfl : s = 8 := by omega
    exact br_t (by decide) hP
  | succ d ih =>
    intro s hs
    exact br_f (nI_ge (b := 8) (by omega) (by decide)) (nm_r (by rw [rf_tY x s (by omega), nI_add]; rfl) (nm_r (nI_1 s) (ih (s + 1) (by omega))))
theorem ry_size {post : Int32 → Prop} (x : Int32) (hP : post (nI (rf_pc x 8))) : wpY_size post ((nI nl), (nI ns), (nI nr), (nI nc), kn, al, cs, lt, lb, lf, sb, so, sf, sg, rt, rv, ra, ap, av, af, aw, p, h, sp, rch) x := ⟨9, ry_size4 x hP 8 0 rfl⟩
theorem ry_t33 {post : Int32 → Prop} {a : Nat} (hP : post (nI (a + rg_ct h 16))) : ∀ d i, i + d = 16 → wY_total_33 post (nI nl) (nI ns) (nI nr) (nI nc) kn al cs lt lb lf sb so sf sg rt rv ra ap av af aw p h sp rch (d + 1) (nI (a + rg_ct h i)) (nI i) := by
  intro d
  induction d with
  | zero =>
    intro i hi
    obtain rfl : i = 16 := by omega
    exact br_t (by decide) hP
  | succ d ih =>
    intro i hi
    have ei : (nI i).toNatClampNeg = i := nI_clamp (by omega)
    refine br_f (nI_ge (b := 16) (by omega) (by decide)) ⟨vp_in_nI (by omega) (by decide), ?_⟩
    rw [ei]
    exact ry_size _ (nm_r (by rw [nI_add, Nat.add_assoc]; rfl) (nm_r (nI_1 i) (ih (i + 1) (by omega))))
theorem ry_t4 {post : Int32 → Prop} (hP : post (nI (rg_ct p 12 + rg_ct h 16))) : ∀ d i, i + d = 12 → wY_total_4 post (nI nl) (nI ns) (nI nr) (nI nc) kn al cs lt lb lf sb so sf sg rt rv ra ap av af aw p h sp rch (d + 1) (nI (rg_ct p i)) (nI i) := by
  intro d
  induction d with
  | zero =>
    intro i hi
    obtain rfl : i = 12 := by omega
    exact br_t (by decide) ⟨17, ry_t33 hP 16 0 rfl⟩
  | succ d ih =>
    intro i hi
    have ei : (nI i).toNatClampNeg = i := nI_clamp (by omega)
    refine br_f (nI_ge (b := 12) (by omega) (by decide)) ⟨vp_in_nI (by omega) (by decide), ?_⟩
    rw [ei]
    exact ry_size _ (nm_r (by rw [nI_add]; rfl) (nm_r (nI_1 i) (ih (i + 1) (by omega))))
theorem ry_total {post : Int32 → Prop} (hP : post (nI (rg_ct p 12 + rg_ct h 16))) : wpY_total post ((nI nl), (nI ns), (nI nr), (nI nc), kn, al, cs, lt, lb, lf, sb, so, sf, sg, rt, rv, ra, ap, av, af, aw, p, h, sp, rch) := ⟨13, ry_t4 hP 12 0 rfl⟩
theorem ry_61 {post : SY → Prop} (hl : nl ≤ 20) (hs : ns ≤ 20) (hL : rg_RL lt lb lf nl) (hS : rg_RL so sb sf ns) (hA : ∀ v, v < 12 → rf_b8 (al v))
    (hP : ∀ p h, rg_Le (rg_Cl al cs lt lb lf sb sf so nl ns) p h → post ((nI nl), (nI ns), (nI nr), (nI nc), kn, al, cs, lt, lb, lf, sb, so, sf, sg, rt, rv, ra, ap, av, af, aw, p, h, sp, rch)) :
    ∀ d k bf p h, k + d = 226 → rg_B8 12 p → rg_B8 16 h → (∀ P H, rg_Cl al cs lt lb lf sb sf so nl ns P H → rg_Wi P H p h) →
    ((k = 0 ∧ bf = -1) ∨ ∃ b, bf = nI b ∧ b ≤ rg_ct p 12 + rg_ct h 16 ∧ (b = rg_ct p 12 + rg_ct h 16 → rg_Cl al cs lt lb lf sb sf so nl ns p h) ∧ (b ≠ rg_ct p 12 + rg_ct h 16 → k ≤ rg_ct p 12 + rg_ct h 16)) →
    wY_workOut_61 post (d + 1) bf (nI (rg_ct p 12 + rg_ct h 16)) (nI k) (nI nl) (nI ns) (nI nr) (nI nc) kn al cs lt lb lf sb so sf sg rt rv ra ap av af aw p h sp rch := by
  intro d
  induction d with
  | zero =>
    intro k bf p h hk b1 b2 wi hb
    obtain rfl : k = 226 := by omega
    refine br_t (by decide) (hP p h ⟨b1, b2, ?_, wi⟩)
    rcases hb with hb | ⟨b, _, _, c, e⟩
    · omega
    · by_cases z : b = rg_ct p 12 + rg_ct h 16
      · exact c z
      · have x := e z
        have y := rg_ctle p 12
        have y' := rg_ctle h 16
        omega
  | succ d ih =>
    intro k bf p h hk b1 b2 wi hb
    have y := rg_ctle p 12
    have y' := rg_ctle h 16
    refine br_f (nI_ge (b := 226) (by omega) (by decide)) (br_c (fun z => hP p h ⟨b1, b2, ?_, wi⟩) (fun z => ?_))
    · rcases hb with ⟨_, hb⟩ | ⟨b, hb, _, c, _⟩
      · exact absurd (show nI (rg_ct p 12 + rg_ct h 16) < 0 by rw [z, hb]; decide) (nI_pos (by omega))
      · rw [hb, nI_eq (by omega) (by omega)] at z
        exact c z.symm
    · have hk' : k ≤ rg_ct p 12 + rg_ct h 16 := by
        rcases hb with ⟨hb, _⟩ | ⟨b, hb, _, _, e⟩
        · omega
        · exact e (fun q => z (by rw [hb, q]))
      refine ry_sweep hl hs hL hS hA b1 b2 wi (fun q g S => ry_total (nm_r (nI_1 k) ?_))
      refine ih (k + 1) _ q g (by omega) S.2.2.1 S.2.2.2.1 S.2.2.2.2.1 (Or.inr ⟨_, rfl, rg_grow S, fun e => ?_, fun e => ?_⟩)
      · have E := rg_same S (by omega)
        have D := S.2.2.2.2.2 E.1 E.2
        exact rg_ClE hL hS E.1 E.2 (rg_mk D.1.1.1 D.1.1.2 D.1.2 D.2)
      · have x := rg_grow S
        omega
theorem ry_36 {post : SY → Prop} (hP : ∀ h, (∀ j, j < 16 → h j = 0) → ∃ n, wY_workOut_61 post n (-1) 0 0 (nI nl) (nI ns) (nI nr) (nI nc) kn al cs lt lb lf sb so sf sg rt rv ra ap av af aw p h sp rch) : ∀ d i h, i + d = 16 → (∀ j, j < i → h j = 0) → wY_workOut_36 post (nI nl) (nI ns) (nI nr) (nI nc) kn (d + 1) (nI i) al cs lt lb lf sb so sf sg rt rv ra ap av af aw p h sp rch := by
  intro d
  induction d with
  | zero =>
    intro i h hi k
    obtain rfl : i = 16 := by omega
    exact br_t (by decide) (hP h k)
  | succ d ih =>
    intro i h hi k
    have ei : (nI i).toNatClampNeg = i := nI_clamp (by omega)
    refine br_f (nI_ge (b := 16) (by omega) (by decide)) ⟨vp_in_nI (by omega) (by decide), ?_⟩
    rw [ei]
    exact nm_e (nm_r (nI_1 i) (ih (i + 1) _ (by omega) (fun j hj => by
      by_cases e : j = i
      · rw [e, pk_us]
      · rw [pk_un e]; exact k j (by omega))))
theorem ry_15 {post : SY → Prop} (hP : ∀ p, (∀ j, j < 12 → p j = 0) → ∃ n, wY_workOut_36 post (nI nl) (nI ns) (nI nr) (nI nc) kn n 0 al cs lt lb lf sb so sf sg rt rv ra ap av af aw p h sp rch) : ∀ d i p, i + d = 12 → (∀ j, j < i → p j = 0) → wY_workOut_15 post (nI nl) (nI ns) (nI nr) (nI nc) kn (d + 1) (nI i) al cs lt lb lf sb so sf sg rt rv ra ap av af aw p h sp rch := by
  intro d
  induction d with
  | zero =>
    intro i p hi k
    obtain rfl : i = 12 := by omega
    exact br_t (by decide) (hP p k)
  | succ d ih =>
    intro i p hi k
    have ei : (nI i).toNatClampNeg = i := nI_clamp (by omega)
    refine br_f (nI_ge (b := 12) (by omega) (by decide)) ⟨vp_in_nI (by omega) (by decide), ?_⟩
    rw [ei]
    exact nm_e (nm_r (nI_1 i) (ih (i + 1) _ (by omega) (fun j hj => by
      by_cases e : j = i
      · rw [e, pk_us]
      · rw [pk_un e]; exact k j (by omega))))
theorem ry_ct0 {f : Nat → Int32} : ∀ n, (∀ j, j < n → f j = 0) → rg_ct f n = 0
  | 0 => fun _ => rfl
  | n + 1 => fun k => by
    show rg_ct f n + rf_pc (f n) 8 = 0
    rw [ry_ct0 n (fun j hj => k j (by omega)), k n (by omega)]
    decide +kernel
/-- from related states workOut ends with the smallest sets -/
theorem ry_work {post : SY → Prop} (hl : nl ≤ 20) (hs : ns ≤ 20) (hL : rg_RL lt lb lf nl) (hS : rg_RL so sb sf ns)
    (K : kn ≠ 0 → rg_Eq 12 vs p ∧ rg_Eq 16 ss h) (L : rg_Le (rg_Cl al cs lt lb lf sb sf so nl ns) vs ss)
    (hP : ∀ kn p h, kn ≠ 0 → rg_Eq 12 vs p → rg_Eq 16 ss h → post ((nI nl), (nI ns), (nI nr), (nI nc), kn, al, cs, lt, lb, lf, sb, so, sf, sg, rt, rv, ra, ap, av, af, aw, p, h, sp, rch)) : wpY_workOut post ((nI nl), (nI ns), (nI nr), (nI nc), kn, al, cs, lt, lb, lf, sb, so, sf, sg, rt, rv, ra, ap, av, af, aw, p, h, sp, rch) := by
  have hA : ∀ v, v < 12 → rf_b8 (al v) := fun v hv t ht => by
    cases e : bt (al v) t
    · rfl
    · rw [← L.1 v hv t ht]; exact (L.2.2.1.1 v hv t e).symm
  refine br_c (fun _ => ⟨13, ry_15 (fun p k1 => ⟨17, ry_36 (fun h k2 => ⟨227, ?_⟩) 16 0 h rfl (fun j hj => absurd hj (Nat.not_lt_zero j))⟩) 12 0 p rfl (fun j hj => absurd hj (Nat.not_lt_zero j))⟩) (fun z => hP kn p h z (K z).1 (K z).2)
  have e : (0 : Int32) = nI (rg_ct p 12 + rg_ct h 16) := by rw [ry_ct0 12 k1, ry_ct0 16 k2]; rfl
  have t := ry_61 (kn := 1) (nr := nr) (nc := nc) (sg := sg) (rt := rt) (rv := rv) (ra := ra) (ap := ap) (av := av) (af := af) (aw := aw) (sp := sp) (rch := rch) (post := post) hl hs hL hS hA (fun p h M => hP 1 p h (by decide) (rg_uniq M L).1 (rg_uniq M L).2) 226 0 (-1) p h rfl (fun j hj => by rw [k1 j hj]; exact rf_b80) (fun j hj => by rw [k2 j hj]; exact rf_b80) (fun P H _ => ⟨fun j hj => by rw [k1 j hj]; exact rf_sub0 _, fun j hj => by rw [k2 j hj]; exact rf_sub0 _⟩) (Or.inl ⟨rfl, rfl⟩)
  rw [← e] at t
  exact t
end
