/-! ===== statements: alloc, copy, load, store ===== -/
theorem rs_al {al am cs lt lb lf sb sf so P H : Nat → Int32} {nl ns : Nat} (h : ∀ v, v < 12 → rf_sub (al v) (am v)) (c : rg_Cl am cs lt lb lf sb sf so nl ns P H) : rg_Cl al cs lt lb lf sb sf so nl ns P H :=
  ⟨fun v hv => rf_subt (h v hv) (c.1 v hv), c.2⟩
theorem rs_cs {al cs cm lt lb lf sb sf so P H : Nat → Int32} {nl ns : Nat} (h : ∀ v, v < 12 → rf_sub (cs v) (cm v)) (c : rg_Cl al cm lt lb lf sb sf so nl ns P H) : rg_Cl al cs lt lb lf sb sf so nl ns P H :=
  ⟨c.1, fun v w hv hw hb => c.2.1 v w hv hw (h v hv w hb), c.2.2⟩
theorem rs_ld {al cs lt lb lf sb sf so P H : Nat → Int32} {nl ns : Nat} {x y z : Int32} (c : rg_Cl al cs (upd lt nl x) (upd lb nl y) (upd lf nl z) sb sf so (nl + 1) ns P H) : rg_Cl al cs lt lb lf sb sf so nl ns P H := by
  refine ⟨c.1, c.2.1, fun i s hi hs hb => ?_, c.2.2.2⟩
  have ne : i ≠ nl := by omega
  have := c.2.2.1 i s (by omega) hs
  rw [pk_un ne, pk_un ne, pk_un ne] at this
  exact this hb
theorem rs_st {al cs lt lb lf sb sf so P H : Nat → Int32} {nl ns : Nat} {x y z : Int32} (c : rg_Cl al cs lt lb lf (upd sb ns x) (upd sf ns y) (upd so ns z) nl (ns + 1) P H) : rg_Cl al cs lt lb lf sb sf so nl ns P H := by
  refine ⟨c.1, c.2.1, c.2.2.1, fun i s hi hs hb => ?_⟩
  have ne : i ≠ ns := by omega
  have := c.2.2.2 i s (by omega) hs
  rw [pk_un ne, pk_un ne, pk_un ne] at this
  exact this hb
theorem rs_up {f : Nat → Int32} {j : Nat} {x : Int32} (v : Nat) : rf_sub (f v) (upd f j (f j ||| x) v) := by
  by_cases e : v = j
  · subst e; rw [pk_us]; exact rf_orl _ _
  · rw [pk_un e]; exact rf_subr _
theorem rs_RL {a b c : Nat → Int32} {n : Nat} {x y z : Int32} (h : rg_RL a b c n) (hx : vp_in x 12) (hy : vp_in y 12) (hz : vp_in z 2) : rg_RL (upd a n x) (upd b n y) (upd c n z) (n + 1) := by
  intro i hi
  by_cases e : i = n
  · subst e; rw [pk_us, pk_us, pk_us]; exact ⟨hx, hy, hz⟩
  · rw [pk_un e, pk_un e, pk_un e]; exact h i (by omega)
section
variable {nl ns nr nc : Nat} {oc kn : Int32} {vs ss cs lt lb lf sb sf so rt rv ra ap av af aw al sg p h sp rch : Nat → Int32}
theorem rx_alloc0 {post : Int32 → SX → Prop} {v1 v2 : Int32} (hb : rr_bad 12 v1 ∨ rr_bad 8 v2) (k : post (-1) ((nI nl), (nI ns), oc, (nI nr), (nI nc), vs, ss, cs, lt, lb, lf, sb, sf, so, rt, rv, ra, ap, av, af, aw)) : wpX_alloc post ((nI nl), (nI ns), oc, (nI nr), (nI nc), vs, ss, cs, lt, lb, lf, sb, sf, so, rt, rv, ra, ap, av, af, aw) v1 v2 := by
  unfold wpX_alloc
  refine rx_isV (fun _ => br_t rfl k) (fun j hj e => br_f (by decide) ?_)
  refine rx_isS (fun _ => br_t rfl k) (fun s hs f => ?_)
  exact hb.elim (fun b => absurd (e ▸ b) (rr_nb (by decide) hj)) (fun b => absurd (f ▸ b) (rr_nb (by decide) hs))
theorem rx_alloc {post : Int32 → SX → Prop} {j s : Nat} (hj : j < 12) (hs : s < 8) (hl : nl ≤ 20) (hn : ns ≤ 20) (hL : rg_RL lt lb lf nl) (hS : rg_RL so sb sf ns) (L : rg_Le (rg_Cl al cs lt lb lf sb sf so nl ns) vs ss)
    (k : ∀ p h, rg_Le (rg_Cl (upd al j (al j ||| ((1 : Int32) <<< (nI s &&& 31)))) cs lt lb lf sb sf so nl ns) p h → post (nI (rf_pc (p j) 8)) ((nI nl), (nI ns), oc, (nI nr), (nI nc), p, h, cs, lt, lb, lf, sb, sf, so, rt, rv, ra, ap, av, af, aw)) : wpX_alloc post ((nI nl), (nI ns), oc, (nI nr), (nI nc), vs, ss, cs, lt, lb, lf, sb, sf, so, rt, rv, ra, ap, av, af, aw) (nI j) (nI s) := by
  have ej : (nI j).toNatClampNeg = j := nI_clamp (by omega)
  have hin : vp_in (nI j) 12 := vp_in_nI hj (by decide)
  unfold wpX_alloc
  refine rx_isV (fun b => absurd b (rr_nb (by decide) hj)) (fun _ _ _ => br_f (by decide) ?_)
  refine rx_isS (fun b => absurd b (rr_nb (by decide) hs)) (fun _ _ _ => br_f (by decide) ⟨hin, hin, ?_⟩)
  rw [ej]
  refine nm_e (rx_settle hl hn hL hS (rg_upB8 L.1 (rf_b81 s hs)) L.2.1 (fun P H c => ?_) (fun v hv => ?_) (fun p h M => ⟨hin, rx_cnt _ (k p h M)⟩))
  · have w := L.2.2.2 P H (rs_al (fun v _ => rs_up v) c)
    refine ⟨fun v hv => ?_, w.2⟩
    by_cases e : v = j
    · subst e; rw [pk_us]
      refine rf_ors (w.1 v hv) (rf_subt ?_ (c.1 v hv))
      rw [pk_us]; exact rf_orr _ _
    · rw [pk_un e]; exact w.1 v hv
  · have a := L.2.2.1.1 v hv
    by_cases e : v = j
    · subst e; rw [pk_us, pk_us]; exact rf_ors (rf_subt a (rf_orl _ _)) (rf_orr _ _)
    · rw [pk_un e, pk_un e]; exact a
theorem ry_alloc0 {post : Int32 → SY → Prop} {v1 v2 : Int32} (hb : rr_bad 12 v1 ∨ rr_bad 8 v2) (k : post (-1) ((nI nl), (nI ns), (nI nr), (nI nc), kn, al, cs, lt, lb, lf, sb, so, sf, sg, rt, rv, ra, ap, av, af, aw, p, h, sp, rch)) : wpY_alloc post ((nI nl), (nI ns), (nI nr), (nI nc), kn, al, cs, lt, lb, lf, sb, so, sf, sg, rt, rv, ra, ap, av, af, aw, p, h, sp, rch) v1 v2 := by
  unfold wpY_alloc
  refine ry_bV (fun _ => br_f (by decide) k) (fun j hj e => br_t rfl (br_c (fun _ => k) (fun z => br_c (fun y => ?_) (fun _ => k))))
  refine hb.elim (fun b => absurd (e ▸ b) (rr_nb (by decide) hj)) (fun b => ?_)
  rcases b with b | b
  · exact absurd b z
  · exact absurd y (rr_gt b (by decide))
theorem ry_alloc {post : Int32 → SY → Prop} {j s : Nat} (hj : j < 12) (hs : s < 8) (hl : nl ≤ 20) (hn : ns ≤ 20) (hL : rg_RL lt lb lf nl) (hS : rg_RL so sb sf ns) (L : rg_Le (rg_Cl (upd al j (al j ||| ((1 : Int32) <<< (nI s &&& 31)))) cs lt lb lf sb sf so nl ns) vs ss)
    (k : ∀ kn p h, kn ≠ 0 → rg_Eq 12 vs p → rg_Eq 16 ss h → post (nI (rf_pc (vs j) 8)) ((nI nl), (nI ns), (nI nr), (nI nc), kn, upd al j (al j ||| ((1 : Int32) <<< (nI s &&& 31))), cs, lt, lb, lf, sb, so, sf, sg, rt, rv, ra, ap, av, af, aw, p, h, sp, rch)) : wpY_alloc post ((nI nl), (nI ns), (nI nr), (nI nc), kn, al, cs, lt, lb, lf, sb, so, sf, sg, rt, rv, ra, ap, av, af, aw, p, h, sp, rch) (nI j) (nI s) := by
  have ej : (nI j).toNatClampNeg = j := nI_clamp (by omega)
  have hin : vp_in (nI j) 12 := vp_in_nI hj (by decide)
  unfold wpY_alloc
  refine ry_bV (fun b => absurd b (rr_nb (by decide) hj)) (fun _ _ _ => br_t rfl (br_f (nI_pos (by omega)) (br_t (nI_le (b := 7) (by omega) (by decide)) ⟨hin, hin, ?_⟩)))
  rw [ej]
  exact nm_e (ry_work hl hn hL hS (fun z => absurd rfl z) L (fun kn p h z e f => ⟨hin, ry_size _ (by rw [e j hj]; exact k kn p h z e f)⟩))
theorem rx_copy0 {post : Int32 → SX → Prop} {v1 v2 : Int32} (hb : rr_bad 12 v1 ∨ rr_bad 12 v2) (k : post (-1) ((nI nl), (nI ns), oc, (nI nr), (nI nc), vs, ss, cs, lt, lb, lf, sb, sf, so, rt, rv, ra, ap, av, af, aw)) : wpX_copy post ((nI nl), (nI ns), oc, (nI nr), (nI nc), vs, ss, cs, lt, lb, lf, sb, sf, so, rt, rv, ra, ap, av, af, aw) v1 v2 := by
  unfold wpX_copy
  refine rx_isV (fun _ => br_t rfl k) (fun j hj e => br_f (by decide) ?_)
  refine rx_isV (fun _ => br_t rfl k) (fun s hs f => ?_)
  exact hb.elim (fun b => absurd (e ▸ b) (rr_nb (by decide) hj)) (fun b => absurd (f ▸ b) (rr_nb (by decide) hs))
theorem rx_copy {post : Int32 → SX → Prop} {j s : Nat} (hj : j < 12) (hs : s < 12) (hl : nl ≤ 20) (hn : ns ≤ 20) (hL : rg_RL lt lb lf nl) (hS : rg_RL so sb sf ns) (L : rg_Le (rg_Cl al cs lt lb lf sb sf so nl ns) vs ss)
    (k : ∀ p h, rg_Le (rg_Cl al (upd cs j (cs j ||| ((1 : Int32) <<< (nI s &&& 31)))) lt lb lf sb sf so nl ns) p h → post (nI (rf_pc (p j) 8)) ((nI nl), (nI ns), oc, (nI nr), (nI nc), p, h, upd cs j (cs j ||| ((1 : Int32) <<< (nI s &&& 31))), lt, lb, lf, sb, sf, so, rt, rv, ra, ap, av, af, aw)) : wpX_copy post ((nI nl), (nI ns), oc, (nI nr), (nI nc), vs, ss, cs, lt, lb, lf, sb, sf, so, rt, rv, ra, ap, av, af, aw) (nI j) (nI s) := by
  have ej : (nI j).toNatClampNeg = j := nI_clamp (by omega)
  have hin : vp_in (nI j) 12 := vp_in_nI hj (by decide)
  unfold wpX_copy
  refine rx_isV (fun b => absurd b (rr_nb (by decide) hj)) (fun _ _ _ => br_f (by decide) ?_)
  refine rx_isV (fun b => absurd b (rr_nb (by decide) hs)) (fun _ _ _ => br_f (by decide) ⟨hin, hin, ?_⟩)
  rw [ej]
  exact nm_e (rx_settle hl hn hL hS L.1 L.2.1 (fun P H c => L.2.2.2 P H (rs_cs (fun v _ => rs_up v) c)) L.2.2.1.1 (fun p h M => ⟨hin, rx_cnt _ (k p h M)⟩))
theorem ry_copy0 {post : Int32 → SY → Prop} {v1 v2 : Int32} (hb : rr_bad 12 v1 ∨ rr_bad 12 v2) (k : post (-1) ((nI nl), (nI ns), (nI nr), (nI nc), kn, al, cs, lt, lb, lf, sb, so, sf, sg, rt, rv, ra, ap, av, af, aw, p, h, sp, rch)) : wpY_copy post ((nI nl), (nI ns), (nI nr), (nI nc), kn, al, cs, lt, lb, lf, sb, so, sf, sg, rt, rv, ra, ap, av, af, aw, p, h, sp, rch) v1 v2 := by
  unfold wpY_copy
  refine ry_bV (fun _ => br_f (by decide) k) (fun j hj e => br_t rfl ?_)
  refine ry_bV (fun _ => br_f (by decide) k) (fun s hs f => ?_)
  exact hb.elim (fun b => absurd (e ▸ b) (rr_nb (by decide) hj)) (fun b => absurd (f ▸ b) (rr_nb (by decide) hs))
theorem ry_copy {post : Int32 → SY → Prop} {j s : Nat} (hj : j < 12) (hs : s < 12) (hl : nl ≤ 20) (hn : ns ≤ 20) (hL : rg_RL lt lb lf nl) (hS : rg_RL so sb sf ns) (L : rg_Le (rg_Cl al (upd cs j (cs j ||| ((1 : Int32) <<< (nI s &&& 31)))) lt lb lf sb sf so nl ns) vs ss)
    (k : ∀ kn p h, kn ≠ 0 → rg_Eq 12 vs p → rg_Eq 16 ss h → post (nI (rf_pc (vs j) 8)) ((nI nl), (nI ns), (nI nr), (nI nc), kn, al, upd cs j (cs j ||| ((1 : Int32) <<< (nI s &&& 31))), lt, lb, lf, sb, so, sf, sg, rt, rv, ra, ap, av, af, aw, p, h, sp, rch)) : wpY_copy post ((nI nl), (nI ns), (nI nr), (nI nc), kn, al, cs, lt, lb, lf, sb, so, sf, sg, rt, rv, ra, ap, av, af, aw, p, h, sp, rch) (nI j) (nI s) := by
  have ej : (nI j).toNatClampNeg = j := nI_clamp (by omega)
  have hin : vp_in (nI j) 12 := vp_in_nI hj (by decide)
  unfold wpY_copy
  refine ry_bV (fun b => absurd b (rr_nb (by decide) hj)) (fun _ _ _ => br_t rfl ?_)
  refine ry_bV (fun b => absurd b (rr_nb (by decide) hs)) (fun _ _ _ => br_t rfl ⟨hin, hin, ?_⟩)
  rw [ej]
  exact nm_e (ry_work hl hn hL hS (fun z => absurd rfl z) L (fun kn p h z e f => ⟨hin, ry_size _ (by rw [e j hj]; exact k kn p h z e f)⟩))
theorem rx_load0 {post : Int32 → SX → Prop} {v1 v2 v3 : Int32} (hb : rr_bad 12 v1 ∨ rr_bad 12 v2 ∨ rr_bad 2 v3) (k : post (-1) ((nI nl), (nI ns), oc, (nI nr), (nI nc), vs, ss, cs, lt, lb, lf, sb, sf, so, rt, rv, ra, ap, av, af, aw)) : wpX_load post ((nI nl), (nI ns), oc, (nI nr), (nI nc), vs, ss, cs, lt, lb, lf, sb, sf, so, rt, rv, ra, ap, av, af, aw) v1 v2 v3 := by
  unfold wpX_load
  refine rx_isV (fun _ => br_t rfl k) (fun j hj e => br_f (by decide) ?_)
  refine rx_isV (fun _ => br_t rfl k) (fun s hs f => br_f (by decide) ?_)
  refine rx_isF (fun _ => br_t rfl k) (fun t ht g => ?_)
  exact hb.elim (fun b => absurd (e ▸ b) (rr_nb (by decide) hj)) (fun b => b.elim (fun b => absurd (f ▸ b) (rr_nb (by decide) hs)) (fun b => absurd (g ▸ b) (rr_nb (by decide) ht)))
theorem rx_load1 {post : Int32 → SX → Prop} {a b f : Nat} (ha : a < 12) (hb : b < 12) (hf : f < 2) (hl : nl = 20) (k : post (-2) ((nI nl), (nI ns), oc, (nI nr), (nI nc), vs, ss, cs, lt, lb, lf, sb, sf, so, rt, rv, ra, ap, av, af, aw)) : wpX_load post ((nI nl), (nI ns), oc, (nI nr), (nI nc), vs, ss, cs, lt, lb, lf, sb, sf, so, rt, rv, ra, ap, av, af, aw) (nI a) (nI b) (nI f) := by
  unfold wpX_load
  refine rx_isV (fun b => absurd b (rr_nb (by decide) ha)) (fun _ _ _ => br_f (by decide) ?_)
  refine rx_isV (fun b => absurd b (rr_nb (by decide) hb)) (fun _ _ _ => br_f (by decide) ?_)
  exact rx_isF (fun b => absurd b (rr_nb (by decide) hf)) (fun _ _ _ => br_f (by decide) (br_f (nI_nlt (b := 20) (by omega) (by omega)) k))
theorem rx_load {post : Int32 → SX → Prop} {a b f : Nat} (ha : a < 12) (hb : b < 12) (hf : f < 2) (hl : nl < 20) (hn : ns ≤ 20) (hL : rg_RL lt lb lf nl) (hS : rg_RL so sb sf ns) (L : rg_Le (rg_Cl al cs lt lb lf sb sf so nl ns) vs ss)
    (k : ∀ p h, rg_Le (rg_Cl al cs (upd lt nl (nI a)) (upd lb nl (nI b)) (upd lf nl (nI f)) sb sf so (nl + 1) ns) p h → post (nI (rf_pc (p a) 8)) (nI (nl + 1), (nI ns), oc, (nI nr), (nI nc), p, h, cs, upd lt nl (nI a), upd lb nl (nI b), upd lf nl (nI f), sb, sf, so, rt, rv, ra, ap, av, af, aw)) : wpX_load post ((nI nl), (nI ns), oc, (nI nr), (nI nc), vs, ss, cs, lt, lb, lf, sb, sf, so, rt, rv, ra, ap, av, af, aw) (nI a) (nI b) (nI f) := by
  have ej : (nI nl).toNatClampNeg = nl := nI_clamp (by omega)
  have ea : (nI a).toNatClampNeg = a := nI_clamp (by omega)
  have hin : vp_in (nI a) 12 := vp_in_nI ha (by decide)
  have hln : vp_in (nI nl) 20 := vp_in_nI hl (by decide)
  unfold wpX_load
  refine rx_isV (fun b => absurd b (rr_nb (by decide) ha)) (fun _ _ _ => br_f (by decide) ?_)
  refine rx_isV (fun b => absurd b (rr_nb (by decide) hb)) (fun _ _ _ => br_f (by decide) ?_)
  refine rx_isF (fun b => absurd b (rr_nb (by decide) hf)) (fun _ _ _ => br_f (by decide) (br_t (nI_lt (b := 20) hl (by decide)) ?_))
  rw [ej]
  refine ⟨hln, nm_e ⟨hln, nm_e ⟨hln, nm_e (nm_r (nI_1 nl) ?_)⟩⟩⟩
  refine rx_settle (by omega) hn (rs_RL hL hin (vp_in_nI hb (by decide)) (vp_in_nI hf (by decide))) hS L.1 L.2.1 (fun P H c => L.2.2.2 P H (rs_ld c)) L.2.2.1.1 (fun p h M => ⟨hin, rx_cnt _ ?_⟩)
  rw [ea]
  exact k p h M
theorem ry_load0 {post : Int32 → SY → Prop} {v1 v2 v3 : Int32} (hb : rr_bad 12 v1 ∨ rr_bad 12 v2 ∨ rr_bad 2 v3) (k : post (-1) ((nI nl), (nI ns), (nI nr), (nI nc), kn, al, cs, lt, lb, lf, sb, so, sf, sg, rt, rv, ra, ap, av, af, aw, p, h, sp, rch)) : wpY_load post ((nI nl), (nI ns), (nI nr), (nI nc), kn, al, cs, lt, lb, lf, sb, so, sf, sg, rt, rv, ra, ap, av, af, aw, p, h, sp, rch) v1 v2 v3 := by
  unfold wpY_load
  refine ry_bV (fun _ => br_f (by decide) k) (fun j hj e => br_t rfl ?_)
  refine ry_bV (fun _ => br_f (by decide) k) (fun s hs f => br_t rfl ?_)
  refine ry_bF (fun _ => br_f (by decide) k) (fun t ht g => ?_)
  exact hb.elim (fun b => absurd (e ▸ b) (rr_nb (by decide) hj)) (fun b => b.elim (fun b => absurd (f ▸ b) (rr_nb (by decide) hs)) (fun b => absurd (g ▸ b) (rr_nb (by decide) ht)))
theorem ry_load1 {post : Int32 → SY → Prop} {a b f : Nat} (ha : a < 12) (hb : b < 12) (hf : f < 2) (hl : nl = 20) (k : post (-2) ((nI nl), (nI ns), (nI nr), (nI nc), kn, al, cs, lt, lb, lf, sb, so, sf, sg, rt, rv, ra, ap, av, af, aw, p, h, sp, rch)) : wpY_load post ((nI nl), (nI ns), (nI nr), (nI nc), kn, al, cs, lt, lb, lf, sb, so, sf, sg, rt, rv, ra, ap, av, af, aw, p, h, sp, rch) (nI a) (nI b) (nI f) := by
  unfold wpY_load
  refine ry_bV (fun b => absurd b (rr_nb (by decide) ha)) (fun _ _ _ => br_t rfl ?_)
  refine ry_bV (fun b => absurd b (rr_nb (by decide) hb)) (fun _ _ _ => br_t rfl ?_)
  exact ry_bF (fun b => absurd b (rr_nb (by decide) hf)) (fun _ _ _ => br_t rfl (br_t (by rw [hl]; rfl) k))
theorem ry_load {post : Int32 → SY → Prop} {a b f : Nat} (ha : a < 12) (hb : b < 12) (hf : f < 2) (hl : nl < 20) (hn : ns ≤ 20) (hL : rg_RL lt lb lf nl) (hS : rg_RL so sb sf ns) (L : rg_Le (rg_Cl al cs (upd lt nl (nI a)) (upd lb nl (nI b)) (upd lf nl (nI f)) sb sf so (nl + 1) ns) vs ss)
    (k : ∀ kn p h, kn ≠ 0 → rg_Eq 12 vs p → rg_Eq 16 ss h → post (nI (rf_pc (vs a) 8)) (nI (nl + 1), (nI ns), (nI nr), (nI nc), kn, al, cs, upd lt nl (nI a), upd lb nl (nI b), upd lf nl (nI f), sb, so, sf, sg, rt, rv, ra, ap, av, af, aw, p, h, sp, rch)) : wpY_load post ((nI nl), (nI ns), (nI nr), (nI nc), kn, al, cs, lt, lb, lf, sb, so, sf, sg, rt, rv, ra, ap, av, af, aw, p, h, sp, rch) (nI a) (nI b) (nI f) := by
  have ej : (nI nl).toNatClampNeg = nl := nI_clamp (by omega)
  have ea : (nI a).toNatClampNeg = a := nI_clamp (by omega)
  have hin : vp_in (nI a) 12 := vp_in_nI ha (by decide)
  have hln : vp_in (nI nl) 20 := vp_in_nI hl (by decide)
  unfold wpY_load
  refine ry_bV (fun b => absurd b (rr_nb (by decide) ha)) (fun _ _ _ => br_t rfl ?_)
  refine ry_bV (fun b => absurd b (rr_nb (by decide) hb)) (fun _ _ _ => br_t rfl ?_)
  refine ry_bF (fun b => absurd b (rr_nb (by decide) hf)) (fun _ _ _ => br_t rfl (br_f (fun z => absurd ((nI_eq (b := 20) (by omega) (by decide)).mp z) (by omega)) ?_))
  rw [ej]
  refine ⟨hln, nm_e ⟨hln, nm_e ⟨hln, nm_e (nm_r (nI_1 nl) ?_)⟩⟩⟩
  refine ry_work (by omega) hn (rs_RL hL hin (vp_in_nI hb (by decide)) (vp_in_nI hf (by decide))) hS (fun z => absurd rfl z) L (fun kn p h z e f => ⟨hin, ry_size _ ?_⟩)
  rw [ea, e a ha]
  exact k kn p h z e f
theorem rx_store0 {post : Int32 → SX → Prop} {v1 v2 v3 : Int32} (hb : rr_bad 12 v1 ∨ rr_bad 2 v2 ∨ rr_bad 12 v3) (k : post (-1) ((nI nl), (nI ns), oc, (nI nr), (nI nc), vs, ss, cs, lt, lb, lf, sb, sf, so, rt, rv, ra, ap, av, af, aw)) : wpX_store post ((nI nl), (nI ns), oc, (nI nr), (nI nc), vs, ss, cs, lt, lb, lf, sb, sf, so, rt, rv, ra, ap, av, af, aw) v1 v2 v3 := by
  unfold wpX_store
  refine rx_isV (fun _ => br_t rfl k) (fun j hj e => br_f (by decide) ?_)
  refine rx_isF (fun _ => br_t rfl k) (fun s hs f => br_f (by decide) ?_)
  refine rx_isV (fun _ => br_t rfl k) (fun t ht g => ?_)
  exact hb.elim (fun b => absurd (e ▸ b) (rr_nb (by decide) hj)) (fun b => b.elim (fun b => absurd (f ▸ b) (rr_nb (by decide) hs)) (fun b => absurd (g ▸ b) (rr_nb (by decide) ht)))
theorem rx_store1 {post : Int32 → SX → Prop} {a f b : Nat} (ha : a < 12) (hf : f < 2) (hb : b < 12) (hl : ns = 20) (k : post (-2) ((nI nl), (nI ns), oc, (nI nr), (nI nc), vs, ss, cs, lt, lb, lf, sb, sf, so, rt, rv, ra, ap, av, af, aw)) : wpX_store post ((nI nl), (nI ns), oc, (nI nr), (nI nc), vs, ss, cs, lt, lb, lf, sb, sf, so, rt, rv, ra, ap, av, af, aw) (nI a) (nI f) (nI b) := by
  unfold wpX_store
  refine rx_isV (fun b => absurd b (rr_nb (by decide) ha)) (fun _ _ _ => br_f (by decide) ?_)
  refine rx_isF (fun b => absurd b (rr_nb (by decide) hf)) (fun _ _ _ => br_f (by decide) ?_)
  exact rx_isV (fun b => absurd b (rr_nb (by decide) hb)) (fun _ _ _ => br_f (by decide) (br_f (nI_nlt (b := 20) (by omega) (by omega)) k))
theorem rx_store {post : Int32 → SX → Prop} {a f b : Nat} (ha : a < 12) (hf : f < 2) (hb : b < 12) (hl : nl ≤ 20) (hn : ns < 20) (hL : rg_RL lt lb lf nl) (hS : rg_RL so sb sf ns) (L : rg_Le (rg_Cl al cs lt lb lf sb sf so nl ns) vs ss)
    (k : ∀ p h, rg_Le (rg_Cl al cs lt lb lf (upd sb ns (nI a)) (upd sf ns (nI f)) (upd so ns (nI b)) nl (ns + 1)) p h → post 0 ((nI nl), nI (ns + 1), oc, (nI nr), (nI nc), p, h, cs, lt, lb, lf, upd sb ns (nI a), upd sf ns (nI f), upd so ns (nI b), rt, rv, ra, ap, av, af, aw)) : wpX_store post ((nI nl), (nI ns), oc, (nI nr), (nI nc), vs, ss, cs, lt, lb, lf, sb, sf, so, rt, rv, ra, ap, av, af, aw) (nI a) (nI f) (nI b) := by
  have ej : (nI ns).toNatClampNeg = ns := nI_clamp (by omega)
  have hln : vp_in (nI ns) 20 := vp_in_nI hn (by decide)
  unfold wpX_store
  refine rx_isV (fun b => absurd b (rr_nb (by decide) ha)) (fun _ _ _ => br_f (by decide) ?_)
  refine rx_isF (fun b => absurd b (rr_nb (by decide) hf)) (fun _ _ _ => br_f (by decide) ?_)
  refine rx_isV (fun b => absurd b (rr_nb (by decide) hb)) (fun _ _ _ => br_f (by decide) (br_t (nI_lt (b := 20) hn (by decide)) ?_))
  rw [ej]
  refine ⟨hln, nm_e ⟨hln, nm_e ⟨hln, nm_e (nm_r (nI_1 ns) ?_)⟩⟩⟩
  exact rx_settle hl (by omega) hL (rs_RL hS (vp_in_nI hb (by decide)) (vp_in_nI ha (by decide)) (vp_in_nI hf (by decide))) L.1 L.2.1 (fun P H c => L.2.2.2 P H (rs_st c)) L.2.2.1.1 (fun p h M => k p h M)
theorem ry_store0 {post : Int32 → SY → Prop} {v1 v2 v3 : Int32} (hb : rr_bad 12 v1 ∨ rr_bad 2 v2 ∨ rr_bad 12 v3) (k : post (-1) ((nI nl), (nI ns), (nI nr), (nI nc), kn, al, cs, lt, lb, lf, sb, so, sf, sg, rt, rv, ra, ap, av, af, aw, p, h, sp, rch)) : wpY_store post ((nI nl), (nI ns), (nI nr), (nI nc), kn, al, cs, lt, lb, lf, sb, so, sf, sg, rt, rv, ra, ap, av, af, aw, p, h, sp, rch) v1 v2 v3 := by
  unfold wpY_store
  refine ry_bV (fun _ => br_f (by decide) k) (fun j hj e => br_t rfl ?_)
  refine ry_bV (fun _ => br_f (by decide) k) (fun t ht g => br_t rfl ?_)
  refine ry_bF (fun _ => br_f (by decide) k) (fun s hs f => ?_)
  exact hb.elim (fun b => absurd (e ▸ b) (rr_nb (by decide) hj)) (fun b => b.elim (fun b => absurd (f ▸ b) (rr_nb (by decide) hs)) (fun b => absurd (g ▸ b) (rr_nb (by decide) ht)))
theorem ry_store1 {post : Int32 → SY → Prop} {a f b : Nat} (ha : a < 12) (hf : f < 2) (hb : b < 12) (hl : ns = 20) (k : post (-2) ((nI nl), (nI ns), (nI nr), (nI nc), kn, al, cs, lt, lb, lf, sb, so, sf, sg, rt, rv, ra, ap, av, af, aw, p, h, sp, rch)) : wpY_store post ((nI nl), (nI ns), (nI nr), (nI nc), kn, al, cs, lt, lb, lf, sb, so, sf, sg, rt, rv, ra, ap, av, af, aw, p, h, sp, rch) (nI a) (nI f) (nI b) := by
  unfold wpY_store
  refine ry_bV (fun b => absurd b (rr_nb (by decide) ha)) (fun _ _ _ => br_t rfl ?_)
  refine ry_bV (fun b => absurd b (rr_nb (by decide) hb)) (fun _ _ _ => br_t rfl ?_)
  exact ry_bF (fun b => absurd b (rr_nb (by decide) hf)) (fun _ _ _ => br_t rfl (br_t (by rw [hl]; rfl) k))
theorem ry_store {post : Int32 → SY → Prop} {a f b : Nat} (ha : a < 12) (hf : f < 2) (hb : b < 12) (hn : ns < 20)
    (k : post 0 ((nI nl), nI (ns + 1), (nI nr), (nI nc), 0, al, cs, lt, lb, lf, upd sb ns (nI a), upd so ns (nI b), upd sf ns (nI f), sg, rt, rv, ra, ap, av, af, aw, p, h, sp, rch)) : wpY_store post ((nI nl), (nI ns), (nI nr), (nI nc), kn, al, cs, lt, lb, lf, sb, so, sf, sg, rt, rv, ra, ap, av, af, aw, p, h, sp, rch) (nI a) (nI f) (nI b) := by
  have ej : (nI ns).toNatClampNeg = ns := nI_clamp (by omega)
  have hln : vp_in (nI ns) 20 := vp_in_nI hn (by decide)
  unfold wpY_store
  refine ry_bV (fun b => absurd b (rr_nb (by decide) ha)) (fun _ _ _ => br_t rfl ?_)
  refine ry_bV (fun b => absurd b (rr_nb (by decide) hb)) (fun _ _ _ => br_t rfl ?_)
  refine ry_bF (fun b => absurd b (rr_nb (by decide) hf)) (fun _ _ _ => br_t rfl (br_f (fun z => absurd ((nI_eq (b := 20) (by omega) (by decide)).mp z) (by omega)) ?_))
  rw [ej]
  exact ⟨hln, nm_e ⟨hln, nm_e ⟨hln, nm_e (nm_r (nI_1 ns) k)⟩⟩⟩
/-! ===== the owed ones ===== -/
end
