/-! ===== the relation; tests of numbers ===== -/
def rr_R (rt rv ra : Nat → Int32) (nr : Nat) : Prop := ∀ i, i < nr → vp_in (rv i) 12 ∧ (ra i < 0 ∨ vp_in (ra i) nr) ∧ vp_in (rt i) 4
def rr_A (ap av : Nat → Int32) (nr nc : Nat) : Prop := ∀ i, i < nc → vp_in (ap i) (4 + nr) ∧ vp_in (av i) 12
def rr_O (oc : Int32) (sg : Nat → Int32) : Prop := ∀ s, s < 8 → (bt oc s = true ↔ sg s ≠ 0)
def rr_F (nl ns nr nc : Nat) (oc kn : Int32) (vs ss cs lt lb lf sb sf so rt rv ra ap av al sg p h : Nat → Int32) : Prop :=
  nl ≤ 20 ∧ ns ≤ 20 ∧ nr ≤ 12 ∧ nc ≤ 16 ∧ rg_RL lt lb lf nl ∧ rg_RL so sb sf ns ∧ rr_O oc sg ∧ rr_R rt rv ra nr ∧ rr_A ap av nr nc ∧ rg_Le (rg_Cl al cs lt lb lf sb sf so nl ns) vs ss ∧ (kn ≠ 0 → rg_Eq 12 vs p ∧ rg_Eq 16 ss h)
def i_Rel (k : Nat) (u : SX) (v : SY) : Prop :=
  ∃ (nl ns nr nc : Nat) (oc kn : Int32) (vs ss cs lt lb lf sb sf so rt rv ra ap av af aw al sg p h sp rch : Nat → Int32),
    u = ((nI nl), (nI ns), oc, (nI nr), (nI nc), vs, ss, cs, lt, lb, lf, sb, sf, so, rt, rv, ra, ap, av, af, aw) ∧ v = ((nI nl), (nI ns), (nI nr), (nI nc), kn, al, cs, lt, lb, lf, sb, so, sf, sg, rt, rv, ra, ap, av, af, aw, p, h, sp, rch) ∧ rr_F nl ns nr nc oc kn vs ss cs lt lb lf sb sf so rt rv ra ap av al sg p h
def rr_bad (n : Nat) (v : Int32) : Prop := v < 0 ∨ nI n ≤ v
theorem rr_cs (n : Nat) (v : Int32) (hn : n < 2 ^ 31) : rr_bad n v ∨ ∃ j : Nat, j < n ∧ v = nI j := by
  rcases pk_ix v hn with a | a | a
  · exact Or.inl (Or.inl a)
  · exact Or.inl (Or.inr a)
  · exact Or.inr a
theorem rr_nb {n j : Nat} (hn : n < 2 ^ 31) (h : j < n) : ¬ rr_bad n (nI j) := by
  rintro (a | a)
  · exact nI_pos (by omega) a
  · exact nI_ge h hn a
theorem rr_gt {v M N : Int32} (h : N ≤ v) (hM : M.toInt < N.toInt) : ¬ v ≤ M := by
  rw [Int32.le_iff_toInt_le] at *
  omega
theorem rr_vb0 : vp_nar .boolean 0 = 0 := rfl
theorem rr_vb1 : vp_nar .boolean 1 = 1 := rfl
section
variable {nl ns nr nc : Nat} {oc kn : Int32} {vs ss cs lt lb lf sb sf so rt rv ra ap av af aw al sg p h sp rch : Nat → Int32}
theorem rr_mk {k : Nat} (F : rr_F nl ns nr nc oc kn vs ss cs lt lb lf sb sf so rt rv ra ap av al sg p h) : i_Rel k ((nI nl), (nI ns), oc, (nI nr), (nI nc), vs, ss, cs, lt, lb, lf, sb, sf, so, rt, rv, ra, ap, av, af, aw) ((nI nl), (nI ns), (nI nr), (nI nc), kn, al, cs, lt, lb, lf, sb, so, sf, sg, rt, rv, ra, ap, av, af, aw, p, h, sp, rch) :=
  ⟨nl, ns, nr, nc, oc, kn, vs, ss, cs, lt, lb, lf, sb, sf, so, rt, rv, ra, ap, av, af, aw, al, sg, p, h, sp, rch, rfl, rfl, F⟩
/-! the component's tests -/
theorem rx_isV {post : Int32 → Prop} {v : Int32} (a : rr_bad 12 v → post 0) (b : ∀ j, j < 12 → v = nI j → post 1) : wpX_isVariable post ((nI nl), (nI ns), oc, (nI nr), (nI nc), vs, ss, cs, lt, lb, lf, sb, sf, so, rt, rv, ra, ap, av, af, aw) v :=
  br_c (fun z => a (Or.inl z)) (fun z => br_c (fun y => a (Or.inr y)) (fun y => by
    rcases rr_cs 12 v (by decide) with (c | c) | ⟨j, hj, e⟩
    · exact absurd c z
    · exact absurd c y
    · exact b j hj e))
theorem rx_isS {post : Int32 → Prop} {v : Int32} (a : rr_bad 8 v → post 0) (b : ∀ j, j < 8 → v = nI j → post 1) : wpX_isSite post ((nI nl), (nI ns), oc, (nI nr), (nI nc), vs, ss, cs, lt, lb, lf, sb, sf, so, rt, rv, ra, ap, av, af, aw) v :=
  br_c (fun z => a (Or.inl z)) (fun z => br_c (fun y => a (Or.inr y)) (fun y => by
    rcases rr_cs 8 v (by decide) with (c | c) | ⟨j, hj, e⟩
    · exact absurd c z
    · exact absurd c y
    · exact b j hj e))
theorem rx_isF {post : Int32 → Prop} {v : Int32} (a : rr_bad 2 v → post 0) (b : ∀ j, j < 2 → v = nI j → post 1) : wpX_isField post ((nI nl), (nI ns), oc, (nI nr), (nI nc), vs, ss, cs, lt, lb, lf, sb, sf, so, rt, rv, ra, ap, av, af, aw) v :=
  br_c (fun z => a (Or.inl z)) (fun z => br_c (fun y => a (Or.inr y)) (fun y => by
    rcases rr_cs 2 v (by decide) with (c | c) | ⟨j, hj, e⟩
    · exact absurd c z
    · exact absurd c y
    · exact b j hj e))
theorem rx_isT {post : Int32 → Prop} {v : Int32} (a : rr_bad 4 v → post 0) (b : ∀ j, j < 4 → v = nI j → post 1) : wpX_isThread post ((nI nl), (nI ns), oc, (nI nr), (nI nc), vs, ss, cs, lt, lb, lf, sb, sf, so, rt, rv, ra, ap, av, af, aw) v :=
  br_c (fun z => a (Or.inl z)) (fun z => br_c (fun y => a (Or.inr y)) (fun y => by
    rcases rr_cs 4 v (by decide) with (c | c) | ⟨j, hj, e⟩
    · exact absurd c z
    · exact absurd c y
    · exact b j hj e))
theorem rx_isR {post : Int32 → Prop} {v : Int32} (hn : nr ≤ 12) (a : rr_bad nr v → post 0) (b : ∀ j, j < nr → v = nI j → post 1) : wpX_isRegion post ((nI nl), (nI ns), oc, (nI nr), (nI nc), vs, ss, cs, lt, lb, lf, sb, sf, so, rt, rv, ra, ap, av, af, aw) v :=
  br_c (fun z => a (Or.inl z)) (fun z => br_c (fun y => a (Or.inr y)) (fun y => by
    rcases rr_cs nr v (by omega) with (c | c) | ⟨j, hj, e⟩
    · exact absurd c z
    · exact absurd c y
    · exact b j hj e))
theorem rx_isA {post : Int32 → Prop} {v : Int32} (hn : nc ≤ 16) (a : rr_bad nc v → post 0) (b : ∀ j, j < nc → v = nI j → post 1) : wpX_isAccess post ((nI nl), (nI ns), oc, (nI nr), (nI nc), vs, ss, cs, lt, lb, lf, sb, sf, so, rt, rv, ra, ap, av, af, aw) v :=
  br_c (fun z => a (Or.inl z)) (fun z => br_c (fun y => a (Or.inr y)) (fun y => by
    rcases rr_cs nc v (by omega) with (c | c) | ⟨j, hj, e⟩
    · exact absurd c z
    · exact absurd c y
    · exact b j hj e))
theorem rr_4 (n : Nat) : (4 : Int32) + nI n = nI (4 + n) := nI_add 4 n
theorem rx_isP {post : Int32 → Prop} {v : Int32} (hn : nr ≤ 12) (a : rr_bad (4 + nr) v → post 0) (b : ∀ j, j < 4 + nr → v = nI j → post 1) : wpX_isPlace post ((nI nl), (nI ns), oc, (nI nr), (nI nc), vs, ss, cs, lt, lb, lf, sb, sf, so, rt, rv, ra, ap, av, af, aw) v :=
  br_c (fun z => a (Or.inl z)) (fun z => br_c (fun y => a (Or.inr (by rw [← rr_4]; exact y))) (fun y => by
    rcases rr_cs (4 + nr) v (by omega) with (c | c) | ⟨j, hj, e⟩
    · exact absurd c z
    · rw [rr_4] at y; exact absurd c y
    · exact b j hj e))
/-! the reference's -/
theorem ry_bV {post : Int32 → Prop} {v : Int32} (a : rr_bad 12 v → post 1) (b : ∀ j, j < 12 → v = nI j → post 0) : wpY_badV post ((nI nl), (nI ns), (nI nr), (nI nc), kn, al, cs, lt, lb, lf, sb, so, sf, sg, rt, rv, ra, ap, av, af, aw, p, h, sp, rch) v :=
  br_c (fun z => a (Or.inl z)) (fun z => by
    rcases rr_cs 12 v (by decide) with (c | c) | ⟨j, hj, e⟩
    · exact absurd c z
    · exact br_f (rr_gt c (by decide)) (a (Or.inr c))
    · exact br_t (by rw [e]; exact nI_le (b := 11) (by omega) (by decide)) (b j hj e))
theorem ry_bF {post : Int32 → Prop} {v : Int32} (a : rr_bad 2 v → post 1) (b : ∀ j, j < 2 → v = nI j → post 0) : wpY_badF post ((nI nl), (nI ns), (nI nr), (nI nc), kn, al, cs, lt, lb, lf, sb, so, sf, sg, rt, rv, ra, ap, av, af, aw, p, h, sp, rch) v :=
  br_c (fun z => a (Or.inl z)) (fun z => by
    rcases rr_cs 2 v (by decide) with (c | c) | ⟨j, hj, e⟩
    · exact absurd c z
    · exact br_f (rr_gt c (by decide)) (a (Or.inr c))
    · exact br_t (by rw [e]; exact nI_le (b := 1) (by omega) (by decide)) (b j hj e))
theorem ry_bP {post : Int32 → Prop} {v : Int32} (hn : nr ≤ 12) (a : rr_bad (4 + nr) v → post 1) (b : ∀ j, j < 4 + nr → v = nI j → post 0) : wpY_badPlace post ((nI nl), (nI ns), (nI nr), (nI nc), kn, al, cs, lt, lb, lf, sb, so, sf, sg, rt, rv, ra, ap, av, af, aw, p, h, sp, rch) v :=
  br_c (fun z => a (Or.inl z)) (fun z => by
    rcases rr_cs (4 + nr) v (by omega) with (c | c) | ⟨j, hj, e⟩
    · exact absurd c z
    · exact br_f (by rw [rr_4]; exact Int32.not_lt.mpr c) (a (Or.inr c))
    · exact br_t (by rw [rr_4, e]; exact nI_lt hj (by omega)) (b j hj e))
end
