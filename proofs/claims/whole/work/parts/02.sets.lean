/-! ===== the smallest sets, by masks; a sweep over them; counting ===== -/
/-- (P, H) keeps every statement given: allocs al, copies cs, nl loads, ns stores -/
def rg_Cl (al cs lt lb lf sb sf so : Nat → Int32) (nl ns : Nat) (P H : Nat → Int32) : Prop :=
  (∀ v, v < 12 → rf_sub (al v) (P v)) ∧
  (∀ v w, v < 12 → w < 12 → bt (cs v) w = true → rf_sub (P w) (P v)) ∧
  (∀ i s, i < nl → s < 8 → bt (P (lb i).toNatClampNeg) s = true → rf_sub (H (s * 2 + (lf i).toNatClampNeg)) (P (lt i).toNatClampNeg)) ∧
  (∀ i s, i < ns → s < 8 → bt (P (sb i).toNatClampNeg) s = true → rf_sub (P (so i).toNatClampNeg) (H (s * 2 + (sf i).toNatClampNeg)))
def rg_Wi (P H p h : Nat → Int32) : Prop := (∀ v, v < 12 → rf_sub (p v) (P v)) ∧ (∀ i, i < 16 → rf_sub (h i) (H i))
def rg_Mo (N : Nat) (p0 p : Nat → Int32) : Prop := ∀ j, j < N → rf_sub (p0 j) (p j)
def rg_Eq (N : Nat) (p0 p : Nat → Int32) : Prop := ∀ j, j < N → p j = p0 j
def rg_B8 (N : Nat) (p : Nat → Int32) : Prop := ∀ j, j < N → rf_b8 (p j)
/-- (p, h) is the smallest pair that keeps C -/
def rg_Le (C : (Nat → Int32) → (Nat → Int32) → Prop) (p h : Nat → Int32) : Prop :=
  rg_B8 12 p ∧ rg_B8 16 h ∧ C p h ∧ ∀ P H, C P H → rg_Wi P H p h
theorem rg_uniq {C : (Nat → Int32) → (Nat → Int32) → Prop} {p h q g : Nat → Int32} (a : rg_Le C p h) (b : rg_Le C q g) : rg_Eq 12 q p ∧ rg_Eq 16 g h := by
  obtain ⟨_, _, a1, a2⟩ := a
  obtain ⟨_, _, b1, b2⟩ := b
  have x := a2 _ _ b1
  have y := b2 _ _ a1
  exact ⟨fun j hj => rf_suba (x.1 j hj) (y.1 j hj), fun j hj => rf_suba (x.2 j hj) (y.2 j hj)⟩
/-- a sweep that began at (p0, h0) stands at (p, h); D: what holds of (p0, h0) if nothing was added -/
def rg_SI (C : (Nat → Int32) → (Nat → Int32) → Prop) (D : Prop) (p0 h0 p h : Nat → Int32) : Prop :=
  rg_Mo 12 p0 p ∧ rg_Mo 16 h0 h ∧ rg_B8 12 p ∧ rg_B8 16 h ∧ (∀ P H, C P H → rg_Wi P H p h) ∧ (rg_Eq 12 p0 p → rg_Eq 16 h0 h → D)
theorem rg_upMo {N v : Nat} {p0 p : Nat → Int32} {x : Int32} (m : rg_Mo N p0 p) : rg_Mo N p0 (upd p v (p v ||| x)) := by
  intro j hj
  by_cases e : j = v
  · subst e; rw [pk_us]; exact rf_subt (m j hj) (rf_orl _ _)
  · rw [pk_un e]; exact m j hj
theorem rg_upB8 {N v : Nat} {p : Nat → Int32} {x : Int32} (m : rg_B8 N p) (hx : rf_b8 x) : rg_B8 N (upd p v (p v ||| x)) := by
  intro j hj
  by_cases e : j = v
  · subst e; rw [pk_us]; exact rf_b8or (m j hj) hx
  · rw [pk_un e]; exact m j hj
theorem rg_upE {N v : Nat} {p0 p : Nat → Int32} {x : Int32} (m : rg_Mo N p0 p) (hv : v < N) (e : rg_Eq N p0 (upd p v (p v ||| x))) : rg_Eq N p0 p ∧ rf_sub x (p0 v) := by
  have ev := e v hv
  rw [pk_us] at ev
  have pv : p v = p0 v := rf_suba (by rw [← ev]; exact rf_orl _ _) (m v hv)
  refine ⟨fun j hj => ?_, by rw [← ev]; exact rf_orr _ _⟩
  by_cases z : j = v
  · rw [z]; exact pv
  · have := e j hj
    rw [pk_un z] at this
    exact this
theorem rg_opp {C : (Nat → Int32) → (Nat → Int32) → Prop} {D D' : Prop} {p0 h0 p h : Nat → Int32} {v : Nat} {x : Int32} (S : rg_SI C D p0 h0 p h) (hv : v < 12) (hx : rf_b8 x) (hw : ∀ P H, C P H → rg_Wi P H p h → rf_sub x (P v)) (k : D → rg_Eq 12 p0 p → rg_Eq 16 h0 h → rf_sub x (p0 v) → D') : rg_SI C D' p0 h0 (upd p v (p v ||| x)) h := by
  obtain ⟨a, b, c, d, e, f⟩ := S
  refine ⟨rg_upMo a, b, rg_upB8 c hx, d, fun P H hc => ⟨fun j hj => ?_, (e P H hc).2⟩, fun q r => ?_⟩
  · by_cases z : j = v
    · subst z; rw [pk_us]; exact rf_ors ((e P H hc).1 j hj) (hw P H hc (e P H hc))
    · rw [pk_un z]; exact (e P H hc).1 j hj
  · have := rg_upE a hv q
    exact k (f this.1 r) this.1 r this.2
theorem rg_oph {C : (Nat → Int32) → (Nat → Int32) → Prop} {D D' : Prop} {p0 h0 p h : Nat → Int32} {v : Nat} {x : Int32} (S : rg_SI C D p0 h0 p h) (hv : v < 16) (hx : rf_b8 x) (hw : ∀ P H, C P H → rg_Wi P H p h → rf_sub x (H v)) (k : D → rg_Eq 12 p0 p → rg_Eq 16 h0 h → rf_sub x (h0 v) → D') : rg_SI C D' p0 h0 p (upd h v (h v ||| x)) := by
  obtain ⟨a, b, c, d, e, f⟩ := S
  refine ⟨a, rg_upMo b, c, rg_upB8 d hx, fun P H hc => ⟨(e P H hc).1, fun j hj => ?_⟩, fun q r => ?_⟩
  · by_cases z : j = v
    · subst z; rw [pk_us]; exact rf_ors ((e P H hc).2 j hj) (hw P H hc (e P H hc))
    · rw [pk_un z]; exact (e P H hc).2 j hj
  · have := rg_upE b hv r
    exact k (f q this.1) q this.1 this.2
theorem rg_opn {C : (Nat → Int32) → (Nat → Int32) → Prop} {D D' : Prop} {p0 h0 p h : Nat → Int32} (S : rg_SI C D p0 h0 p h) (k : D → rg_Eq 12 p0 p → rg_Eq 16 h0 h → D') : rg_SI C D' p0 h0 p h := by
  obtain ⟨a, b, c, d, e, f⟩ := S
  exact ⟨a, b, c, d, e, fun q r => k (f q r) q r⟩
theorem rg_op0 {C : (Nat → Int32) → (Nat → Int32) → Prop} {D : Prop} {p h : Nat → Int32} (c : rg_B8 12 p) (d : rg_B8 16 h) (e : ∀ P H, C P H → rg_Wi P H p h) (k : D) : rg_SI C D p h p h :=
  ⟨fun _ _ => rf_subr _, fun _ _ => rf_subr _, c, d, e, fun _ _ => k⟩
/-- g tells whether something was added -/
def rg_G (g : Int32) (p0 h0 p h : Nat → Int32) : Prop := g = 0 ↔ (rg_Eq 12 p0 p ∧ rg_Eq 16 h0 h)
theorem rg_upid {p : Nat → Int32} {v j : Nat} {x : Int32} (h : rf_sub x (p v)) : upd p v (p v ||| x) j = p j := by
  by_cases e : j = v
  · subst e; rw [pk_us, rf_orid h]
  · rw [pk_un e]
theorem rg_Gp {g x : Int32} {p0 h0 p h : Nat → Int32} {v : Nat} (m : rg_Mo 12 p0 p) (hv : v < 12) (G : rg_G g p0 h0 p h) : rg_G (g ||| (x &&& (p v ^^^ (-1)))) p0 h0 (upd p v (p v ||| x)) h := by
  unfold rg_G at *
  rw [rf_or0, rf_fr0, G]
  constructor
  · rintro ⟨⟨a, b⟩, c⟩
    exact ⟨fun j hj => by rw [rg_upid c]; exact a j hj, b⟩
  · rintro ⟨a, b⟩
    have := rg_upE m hv a
    exact ⟨⟨this.1, b⟩, by rw [this.1 v hv]; exact this.2⟩
theorem rg_Gh {g x : Int32} {p0 h0 p h : Nat → Int32} {v : Nat} (m : rg_Mo 16 h0 h) (hv : v < 16) (G : rg_G g p0 h0 p h) : rg_G (g ||| (x &&& (h v ^^^ (-1)))) p0 h0 p (upd h v (h v ||| x)) := by
  unfold rg_G at *
  rw [rf_or0, rf_fr0, G]
  constructor
  · rintro ⟨⟨a, b⟩, c⟩
    exact ⟨a, fun j hj => by rw [rg_upid c]; exact b j hj⟩
  · rintro ⟨a, b⟩
    have := rg_upE m hv b
    exact ⟨⟨a, this.1⟩, by rw [this.1 v hv]; exact this.2⟩
/-- what a loop in a loop has done -/
def rg_Dn (N : Nat) (Q : Nat → Nat → Prop) (i j : Nat) : Prop := ∀ a b, b < N → (a < i ∨ (a = i ∧ b < j)) → Q a b
theorem rg_Dn0 {N : Nat} {Q : Nat → Nat → Prop} : rg_Dn N Q 0 0 := fun a b _ h => by omega
theorem rg_DnS {N : Nat} {Q : Nat → Nat → Prop} {i j : Nat} (h : rg_Dn N Q i j) (q : Q i j) : rg_Dn N Q i (j + 1) := fun a b hb h' => by
  by_cases z : a = i ∧ b = j
  · rw [z.1, z.2]; exact q
  · exact h a b hb (by omega)
theorem rg_DnE {N : Nat} {Q : Nat → Nat → Prop} {i : Nat} (h : rg_Dn N Q i N) : rg_Dn N Q (i + 1) 0 := fun a b hb h' => h a b hb (by omega)
theorem rg_DnA {N M : Nat} {Q : Nat → Nat → Prop} (h : rg_Dn N Q M 0) {a b : Nat} (ha : a < M) (hb : b < N) : Q a b := h a b hb (Or.inl ha)
/-- how many sites in the first n sets -/
def rg_ct (f : Nat → Int32) : Nat → Nat
  | 0 => 0
  | n + 1 => rg_ct f n + rf_pc (f n) 8
theorem rg_ctle (f : Nat → Int32) : ∀ n, rg_ct f n ≤ 8 * n
  | 0 => Nat.le_refl _
  | n + 1 => by
    have a := rg_ctle f n
    have b := rf_pcle (f n) 8
    show rg_ct f n + _ ≤ _
    omega
theorem rg_ctm {f g : Nat → Int32} : ∀ n, rg_Mo n f g → rg_ct f n ≤ rg_ct g n
  | 0 => fun _ => Nat.le_refl _
  | n + 1 => fun m => by
    have a := rg_ctm n (fun j hj => m j (by omega))
    have b := rf_pcm (m n (by omega)) 8
    show rg_ct f n + _ ≤ rg_ct g n + _
    omega
theorem rg_cte {f g : Nat → Int32} : ∀ n, rg_Mo n f g → rg_B8 n g → rg_ct g n ≤ rg_ct f n → rg_Eq n f g
  | 0 => fun _ _ _ j hj => absurd hj (Nat.not_lt_zero j)
  | n + 1 => fun m k e j hj => by
    have e : rg_ct g n + rf_pc (g n) 8 ≤ rg_ct f n + rf_pc (f n) 8 := e
    have m' : rg_Mo n f g := fun j hj => m j (by omega)
    have a := rg_ctm n m'
    have b := rf_pcm (m n (by omega)) 8
    rcases Nat.lt_or_ge j n with z | z
    · exact rg_cte n m' (fun j hj => k j (by omega)) (by omega) j z
    · obtain rfl : j = n := by omega
      exact rf_pc8 (m j (by omega)) (k j (by omega)) (by omega)
theorem rg_ctE {f g : Nat → Int32} : ∀ n, rg_Eq n f g → rg_ct g n = rg_ct f n
  | 0 => fun _ => rfl
  | n + 1 => fun e => by
    have a := rg_ctE n (fun j hj => e j (by omega))
    show rg_ct g n + rf_pc (g n) 8 = rg_ct f n + rf_pc (f n) 8
    rw [a, e n (by omega)]
/-- a sweep that adds no site leaves all as it was -/
theorem rg_same {C : (Nat → Int32) → (Nat → Int32) → Prop} {D : Prop} {p0 h0 p h : Nat → Int32} (S : rg_SI C D p0 h0 p h) (e : rg_ct p 12 + rg_ct h 16 ≤ rg_ct p0 12 + rg_ct h0 16) : rg_Eq 12 p0 p ∧ rg_Eq 16 h0 h := by
  obtain ⟨a, b, c, d, _, _⟩ := S
  have x := rg_ctm 12 a
  have y := rg_ctm 16 b
  exact ⟨rg_cte 12 a c (by omega), rg_cte 16 b d (by omega)⟩
theorem rg_grow {C : (Nat → Int32) → (Nat → Int32) → Prop} {D : Prop} {p0 h0 p h : Nat → Int32} (S : rg_SI C D p0 h0 p h) : rg_ct p0 12 + rg_ct h0 16 ≤ rg_ct p 12 + rg_ct h 16 := by
  have x := rg_ctm 12 S.1
  have y := rg_ctm 16 S.2.1
  omega
/-- indices -/
theorem rg_lt {x : Int32} {n : Nat} (h : vp_in x n) (hn : n < 2 ^ 31) : x.toNatClampNeg < n := by
  obtain ⟨j, hj, rfl⟩ := vp_in_of h hn
  rw [nI_clamp (by omega)]; exact hj
theorem rg_slot {y : Int32} {s : Nat} (hs : s < 8) (hy : vp_in y 2) : vp_in (nI s * 2 + y) 16 ∧ (nI s * 2 + y).toNatClampNeg = s * 2 + y.toNatClampNeg := by
  obtain ⟨j, hj, rfl⟩ := vp_in_of hy (by decide)
  have e : nI s * 2 + nI j = nI (s * 2 + j) := by rw [← nI_add, ← pk_mul]; rfl
  rw [e, nI_clamp (by omega), nI_clamp (by omega)]
  exact ⟨vp_in_nI (by omega) (by omega), rfl⟩
/-- the three kinds of statement, at one place each -/
def rg_Qc (cs p : Nat → Int32) (v w : Nat) : Prop := bt (cs v) w = true → rf_sub (p w) (p v)
def rg_Ql (lt lb lf p h : Nat → Int32) (i s : Nat) : Prop := bt (p (lb i).toNatClampNeg) s = true → rf_sub (h (s * 2 + (lf i).toNatClampNeg)) (p (lt i).toNatClampNeg)
def rg_Qs (sb sf so p h : Nat → Int32) (i s : Nat) : Prop := bt (p (sb i).toNatClampNeg) s = true → rf_sub (p (so i).toNatClampNeg) (h (s * 2 + (sf i).toNatClampNeg))
/-- the statements' numbers are within -/
def rg_RL (lt lb lf : Nat → Int32) (nl : Nat) : Prop := ∀ i, i < nl → vp_in (lt i) 12 ∧ vp_in (lb i) 12 ∧ vp_in (lf i) 2
theorem rg_mk {al cs lt lb lf sb sf so p h : Nat → Int32} {nl ns : Nat} (a : ∀ v, v < 12 → rf_sub (al v) (p v)) (b : rg_Dn 12 (rg_Qc cs p) 12 0) (c : rg_Dn 8 (rg_Ql lt lb lf p h) nl 0) (d : rg_Dn 8 (rg_Qs sb sf so p h) ns 0) : rg_Cl al cs lt lb lf sb sf so nl ns p h :=
  ⟨a, fun _ _ hv hw => rg_DnA b hv hw, fun _ _ hi hs => rg_DnA c hi hs, fun _ _ hi hs => rg_DnA d hi hs⟩
theorem rg_ClE {al cs lt lb lf sb sf so p h q g : Nat → Int32} {nl ns : Nat} (hL : rg_RL lt lb lf nl) (hS : rg_RL so sb sf ns) (e : rg_Eq 12 p q) (f : rg_Eq 16 h g) (c : rg_Cl al cs lt lb lf sb sf so nl ns p h) : rg_Cl al cs lt lb lf sb sf so nl ns q g := by
  obtain ⟨c1, c2, c3, c4⟩ := c
  refine ⟨fun v hv => by rw [e v hv]; exact c1 v hv, fun v w hv hw hb => by rw [e v hv, e w hw]; exact c2 v w hv hw hb, fun i s hi hs hb => ?_, fun i s hi hs hb => ?_⟩
  · obtain ⟨a1, a2, a3⟩ := hL i hi
    have a1 := rg_lt a1 (by decide)
    have a2 := rg_lt a2 (by decide)
    have a3 := rg_lt a3 (by decide)
    rw [e _ a1, f _ (by omega)]
    rw [e _ a2] at hb
    exact c3 i s hi hs hb
  · obtain ⟨a1, a2, a3⟩ := hS i hi
    have a1 := rg_lt a1 (by decide)
    have a2 := rg_lt a2 (by decide)
    have a3 := rg_lt a3 (by decide)
    rw [e _ a1, f _ (by omega)]
    rw [e _ a2] at hb
    exact c4 i s hi hs hb
