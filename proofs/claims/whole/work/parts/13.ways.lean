/-! ===== ways over steps: the component's closure by stages, the reference's by rounds ===== -/
def rd_W (R : Nat → Nat → Prop) : Nat → Nat → Nat → Prop
  | 0 => R
  | k + 1 => fun s t => rd_W R k s t ∨ (rd_W R k s k ∧ rd_W R k k t)
theorem rd_Wc {R : Nat → Nat → Prop} {s t : Nat} (h : R s t) : ∀ k, rd_W R k s t
  | 0 => h
  | k + 1 => Or.inl (rd_Wc h k)
theorem rd_Wtr {R : Nat → Nat → Prop} : ∀ k m s t, m < k → rd_W R k s m → rd_W R k m t → rd_W R k s t
  | 0 => fun m _ _ h _ _ => absurd h (Nat.not_lt_zero m)
  | k + 1 => fun m s t h a b => by
    have ih := @rd_Wtr R k
    have a : rd_W R k s m ∨ (rd_W R k s k ∧ rd_W R k k m) := a
    have b : rd_W R k m t ∨ (rd_W R k m k ∧ rd_W R k k t) := b
    show rd_W R k s t ∨ (rd_W R k s k ∧ rd_W R k k t)
    by_cases e : m = k
    · subst e
      refine Or.inr ⟨?_, ?_⟩
      · exact a.elim id (fun a => a.1)
      · exact b.elim id (fun b => b.2)
    · have h : m < k := by omega
      rcases a with a | a <;> rcases b with b | b
      · exact Or.inl (ih m s t h a b)
      · exact Or.inr ⟨ih m s k h a b.1, b.2⟩
      · exact Or.inr ⟨a.1, ih m k t h a.2 b⟩
      · exact Or.inr ⟨a.1, b.2⟩
theorem rd_Wmin {R U : Nat → Nat → Prop} (h : ∀ a b, R a b → U a b) (tr : ∀ a b c, a < 8 → b < 8 → U a b → U b c → U a c) : ∀ k s t, k ≤ 8 → s < 8 → rd_W R k s t → U s t
  | 0 => fun s t _ _ a => h s t a
  | k + 1 => fun s t hk hs a => by
    have a : rd_W R k s t ∨ (rd_W R k s k ∧ rd_W R k k t) := a
    rcases a with a | a
    · exact rd_Wmin h tr k s t (by omega) hs a
    · exact tr s k t hs (by omega) (rd_Wmin h tr k s k (by omega) hs a.1) (rd_Wmin h tr k k t (by omega) (by omega) a.2)
def rd_V (R : Nat → Nat → Prop) : Nat → Nat → Nat → Prop
  | 0 => fun s t => t = s
  | k + 1 => fun s t => rd_V R k s t ∨ ∃ a, a < 8 ∧ rd_V R k s a ∧ R a t
theorem rd_Vr {R : Nat → Nat → Prop} (s : Nat) : ∀ k, rd_V R k s s
  | 0 => rfl
  | k + 1 => Or.inl (rd_Vr s k)
theorem rd_Vmin {R : Nat → Nat → Prop} {U : Nat → Prop} {s : Nat} (h : U s) (c : ∀ a t, a < 8 → U a → R a t → U t) : ∀ k t, rd_V R k s t → U t
  | 0 => fun t e => by
    have e : t = s := e
    rw [e]; exact h
  | k + 1 => fun t e => by
    rcases e with e | ⟨a, ha, e, r⟩
    · exact rd_Vmin h c k t e
    · exact c a t ha (rd_Vmin h c k a e) r
theorem rd_sle {f g : Nat → Nat} : ∀ n, (∀ i, i < n → f i ≤ g i) → rh_s f n ≤ rh_s g n
  | 0 => fun _ => Nat.le_refl _
  | n + 1 => fun h => by
    have a := rd_sle n (fun i hi => h i (by omega))
    have b := h n (by omega)
    rw [rh_sS, rh_sS]
    omega
theorem rd_slt {f g : Nat → Nat} : ∀ n, (∀ i, i < n → f i ≤ g i) → (∃ i, i < n ∧ f i < g i) → rh_s f n < rh_s g n
  | 0 => fun _ ⟨i, h, _⟩ => absurd h (Nat.not_lt_zero i)
  | n + 1 => fun h ⟨i, hi, l⟩ => by
    have b := h n (by omega)
    rw [rh_sS, rh_sS]
    by_cases e : i = n
    · subst e
      have a := rd_sle i (fun j hj => h j (by omega))
      omega
    · have a := rd_slt n (fun j hj => h j (by omega)) ⟨i, by omega, l⟩
      omega
theorem rd_qle {P Q : Prop} (h : P → Q) : rh_q P ≤ rh_q Q := by
  by_cases p : P
  · rw [rh_q1 p, rh_q1 (h p)]; exact Nat.le_refl _
  · rw [rh_q0 p]; exact Nat.zero_le _
theorem rd_q01 (P : Prop) : rh_q P ≤ 1 := by
  by_cases p : P
  · rw [rh_q1 p]; exact Nat.le_refl _
  · rw [rh_q0 p]; exact Nat.zero_le _
theorem rd_s8 (P : Nat → Prop) : ∀ n, rh_s (fun t => rh_q (P t)) n ≤ n
  | 0 => Nat.le_refl _
  | n + 1 => by
    have a := rd_s8 P n
    have b := rd_q01 (P n)
    rw [rh_sS]
    omega
/-- after k rounds all is reached, or at least k + 1 sites are -/
theorem rd_Vk {R : Nat → Nat → Prop} (hR : ∀ a t, R a t → t < 8) {s : Nat} (hs : s < 8) : ∀ k, (∀ a t, a < 8 → rd_V R k s a → R a t → rd_V R k s t) ∨ k + 1 ≤ rh_s (fun t => rh_q (rd_V R k s t)) 8
  | 0 => Or.inr (by
    have a := rd_slt (f := fun _ => 0) (g := fun t => rh_q (rd_V R 0 s t)) 8 (fun _ _ => Nat.zero_le _) ⟨s, hs, by rw [rh_q1 (rd_Vr s 0)]; decide⟩
    omega)
  | k + 1 => by
    rcases rd_Vk hR hs k with c | c
    · refine Or.inl (fun a t ha v r => ?_)
      refine Or.inl ?_
      rcases v with v | ⟨b, hb, v, q⟩
      · exact c a t ha v r
      · exact c a t ha (c b a hb v q) r
    · by_cases z : ∀ a t, a < 8 → rd_V R k s a → R a t → rd_V R k s t
      · refine Or.inl (fun a t ha v r => ?_)
        refine Or.inl ?_
        rcases v with v | ⟨b, hb, v, q⟩
        · exact z a t ha v r
        · exact z a t ha (z b a hb v q) r
      · refine Or.inr ?_
        have y : ∃ a t, a < 8 ∧ rd_V R k s a ∧ R a t ∧ ¬ rd_V R k s t := by
          refine Classical.byContradiction (fun n => z (fun a t ha v r => Classical.byContradiction (fun m => n ⟨a, t, ha, v, r, m⟩)))
        obtain ⟨a, t, ha, v, r, m⟩ := y
        have l := rd_slt (f := fun t => rh_q (rd_V R k s t)) (g := fun t => rh_q (rd_V R (k + 1) s t)) 8 (fun i _ => rd_qle (fun q => Or.inl q)) ⟨t, hR a t r, by
          show rh_q (rd_V R k s t) < rh_q (rd_V R (k + 1) s t)
          rw [rh_q0 m, rh_q1 (show rd_V R (k + 1) s t from Or.inr ⟨a, ha, v, r⟩)]; decide⟩
        omega
theorem rd_Vc {R : Nat → Nat → Prop} (hR : ∀ a t, R a t → t < 8) {s : Nat} (hs : s < 8) : ∀ a t, a < 8 → rd_V R 8 s a → R a t → rd_V R 8 s t := by
  rcases rd_Vk hR hs 8 with c | c
  · exact c
  · have := rd_s8 (fun t => rd_V R 8 s t) 8
    omega
theorem rd_Vt {R : Nat → Nat → Prop} (hR : ∀ a t, R a t → t < 8) {a b c : Nat} (ha : a < 8) (x : rd_V R 8 a b) (y : rd_V R 8 b c) : rd_V R 8 a c :=
  rd_Vmin (U := fun t => rd_V R 8 a t) x (fun d t hd u r => rd_Vc hR ha d t hd u r) 8 c y
theorem rd_WV {R : Nat → Nat → Prop} (hR : ∀ a t, R a t → a < 8 ∧ t < 8) {s t : Nat} (hs : s < 8) (w : rd_W R 8 s t) : rd_V R 8 s t :=
  rd_Wmin (U := rd_V R 8) (fun a b r => rd_Vc (fun a t r => (hR a t r).2) (hR a b r).1 a b (hR a b r).1 (rd_Vr a 8) r) (fun a b c ha _ x y => rd_Vt (fun a t r => (hR a t r).2) ha x y) 8 s t (Nat.le_refl _) hs w
theorem rd_VW {R : Nat → Nat → Prop} {s t : Nat} (v : rd_V R 8 s t) : s = t ∨ rd_W R 8 s t :=
  rd_Vmin (U := fun t => s = t ∨ rd_W R 8 s t) (Or.inl rfl) (fun a t ha u r => Or.inr (by
    rcases u with u | u
    · rw [u]; exact rd_Wc r 8
    · exact rd_Wtr 8 a s t ha u (rd_Wc r 8))) 8 t v
def rd_R (T : Nat → Nat → Nat → Prop) (a t : Nat) : Prop := ∃ q, q < 4 ∧ T q a t
def rd_C (R : Nat → Nat → Prop) (a b : Nat) : Prop := rd_W R 8 a b ∧ rd_W R 8 b a
/-- the component's test of site x and thread q, and the reference's -/
def rd_U (T : Nat → Nat → Nat → Prop) (q x : Nat) : Prop := ∃ s, s < 8 ∧ (∃ y, y < 8 ∧ T q s y ∧ rd_C (rd_R T) s y) ∧ rd_C (rd_R T) s x
def rd_N (T : Nat → Nat → Nat → Prop) (q x : Nat) : Prop := ∃ a t, a < 8 ∧ t < 8 ∧ T q a t ∧ rd_V (rd_R T) 8 x a ∧ rd_V (rd_R T) 8 t x
theorem rd_UN {T : Nat → Nat → Nat → Prop} (hT : ∀ q a t, T q a t → a < 8 ∧ t < 8) {q x : Nat} (hq : q < 4) (hx : x < 8) : rd_U T q x ↔ rd_N T q x := by
  have hR : ∀ a t, rd_R T a t → a < 8 ∧ t < 8 := fun a t ⟨q, _, h⟩ => hT q a t h
  constructor
  · rintro ⟨s, hs, ⟨y, hy, t, c⟩, d⟩
    exact ⟨s, y, hs, hy, t, rd_WV hR hx d.2, rd_WV hR hy (rd_Wtr 8 s y x hs c.2 d.1)⟩
  · rintro ⟨a, t, ha, ht, h, v, w⟩
    have r : rd_R T a t := ⟨q, hq, h⟩
    have at_ : rd_W (rd_R T) 8 a t := rd_Wc r 8
    have ax : rd_W (rd_R T) 8 a x := by
      rcases rd_VW w with e | e
      · rw [← e]; exact at_
      · exact rd_Wtr 8 t a x ht at_ e
    have xa : rd_W (rd_R T) 8 x a := by
      rcases rd_VW v with e | e
      · have := ax
        rw [← e] at this ⊢
        exact this
      · exact e
    have ta : rd_W (rd_R T) 8 t a := by
      rcases rd_VW w with e | e
      · rw [e]; exact xa
      · exact rd_Wtr 8 x t a hx e xa
    exact ⟨a, ha, ⟨t, ht, h, at_, ta⟩, ax, xa⟩
/-- a step by a thread -/
def rd_E (vs rv : Nat → Int32) (oc : Int32) (r t i s : Nat) : Prop := bt (vs (rv i).toNatClampNeg) s = true ∧ bt (vs (rv r).toNatClampNeg) t = true ∧ ¬ (s = t ∧ bt oc s = true)
def rd_T (vs rv ra rt : Nat → Int32) (oc : Int32) (n : Nat) (q s t : Nat) : Prop := ∃ r, r < n ∧ rt r = nI q ∧ rh_A (rd_E vs rv oc r t) ra (ra r) 12 s
theorem rd_Tb {vs rv ra rt : Nat → Int32} {oc : Int32} {nr : Nat} (hn : nr ≤ 12) (R : rr_R rt rv ra nr) (B : rg_B8 12 vs) : ∀ q a t, rd_T vs rv ra rt oc nr q a t → a < 8 ∧ t < 8 := by
  rintro q a t ⟨r, hr, _, k, _, z, e⟩
  have c := (rh_itr R hn (R r hr).2.1 k).resolve_left z
  have i := rg_lt c (by omega)
  exact ⟨rf_b8lt (B _ (rg_lt (R _ i).1 (by decide))) e.1, rf_b8lt (B _ (rg_lt (R r hr).1 (by decide))) e.2.1⟩
