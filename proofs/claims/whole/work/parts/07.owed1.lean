theorem i_up {k : Nat} {u : SX} {v : SY} (h : i_Rel k u v) : i_Rel (k + 5) u v := h
theorem i_vc0 : wpX_init (fun u => wpY_init (fun v => i_Rel 0 u v)) := by
  refine rr_mk (k := 0) (nl := 0) (ns := 0) (nr := 0) (nc := 0) ⟨by decide, by decide, by decide, by decide, fun i hi => absurd hi (Nat.not_lt_zero i), fun i hi => absurd hi (Nat.not_lt_zero i), fun s _ => ?_, fun i hi => absurd hi (Nat.not_lt_zero i), fun i hi => absurd hi (Nat.not_lt_zero i), ⟨fun _ _ => rf_b80, fun _ _ => rf_b80, ⟨fun _ _ => rf_subr _, fun _ _ _ _ _ => rf_subr _, fun i _ hi => absurd hi (Nat.not_lt_zero i), fun i _ hi => absurd hi (Nat.not_lt_zero i)⟩, fun P H _ => ⟨fun _ _ => rf_sub0 _, fun _ _ => rf_sub0 _⟩⟩, fun z => absurd rfl z⟩
  rw [b_0]
  exact ⟨fun z => absurd z (by decide), fun z => absurd rfl z⟩
theorem i_vc_alloc {k : Nat} {u : SX} {v : SY} (I : i_Rel k u v) (hk : k + 5 ≤ 2560) (v1 : Int32) (v2 : Int32) : wpX_alloc (fun r u' => wpY_alloc (fun r' v' => r' = r ∧ i_Rel (k + 5) u' v') v v1 v2) u v1 v2 := by
  obtain ⟨nl, ns, nr, nc, oc, kn, vs, ss, cs, lt, lb, lf, sb, sf, so, rt, rv, ra, ap, av, af, aw, al, sg, p, h, sp, rch, rfl, rfl, F⟩ := I
  obtain ⟨f1, f2, f3, f4, f5, f6, f7, f8, f9, f10, f11⟩ := id F
  rcases rr_cs 12 v1 (by decide) with b | ⟨a, ha, rfl⟩
  · exact rx_alloc0 (Or.inl b) (ry_alloc0 (Or.inl b) ⟨rfl, rr_mk F⟩)
  rcases rr_cs 8 v2 (by decide) with b | ⟨s, hs, rfl⟩
  · exact rx_alloc0 (Or.inr b) (ry_alloc0 (Or.inr b) ⟨rfl, rr_mk F⟩)
  exact rx_alloc ha hs f1 f2 f5 f6 f10 (fun p' h' L => ry_alloc ha hs f1 f2 f5 f6 L (fun kn' q g z e f => ⟨rfl, rr_mk ⟨f1, f2, f3, f4, f5, f6, f7, f8, f9, L, fun _ => ⟨e, f⟩⟩⟩))
theorem i_vc_copy {k : Nat} {u : SX} {v : SY} (I : i_Rel k u v) (hk : k + 5 ≤ 2560) (v1 : Int32) (v2 : Int32) : wpX_copy (fun r u' => wpY_copy (fun r' v' => r' = r ∧ i_Rel (k + 5) u' v') v v1 v2) u v1 v2 := by
  obtain ⟨nl, ns, nr, nc, oc, kn, vs, ss, cs, lt, lb, lf, sb, sf, so, rt, rv, ra, ap, av, af, aw, al, sg, p, h, sp, rch, rfl, rfl, F⟩ := I
  obtain ⟨f1, f2, f3, f4, f5, f6, f7, f8, f9, f10, f11⟩ := id F
  rcases rr_cs 12 v1 (by decide) with b | ⟨a, ha, rfl⟩
  · exact rx_copy0 (Or.inl b) (ry_copy0 (Or.inl b) ⟨rfl, rr_mk F⟩)
  rcases rr_cs 12 v2 (by decide) with b | ⟨s, hs, rfl⟩
  · exact rx_copy0 (Or.inr b) (ry_copy0 (Or.inr b) ⟨rfl, rr_mk F⟩)
  exact rx_copy ha hs f1 f2 f5 f6 f10 (fun p' h' L => ry_copy ha hs f1 f2 f5 f6 L (fun kn' q g z e f => ⟨rfl, rr_mk ⟨f1, f2, f3, f4, f5, f6, f7, f8, f9, L, fun _ => ⟨e, f⟩⟩⟩))
theorem i_vc_load {k : Nat} {u : SX} {v : SY} (I : i_Rel k u v) (hk : k + 5 ≤ 2560) (v1 : Int32) (v2 : Int32) (v3 : Int32) : wpX_load (fun r u' => wpY_load (fun r' v' => r' = r ∧ i_Rel (k + 5) u' v') v v1 v2 v3) u v1 v2 v3 := by
  obtain ⟨nl, ns, nr, nc, oc, kn, vs, ss, cs, lt, lb, lf, sb, sf, so, rt, rv, ra, ap, av, af, aw, al, sg, p, h, sp, rch, rfl, rfl, F⟩ := I
  obtain ⟨f1, f2, f3, f4, f5, f6, f7, f8, f9, f10, f11⟩ := id F
  rcases rr_cs 12 v1 (by decide) with b | ⟨a, ha, rfl⟩
  · exact rx_load0 (Or.inl b) (ry_load0 (Or.inl b) ⟨rfl, rr_mk F⟩)
  rcases rr_cs 12 v2 (by decide) with b | ⟨b, hb, rfl⟩
  · exact rx_load0 (Or.inr (Or.inl b)) (ry_load0 (Or.inr (Or.inl b)) ⟨rfl, rr_mk F⟩)
  rcases rr_cs 2 v3 (by decide) with b | ⟨f, hf, rfl⟩
  · exact rx_load0 (Or.inr (Or.inr b)) (ry_load0 (Or.inr (Or.inr b)) ⟨rfl, rr_mk F⟩)
  by_cases z : nl = 20
  · exact rx_load1 ha hb hf z (ry_load1 ha hb hf z ⟨rfl, rr_mk F⟩)
  exact rx_load ha hb hf (by omega) f2 f5 f6 f10 (fun p' h' L => ry_load ha hb hf (by omega) f2 f5 f6 L (fun kn' q g z e f => ⟨rfl, rr_mk ⟨by omega, f2, f3, f4, rs_RL f5 (vp_in_nI ha (by decide)) (vp_in_nI hb (by decide)) (vp_in_nI hf (by decide)), f6, f7, f8, f9, L, fun _ => ⟨e, f⟩⟩⟩))
theorem i_vc_store {k : Nat} {u : SX} {v : SY} (I : i_Rel k u v) (hk : k + 5 ≤ 2560) (v1 : Int32) (v2 : Int32) (v3 : Int32) : wpX_store (fun r u' => wpY_store (fun r' v' => r' = r ∧ i_Rel (k + 5) u' v') v v1 v2 v3) u v1 v2 v3 := by
  obtain ⟨nl, ns, nr, nc, oc, kn, vs, ss, cs, lt, lb, lf, sb, sf, so, rt, rv, ra, ap, av, af, aw, al, sg, p, h, sp, rch, rfl, rfl, F⟩ := I
  obtain ⟨f1, f2, f3, f4, f5, f6, f7, f8, f9, f10, f11⟩ := id F
  rcases rr_cs 12 v1 (by decide) with b | ⟨a, ha, rfl⟩
  · exact rx_store0 (Or.inl b) (ry_store0 (Or.inl b) ⟨rfl, rr_mk F⟩)
  rcases rr_cs 2 v2 (by decide) with b | ⟨f, hf, rfl⟩
  · exact rx_store0 (Or.inr (Or.inl b)) (ry_store0 (Or.inr (Or.inl b)) ⟨rfl, rr_mk F⟩)
  rcases rr_cs 12 v3 (by decide) with b | ⟨b, hb, rfl⟩
  · exact rx_store0 (Or.inr (Or.inr b)) (ry_store0 (Or.inr (Or.inr b)) ⟨rfl, rr_mk F⟩)
  by_cases z : ns = 20
  · exact rx_store1 ha hf hb z (ry_store1 ha hf hb z ⟨rfl, rr_mk F⟩)
  exact rx_store ha hf hb f1 (by omega) f5 f6 f10 (fun p' h' L => ry_store ha hf hb (by omega) ⟨rfl, rr_mk ⟨f1, by omega, f3, f4, f5, rs_RL f6 (vp_in_nI hb (by decide)) (vp_in_nI ha (by decide)) (vp_in_nI hf (by decide)), f7, f8, f9, L, fun z => absurd rfl z⟩⟩)
