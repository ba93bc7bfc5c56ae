theorem i_vc_once {k : Nat} {u : SX} {v : SY} (I : i_Rel k u v) (hk : k + 5 ≤ 2560) (v1 : Int32) (v2 : Int32) : wpX_once (fun r u' => wpY_once (fun r' v' => r' = r ∧ i_Rel (k + 5) u' v') v v1 (lw_bz v2)) u v1 (lw_bz v2) := by
  obtain ⟨nl, ns, nr, nc, oc, kn, vs, ss, cs, lt, lb, lf, sb, sf, so, rt, rv, ra, ap, av, af, aw, al, sg, p, h, sp, rch, rfl, rfl, F⟩ := I
  obtain ⟨f1, f2, f3, f4, f5, f6, f7, f8, f9, f10, f11⟩ := id F
  rcases rr_cs 8 v1 (by decide) with b | ⟨s, hs, rfl⟩
  · exact rx_once0 b (ry_once0 b ⟨rfl, rr_mk F⟩)
  rcases lw_bz_01 v2 with e | e <;> rw [e]
  · exact rx_once hs (fun _ => ry_once hs f7 ⟨rfl, rr_mk ⟨f1, f2, f3, f4, f5, f6, rr_O0 hs f7, f8, f9, f10, f11⟩⟩) (fun z => absurd rfl z)
  · exact rx_once hs (fun z => absurd z (by decide)) (fun _ => ry_once hs f7 ⟨rfl, rr_mk ⟨f1, f2, f3, f4, f5, f6, rr_O1 (by decide) hs f7, f8, f9, f10, f11⟩⟩)
theorem i_vc_region {k : Nat} {u : SX} {v : SY} (I : i_Rel k u v) (hk : k + 5 ≤ 2560) (v1 : Int32) (v2 : Int32) (v3 : Int32) : wpX_region (fun r u' => wpY_region (fun r' v' => r' = r ∧ i_Rel (k + 5) u' v') v v1 v2 v3) u v1 v2 v3 := by
  obtain ⟨nl, ns, nr, nc, oc, kn, vs, ss, cs, lt, lb, lf, sb, sf, so, rt, rv, ra, ap, av, af, aw, al, sg, p, h, sp, rch, rfl, rfl, F⟩ := I
  obtain ⟨f1, f2, f3, f4, f5, f6, f7, f8, f9, f10, f11⟩ := id F
  by_cases h1 : rr_bad 4 v1
  · exact rx_region0 f3 (Or.inl h1) (ry_region0 f3 (Or.inl h1) ⟨rfl, rr_mk F⟩)
  by_cases h2 : rr_bad 12 v2
  · exact rx_region0 f3 (Or.inr (Or.inl h2)) (ry_region0 f3 (Or.inr (Or.inl h2)) ⟨rfl, rr_mk F⟩)
  by_cases h3 : rr_in rt nr v1 v3
  · by_cases z : nr = 12
    · exact rx_region1 h1 h2 h3 z (ry_region1 h1 h2 h3 z ⟨rfl, rr_mk F⟩)
    · exact rx_region h1 h2 h3 (by omega) (ry_region h1 h2 h3 (by omega) ⟨rfl, rr_mk ⟨f1, f2, by omega, f4, f5, f6, f7, rr_RS (by omega) h1 h2 h3 f8, rr_AR f9, f10, f11⟩⟩)
  · exact rx_region0 f3 (Or.inr (Or.inr h3)) (ry_region0 f3 (Or.inr (Or.inr h3)) ⟨rfl, rr_mk F⟩)
theorem i_vc_access {k : Nat} {u : SX} {v : SY} (I : i_Rel k u v) (hk : k + 5 ≤ 2560) (v1 : Int32) (v2 : Int32) (v3 : Int32) (v4 : Int32) : wpX_access (fun r u' => wpY_access (fun r' v' => r' = r ∧ i_Rel (k + 5) u' v') v v1 v2 v3 (lw_bz v4)) u v1 v2 v3 (lw_bz v4) := by
  obtain ⟨nl, ns, nr, nc, oc, kn, vs, ss, cs, lt, lb, lf, sb, sf, so, rt, rv, ra, ap, av, af, aw, al, sg, p, h, sp, rch, rfl, rfl, F⟩ := I
  obtain ⟨f1, f2, f3, f4, f5, f6, f7, f8, f9, f10, f11⟩ := id F
  by_cases h1 : rr_bad (4 + nr) v1
  · exact rx_access0 f3 (Or.inl h1) (ry_access0 f3 (Or.inl h1) ⟨rfl, rr_mk F⟩)
  by_cases h2 : rr_bad 12 v2
  · exact rx_access0 f3 (Or.inr (Or.inl h2)) (ry_access0 f3 (Or.inr (Or.inl h2)) ⟨rfl, rr_mk F⟩)
  by_cases h3 : rr_bad 2 v3
  · exact rx_access0 f3 (Or.inr (Or.inr h3)) (ry_access0 f3 (Or.inr (Or.inr h3)) ⟨rfl, rr_mk F⟩)
  by_cases z : nc = 16
  · exact rx_access1 f3 h1 h2 h3 z (ry_access1 f3 h1 h2 h3 z ⟨rfl, rr_mk F⟩)
  exact rx_access f3 h1 h2 h3 (by omega) (ry_access f3 h1 h2 h3 (by omega) ⟨rfl, rr_mk ⟨f1, f2, f3, by omega, f5, f6, f7, f8, rr_AS f3 h1 h2 f9, f10, f11⟩⟩)
theorem i_vc_pointsTo {k : Nat} {u : SX} {v : SY} (I : i_Rel k u v) (hk : k + 5 ≤ 2560) (v1 : Int32) : wpX_pointsTo (fun r => wpY_pointsTo (fun r' v' => r' = r ∧ i_Rel (k + 5) u v') v v1) u v1 := by
  obtain ⟨nl, ns, nr, nc, oc, kn, vs, ss, cs, lt, lb, lf, sb, sf, so, rt, rv, ra, ap, av, af, aw, al, sg, p, h, sp, rch, rfl, rfl, F⟩ := I
  obtain ⟨f1, f2, f3, f4, f5, f6, f7, f8, f9, f10, f11⟩ := id F
  rcases rr_cs 12 v1 (by decide) with b | ⟨a, ha, rfl⟩
  · exact rx_pt0 b (ry_pt0 b ⟨rfl, rr_mk F⟩)
  exact rx_pt ha (ry_pt ha f1 f2 f5 f6 f11 f10 (fun kn' q g z e f => ⟨rfl, rr_mk ⟨f1, f2, f3, f4, f5, f6, f7, f8, f9, f10, fun _ => ⟨e, f⟩⟩⟩))
theorem i_vc_holds {k : Nat} {u : SX} {v : SY} (I : i_Rel k u v) (hk : k + 5 ≤ 2560) (v1 : Int32) (v2 : Int32) : wpX_holds (fun r => wpY_holds (fun r' v' => r' = r ∧ i_Rel (k + 5) u v') v v1 v2) u v1 v2 := by
  obtain ⟨nl, ns, nr, nc, oc, kn, vs, ss, cs, lt, lb, lf, sb, sf, so, rt, rv, ra, ap, av, af, aw, al, sg, p, h, sp, rch, rfl, rfl, F⟩ := I
  obtain ⟨f1, f2, f3, f4, f5, f6, f7, f8, f9, f10, f11⟩ := id F
  rcases rr_cs 8 v1 (by decide) with b | ⟨a, ha, rfl⟩
  · exact rx_ho0 (Or.inl b) (ry_ho0 (Or.inl b) ⟨rfl, rr_mk F⟩)
  rcases rr_cs 2 v2 (by decide) with b | ⟨s, hs, rfl⟩
  · exact rx_ho0 (Or.inr b) (ry_ho0 (Or.inr b) ⟨rfl, rr_mk F⟩)
  exact rx_ho ha hs (ry_ho ha hs f1 f2 f5 f6 f11 f10 (fun kn' q g z e f => ⟨rfl, rr_mk ⟨f1, f2, f3, f4, f5, f6, f7, f8, f9, f10, fun _ => ⟨e, f⟩⟩⟩))
