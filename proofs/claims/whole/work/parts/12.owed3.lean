theorem i_vc_race {k : Nat} {u : SX} {v : SY} (I : i_Rel k u v) (hk : k + 5 ≤ 2560) (v1 : Int32) (v2 : Int32) : wpX_race (fun r => wpY_race (fun r' v' => r' = r ∧ i_Rel (k + 5) u v') v v1 v2) u v1 v2 := by
  obtain ⟨nl, ns, nr, nc, oc, kn, vs, ss, cs, lt, lb, lf, sb, sf, so, rt, rv, ra, ap, av, af, aw, al, sg, p, h, sp, rch, rfl, rfl, F⟩ := I
  obtain ⟨f1, f2, f3, f4, f5, f6, f7, f8, f9, f10, f11⟩ := id F
  rcases rr_cs nc v1 (by omega) with b | ⟨i, hi, rfl⟩
  · exact rx_race0 f4 (Or.inl b) (ry_race0 (Or.inl b) ⟨rfl, rr_mk F⟩)
  rcases rr_cs nc v2 (by omega) with b | ⟨j, hj, rfl⟩
  · exact rx_race0 f4 (Or.inr b) (ry_race0 (Or.inr b) ⟨rfl, rr_mk F⟩)
  refine rx_race f3 f4 hi hj f8 f10.1 f9 (fun q => ?_) (fun q => ?_)
  · exact ry_race (vs := vs) (ss := ss) (oc := oc) f3 f4 hi hj f8 f7 f9 f1 f2 f5 f6 f11 f10 (fun kn p h K _ => ⟨rfl, rr_mk ⟨f1, f2, f3, f4, f5, f6, f7, f8, f9, f10, K⟩⟩) (fun kn p h K q' => absurd q q')
  · exact ry_race (vs := vs) (ss := ss) (oc := oc) f3 f4 hi hj f8 f7 f9 f1 f2 f5 f6 f11 f10 (fun kn p h K q' => absurd q' q) (fun kn p h K _ => ⟨rfl, rr_mk ⟨f1, f2, f3, f4, f5, f6, f7, f8, f9, f10, K⟩⟩)
theorem i_vc_races {k : Nat} {u : SX} {v : SY} (I : i_Rel k u v) (hk : k + 5 ≤ 2560) : wpX_races (fun r => wpY_races (fun r' v' => r' = r ∧ i_Rel (k + 5) u v') v) u := by
  obtain ⟨nl, ns, nr, nc, oc, kn, vs, ss, cs, lt, lb, lf, sb, sf, so, rt, rv, ra, ap, av, af, aw, al, sg, p, h, sp, rch, rfl, rfl, F⟩ := I
  obtain ⟨f1, f2, f3, f4, f5, f6, f7, f8, f9, f10, f11⟩ := id F
  exact rx_races f3 f4 f8 f10.1 f9 (ry_races (vs := vs) (ss := ss) (oc := oc) f3 f4 f8 f7 f9 f1 f2 f5 f6 f10 f11 (fun kn p h K => ⟨congrArg nI (rh_swap (fun i j => rh_q (rh_Q rt ap av af aw vs rv ra oc i j)) nc).symm, rr_mk ⟨f1, f2, f3, f4, f5, f6, f7, f8, f9, f10, K⟩⟩))
theorem i_vc_held {k : Nat} {u : SX} {v : SY} (I : i_Rel k u v) (hk : k + 5 ≤ 2560) (v1 : Int32) : wpX_held (fun r => wpY_held (fun r' v' => r' = r ∧ i_Rel (k + 5) u v') v v1) u v1 := by
  obtain ⟨nl, ns, nr, nc, oc, kn, vs, ss, cs, lt, lb, lf, sb, sf, so, rt, rv, ra, ap, av, af, aw, al, sg, p, h, sp, rch, rfl, rfl, F⟩ := I
  obtain ⟨f1, f2, f3, f4, f5, f6, f7, f8, f9, f10, f11⟩ := id F
  rcases rr_cs (4 + nr) v1 (by omega) with b | ⟨j, hj, rfl⟩
  · exact rx_held0 f3 b (ry_held0 f3 b ⟨rfl, rr_mk F⟩)
  exact rx_held hj f3 f8 f10.1 (fun m hm => ry_held (vs := vs) (ss := ss) (oc := oc) hj f3 f8 f7 f1 f2 f5 f6 f11 f10 (fun kn p h m' z e g hm' => ⟨b_ext (fun i _ => rf_beq ((hm' i).trans (hm i).symm)), rr_mk ⟨f1, f2, f3, f4, f5, f6, f7, f8, f9, f10, fun _ => ⟨e, g⟩⟩⟩))
