theorem i_vc_danger {k : Nat} {u : SX} {v : SY} (I : i_Rel k u v) (hk : k + 5 ≤ 2560) : wpX_danger (fun r => wpY_danger (fun r' v' => r' = r ∧ i_Rel (k + 5) u v') v) u := by
  obtain ⟨nl, ns, nr, nc, oc, kn, vs, ss, cs, lt, lb, lf, sb, sf, so, rt, rv, ra, ap, av, af, aw, al, sg, p, h, sp, rch, rfl, rfl, F⟩ := I
  obtain ⟨f1, f2, f3, f4, f5, f6, f7, f8, f9, f10, f11⟩ := id F
  have hT := rd_Tb (oc := oc) f3 f8 f10.1
  refine rx_danger f3 f8 f10.1 (fun m b hm => ry_danger (vs := vs) (ss := ss) (oc := oc) f3 f8 f7 f1 f2 f5 f6 f11 f10 (fun kn p h sp rch m' z e g b' hm' => ⟨rf_b8ext b' b (fun i hi => ?_), rr_mk ⟨f1, f2, f3, f4, f5, f6, f7, f8, f9, f10, fun _ => ⟨e, g⟩⟩⟩))
  rw [hm i hi, hm' i hi]
  constructor
  · rintro ⟨q1, q2, x, y, c, d⟩
    exact ⟨q1, q2, x, y, (rd_UN hT (by omega) hi).mpr c, (rd_UN hT y hi).mpr d⟩
  · rintro ⟨q1, q2, x, y, c, d⟩
    exact ⟨q1, q2, x, y, (rd_UN hT (by omega) hi).mp c, (rd_UN hT y hi).mp d⟩
