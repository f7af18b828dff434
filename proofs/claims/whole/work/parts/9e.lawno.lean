/-! THE LAW: refusal -/
section
variable {d : Nat} {S : xr_S} {tb : Nat → Nat}
theorem law_no {L : Nat} (B : tB (xm S) tb L) {a : Int32} (h : ¬ xrg a 0 (min L 150)) : qNo d 102 185 [xI a] S xIA 1 18 1 := by
  obtain ⟨⟨B1, B2⟩, ⟨B3, _⟩, B4, _⟩ := B
  refine qNo_of (nI 0) (by omega) ?_ (fun T hT => ?_)
  · rw [xe102, xmn (by omega) (by omega) B3, show xr_Call (d + 59) 141 [xP 0 0, xI a, xI (nI 0), xI (nI (min L 150))] xMd S = _ from qc141n (by omega) (by omega) h, xr_cV_e]
  · have e0 : xm (xs T (xw (xm T) 0 69 0 (nI 0))) 0 69 0 = nI 0 := (by rw [xm_xs, xw_y (by omega)])
    have b1 : xw (xm T) 0 69 0 (nI 0) 0 69 1 = nI L := by rw [xw_n (by omega), hT, xw_n (by omega)]; exact B4
    have b2 : ¬ nI 1 = nI 0 := by rw [xn_eq (by omega) (by omega)]; omega
    have b4 := qm151t (d := d + 58) (w := [35, 44, 53, 58, 63, 66]) (t := 1) (r := 1) (by omega) (by omega) (by omega) e0
    rw [xe185, b1]
    by_cases q : xrg a 0 L
    · obtain ⟨k, _, hk, rfl⟩ := q
      have b3 : nI 150 < nI k := by
        rw [xn_lt (by omega) (by omega)]
        refine Nat.lt_of_not_le (fun h2 => h ⟨k, by omega, by omega, rfl⟩)
      rw [show xr_Call (d + 59) 152 [xI (nI k), xI (nI 0), xI (nI L)] xMd (xs T (xw (xm T) 0 69 0 (nI 0))) = _ from qm152y (Nat.zero_le k) hk (by omega), xr_cI_s, if_neg b2, if_pos b3, show xr_Call (d + 59) 151 [xP 0 69, xI (nI 1), xI (nI 1), xI (nI 1)] xMd (xs T (xw (xm T) 0 69 0 (nI 0))) = _ from b4, xr_cI_s, if_neg b2, xs_xs, xm_xs]
    · rw [show xr_Call (d + 59) 152 [xI a, xI (nI 0), xI (nI L)] xMd (xs T (xw (xm T) 0 69 0 (nI 0))) = _ from qm152n (by omega) (by omega) q, xr_cI_s, if_pos rfl, show xr_Call (d + 59) 151 [xP 0 69, xI (nI 1), xI (nI 1), xI (nI 1)] xMd (xs T (xw (xm T) 0 69 0 (nI 0))) = _ from b4, xr_cI_s, if_neg b2, xs_xs, xm_xs]
end
