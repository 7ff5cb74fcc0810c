/-! ===== THE LAW, 2 (own work): the run of the law (written by gen_law2.py) ===== -/
section XLAW2
variable {w : XW} {A : AS} {B : Nat} {sc : XS} {i z1 z2 z3 z4 : Int} {b : XB}
theorem lw_via {pc : Nat} (g : lwG pc w B sc i b) (e : xr L_law 0 18 [some (.retAddr 4), some (.ref 0), some (.ref 34), some (.int (iI i))] [] b w = xr L_law 0 pc [some (.retAddr 4), some (.ref 0), some (.ref 34), some (.int (iI i))] [] b w) : lwG 18 w B sc i b := by
  obtain ⟨w2, A2, b2, h1, h2⟩ := g
  exact ⟨w2, A2, b2, e.trans h1, h2⟩
theorem L_18 (h : JJ w A B sc) (hB : B + 430 < 2147483648) (hz : AR sc i z1 z2 z3 z4) (hb : 2 ≤ b.1 ∧ 100 ≤ b.2) (h0 : xin (iI i) sc.1 = true) (hL : i ≤ (sc.1 : Int) - 5 ∧ 0 ≤ i ∧ sc.1 ≤ 2560) : lwG 18 w B sc i b := by
  have pre : ∀ o, (if (sc.2 (iI i).toNatClampNeg &&& iI 31) = iI 0 then xr L_law 0 164 [some (.retAddr 4), some (.ref 0), some (.ref 34), some (.int (iI i))] [] b w else if (sc.2 (iI i).toNatClampNeg &&& iI 31) = iI 1 then xr L_law 0 197 [some (.retAddr 4), some (.ref 0), some (.ref 34), some (.int (iI i))] [] b w else if (sc.2 (iI i).toNatClampNeg &&& iI 31) = iI 2 then xr L_law 0 240 [some (.retAddr 4), some (.ref 0), some (.ref 34), some (.int (iI i))] [] b w else if (sc.2 (iI i).toNatClampNeg &&& iI 31) = iI 3 then xr L_law 0 253 [some (.retAddr 4), some (.ref 0), some (.ref 34), some (.int (iI i))] [] b w else if (sc.2 (iI i).toNatClampNeg &&& iI 31) = iI 4 then xr L_law 0 276 [some (.retAddr 4), some (.ref 0), some (.ref 34), some (.int (iI i))] [] b w else if (sc.2 (iI i).toNatClampNeg &&& iI 31) = iI 5 then xr L_law 0 299 [some (.retAddr 4), some (.ref 0), some (.ref 34), some (.int (iI i))] [] b w else if (sc.2 (iI i).toNatClampNeg &&& iI 31) = iI 6 then xr L_law 0 342 [some (.retAddr 4), some (.ref 0), some (.ref 34), some (.int (iI i))] [] b w else if (sc.2 (iI i).toNatClampNeg &&& iI 31) = iI 7 then xr L_law 0 385 [some (.retAddr 4), some (.ref 0), some (.ref 34), some (.int (iI i))] [] b w else if (sc.2 (iI i).toNatClampNeg &&& iI 31) = iI 8 then xr L_law 0 428 [some (.retAddr 4), some (.ref 0), some (.ref 34), some (.int (iI i))] [] b w else if (sc.2 (iI i).toNatClampNeg &&& iI 31) = iI 9 then xr L_law 0 497 [some (.retAddr 4), some (.ref 0), some (.ref 34), some (.int (iI i))] [] b w else if (sc.2 (iI i).toNatClampNeg &&& iI 31) = iI 10 then xr L_law 0 566 [some (.retAddr 4), some (.ref 0), some (.ref 34), some (.int (iI i))] [] b w else if (sc.2 (iI i).toNatClampNeg &&& iI 31) = iI 11 then xr L_law 0 599 [some (.retAddr 4), some (.ref 0), some (.ref 34), some (.int (iI i))] [] b w else if (sc.2 (iI i).toNatClampNeg &&& iI 31) = iI 12 then xr L_law 0 622 [some (.retAddr 4), some (.ref 0), some (.ref 34), some (.int (iI i))] [] b w else if (sc.2 (iI i).toNatClampNeg &&& iI 31) = iI 13 then xr L_law 0 645 [some (.retAddr 4), some (.ref 0), some (.ref 34), some (.int (iI i))] [] b w else if (sc.2 (iI i).toNatClampNeg &&& iI 31) = iI 14 then xr L_law 0 668 [some (.retAddr 4), some (.ref 0), some (.ref 34), some (.int (iI i))] [] b w else if (sc.2 (iI i).toNatClampNeg &&& iI 31) = iI 15 then xr L_law 0 692 [some (.retAddr 4), some (.ref 0), some (.ref 34), some (.int (iI i))] [] b w else if (sc.2 (iI i).toNatClampNeg &&& iI 31) = iI 16 then xr L_law 0 726 [some (.retAddr 4), some (.ref 0), some (.ref 34), some (.int (iI i))] [] b w else if (sc.2 (iI i).toNatClampNeg &&& iI 31) = iI 17 then xr L_law 0 750 [some (.retAddr 4), some (.ref 0), some (.ref 34), some (.int (iI i))] [] b w else if (sc.2 (iI i).toNatClampNeg &&& iI 31) = iI 18 then xr L_law 0 774 [some (.retAddr 4), some (.ref 0), some (.ref 34), some (.int (iI i))] [] b w else if (sc.2 (iI i).toNatClampNeg &&& iI 31) = iI 19 then xr L_law 0 847 [some (.retAddr 4), some (.ref 0), some (.ref 34), some (.int (iI i))] [] b w else if (sc.2 (iI i).toNatClampNeg &&& iI 31) = iI 20 then xr L_law 0 920 [some (.retAddr 4), some (.ref 0), some (.ref 34), some (.int (iI i))] [] b w else if (sc.2 (iI i).toNatClampNeg &&& iI 31) = iI 21 then xr L_law 0 963 [some (.retAddr 4), some (.ref 0), some (.ref 34), some (.int (iI i))] [] b w else if (sc.2 (iI i).toNatClampNeg &&& iI 31) = iI 22 then xr L_law 0 1006 [some (.retAddr 4), some (.ref 0), some (.ref 34), some (.int (iI i))] [] b w else if (sc.2 (iI i).toNatClampNeg &&& iI 31) = iI 23 then xr L_law 0 1039 [some (.retAddr 4), some (.ref 0), some (.ref 34), some (.int (iI i))] [] b w else if (sc.2 (iI i).toNatClampNeg &&& iI 31) = iI 24 then xr L_law 0 1072 [some (.retAddr 4), some (.ref 0), some (.ref 34), some (.int (iI i))] [] b w else if (sc.2 (iI i).toNatClampNeg &&& iI 31) = iI 25 then xr L_law 0 1141 [some (.retAddr 4), some (.ref 0), some (.ref 34), some (.int (iI i))] [] b w else if (sc.2 (iI i).toNatClampNeg &&& iI 31) = iI 26 then xr L_law 0 1174 [some (.retAddr 4), some (.ref 0), some (.ref 34), some (.int (iI i))] [] b w else if (sc.2 (iI i).toNatClampNeg &&& iI 31) = iI 27 then xr L_law 0 1197 [some (.retAddr 4), some (.ref 0), some (.ref 34), some (.int (iI i))] [] b w else if (sc.2 (iI i).toNatClampNeg &&& iI 31) = iI 28 then xr L_law 0 1230 [some (.retAddr 4), some (.ref 0), some (.ref 34), some (.int (iI i))] [] b w else xr L_law 0 1253 [some (.retAddr 4), some (.ref 0), some (.ref 34), some (.int (iI i))] [] b w) = o → xr L_law 0 18 [some (.retAddr 4), some (.ref 0), some (.ref 34), some (.int (iI i))] [] b w = o := fun o ho => by
    rw [q_L_law_18, h.2.2.2.2.2.2, iI_sub]
    exact s_ltf (by omega) (s_g h0 ho)
  by_cases q0 : (sc.2 (iI i).toNatClampNeg &&& iI 31) = iI 0
  · exact lw_via (L_164 h hB hz hb) (pre _ (s_t q0 rfl))
  by_cases q1 : (sc.2 (iI i).toNatClampNeg &&& iI 31) = iI 1
  · exact lw_via (L_197 h hB hz hb) (pre _ (s_f q0 (s_t q1 rfl)))
  by_cases q2 : (sc.2 (iI i).toNatClampNeg &&& iI 31) = iI 2
  · exact lw_via (L_240 h hB hz hb) (pre _ (s_f q0 (s_f q1 (s_t q2 rfl))))
  by_cases q3 : (sc.2 (iI i).toNatClampNeg &&& iI 31) = iI 3
  · exact lw_via (L_253 h hB hz hb) (pre _ (s_f q0 (s_f q1 (s_f q2 (s_t q3 rfl)))))
  by_cases q4 : (sc.2 (iI i).toNatClampNeg &&& iI 31) = iI 4
  · exact lw_via (L_276 h hB hz hb) (pre _ (s_f q0 (s_f q1 (s_f q2 (s_f q3 (s_t q4 rfl))))))
  by_cases q5 : (sc.2 (iI i).toNatClampNeg &&& iI 31) = iI 5
  · exact lw_via (L_299 h hB hz hb) (pre _ (s_f q0 (s_f q1 (s_f q2 (s_f q3 (s_f q4 (s_t q5 rfl)))))))
  by_cases q6 : (sc.2 (iI i).toNatClampNeg &&& iI 31) = iI 6
  · exact lw_via (L_342 h hB hz hb) (pre _ (s_f q0 (s_f q1 (s_f q2 (s_f q3 (s_f q4 (s_f q5 (s_t q6 rfl))))))))
  by_cases q7 : (sc.2 (iI i).toNatClampNeg &&& iI 31) = iI 7
  · exact lw_via (L_385 h hB hz hb) (pre _ (s_f q0 (s_f q1 (s_f q2 (s_f q3 (s_f q4 (s_f q5 (s_f q6 (s_t q7 rfl)))))))))
  by_cases q8 : (sc.2 (iI i).toNatClampNeg &&& iI 31) = iI 8
  · exact lw_via (L_428 h hB hz hb) (pre _ (s_f q0 (s_f q1 (s_f q2 (s_f q3 (s_f q4 (s_f q5 (s_f q6 (s_f q7 (s_t q8 rfl))))))))))
  by_cases q9 : (sc.2 (iI i).toNatClampNeg &&& iI 31) = iI 9
  · exact lw_via (L_497 h hB hz hb) (pre _ (s_f q0 (s_f q1 (s_f q2 (s_f q3 (s_f q4 (s_f q5 (s_f q6 (s_f q7 (s_f q8 (s_t q9 rfl)))))))))))
  by_cases q10 : (sc.2 (iI i).toNatClampNeg &&& iI 31) = iI 10
  · exact lw_via (L_566 h hB hz hb) (pre _ (s_f q0 (s_f q1 (s_f q2 (s_f q3 (s_f q4 (s_f q5 (s_f q6 (s_f q7 (s_f q8 (s_f q9 (s_t q10 rfl))))))))))))
  by_cases q11 : (sc.2 (iI i).toNatClampNeg &&& iI 31) = iI 11
  · exact lw_via (L_599 h hB hz hb) (pre _ (s_f q0 (s_f q1 (s_f q2 (s_f q3 (s_f q4 (s_f q5 (s_f q6 (s_f q7 (s_f q8 (s_f q9 (s_f q10 (s_t q11 rfl)))))))))))))
  by_cases q12 : (sc.2 (iI i).toNatClampNeg &&& iI 31) = iI 12
  · exact lw_via (L_622 h hB hz hb) (pre _ (s_f q0 (s_f q1 (s_f q2 (s_f q3 (s_f q4 (s_f q5 (s_f q6 (s_f q7 (s_f q8 (s_f q9 (s_f q10 (s_f q11 (s_t q12 rfl))))))))))))))
  by_cases q13 : (sc.2 (iI i).toNatClampNeg &&& iI 31) = iI 13
  · exact lw_via (L_645 h hB hz hb) (pre _ (s_f q0 (s_f q1 (s_f q2 (s_f q3 (s_f q4 (s_f q5 (s_f q6 (s_f q7 (s_f q8 (s_f q9 (s_f q10 (s_f q11 (s_f q12 (s_t q13 rfl)))))))))))))))
  by_cases q14 : (sc.2 (iI i).toNatClampNeg &&& iI 31) = iI 14
  · exact lw_via (L_668 h hB hz hb) (pre _ (s_f q0 (s_f q1 (s_f q2 (s_f q3 (s_f q4 (s_f q5 (s_f q6 (s_f q7 (s_f q8 (s_f q9 (s_f q10 (s_f q11 (s_f q12 (s_f q13 (s_t q14 rfl))))))))))))))))
  by_cases q15 : (sc.2 (iI i).toNatClampNeg &&& iI 31) = iI 15
  · exact lw_via (L_692 h hB hz hb) (pre _ (s_f q0 (s_f q1 (s_f q2 (s_f q3 (s_f q4 (s_f q5 (s_f q6 (s_f q7 (s_f q8 (s_f q9 (s_f q10 (s_f q11 (s_f q12 (s_f q13 (s_f q14 (s_t q15 rfl)))))))))))))))))
  by_cases q16 : (sc.2 (iI i).toNatClampNeg &&& iI 31) = iI 16
  · exact lw_via (L_726 h hB hz hb) (pre _ (s_f q0 (s_f q1 (s_f q2 (s_f q3 (s_f q4 (s_f q5 (s_f q6 (s_f q7 (s_f q8 (s_f q9 (s_f q10 (s_f q11 (s_f q12 (s_f q13 (s_f q14 (s_f q15 (s_t q16 rfl))))))))))))))))))
  by_cases q17 : (sc.2 (iI i).toNatClampNeg &&& iI 31) = iI 17
  · exact lw_via (L_750 h hB hz hb) (pre _ (s_f q0 (s_f q1 (s_f q2 (s_f q3 (s_f q4 (s_f q5 (s_f q6 (s_f q7 (s_f q8 (s_f q9 (s_f q10 (s_f q11 (s_f q12 (s_f q13 (s_f q14 (s_f q15 (s_f q16 (s_t q17 rfl)))))))))))))))))))
  by_cases q18 : (sc.2 (iI i).toNatClampNeg &&& iI 31) = iI 18
  · exact lw_via (L_774 h hB hz hb) (pre _ (s_f q0 (s_f q1 (s_f q2 (s_f q3 (s_f q4 (s_f q5 (s_f q6 (s_f q7 (s_f q8 (s_f q9 (s_f q10 (s_f q11 (s_f q12 (s_f q13 (s_f q14 (s_f q15 (s_f q16 (s_f q17 (s_t q18 rfl))))))))))))))))))))
  by_cases q19 : (sc.2 (iI i).toNatClampNeg &&& iI 31) = iI 19
  · exact lw_via (L_847 h hB hz hb) (pre _ (s_f q0 (s_f q1 (s_f q2 (s_f q3 (s_f q4 (s_f q5 (s_f q6 (s_f q7 (s_f q8 (s_f q9 (s_f q10 (s_f q11 (s_f q12 (s_f q13 (s_f q14 (s_f q15 (s_f q16 (s_f q17 (s_f q18 (s_t q19 rfl)))))))))))))))))))))
  by_cases q20 : (sc.2 (iI i).toNatClampNeg &&& iI 31) = iI 20
  · exact lw_via (L_920 h hB hz hb) (pre _ (s_f q0 (s_f q1 (s_f q2 (s_f q3 (s_f q4 (s_f q5 (s_f q6 (s_f q7 (s_f q8 (s_f q9 (s_f q10 (s_f q11 (s_f q12 (s_f q13 (s_f q14 (s_f q15 (s_f q16 (s_f q17 (s_f q18 (s_f q19 (s_t q20 rfl))))))))))))))))))))))
  by_cases q21 : (sc.2 (iI i).toNatClampNeg &&& iI 31) = iI 21
  · exact lw_via (L_963 h hB hz hb) (pre _ (s_f q0 (s_f q1 (s_f q2 (s_f q3 (s_f q4 (s_f q5 (s_f q6 (s_f q7 (s_f q8 (s_f q9 (s_f q10 (s_f q11 (s_f q12 (s_f q13 (s_f q14 (s_f q15 (s_f q16 (s_f q17 (s_f q18 (s_f q19 (s_f q20 (s_t q21 rfl)))))))))))))))))))))))
  by_cases q22 : (sc.2 (iI i).toNatClampNeg &&& iI 31) = iI 22
  · exact lw_via (L_1006 h hB hz hb) (pre _ (s_f q0 (s_f q1 (s_f q2 (s_f q3 (s_f q4 (s_f q5 (s_f q6 (s_f q7 (s_f q8 (s_f q9 (s_f q10 (s_f q11 (s_f q12 (s_f q13 (s_f q14 (s_f q15 (s_f q16 (s_f q17 (s_f q18 (s_f q19 (s_f q20 (s_f q21 (s_t q22 rfl))))))))))))))))))))))))
  by_cases q23 : (sc.2 (iI i).toNatClampNeg &&& iI 31) = iI 23
  · exact lw_via (L_1039 h hB hz hb) (pre _ (s_f q0 (s_f q1 (s_f q2 (s_f q3 (s_f q4 (s_f q5 (s_f q6 (s_f q7 (s_f q8 (s_f q9 (s_f q10 (s_f q11 (s_f q12 (s_f q13 (s_f q14 (s_f q15 (s_f q16 (s_f q17 (s_f q18 (s_f q19 (s_f q20 (s_f q21 (s_f q22 (s_t q23 rfl)))))))))))))))))))))))))
  by_cases q24 : (sc.2 (iI i).toNatClampNeg &&& iI 31) = iI 24
  · exact lw_via (L_1072 h hB hz hb) (pre _ (s_f q0 (s_f q1 (s_f q2 (s_f q3 (s_f q4 (s_f q5 (s_f q6 (s_f q7 (s_f q8 (s_f q9 (s_f q10 (s_f q11 (s_f q12 (s_f q13 (s_f q14 (s_f q15 (s_f q16 (s_f q17 (s_f q18 (s_f q19 (s_f q20 (s_f q21 (s_f q22 (s_f q23 (s_t q24 rfl))))))))))))))))))))))))))
  by_cases q25 : (sc.2 (iI i).toNatClampNeg &&& iI 31) = iI 25
  · exact lw_via (L_1141 h hB hz hb) (pre _ (s_f q0 (s_f q1 (s_f q2 (s_f q3 (s_f q4 (s_f q5 (s_f q6 (s_f q7 (s_f q8 (s_f q9 (s_f q10 (s_f q11 (s_f q12 (s_f q13 (s_f q14 (s_f q15 (s_f q16 (s_f q17 (s_f q18 (s_f q19 (s_f q20 (s_f q21 (s_f q22 (s_f q23 (s_f q24 (s_t q25 rfl)))))))))))))))))))))))))))
  by_cases q26 : (sc.2 (iI i).toNatClampNeg &&& iI 31) = iI 26
  · exact lw_via (L_1174 h hB hz hb) (pre _ (s_f q0 (s_f q1 (s_f q2 (s_f q3 (s_f q4 (s_f q5 (s_f q6 (s_f q7 (s_f q8 (s_f q9 (s_f q10 (s_f q11 (s_f q12 (s_f q13 (s_f q14 (s_f q15 (s_f q16 (s_f q17 (s_f q18 (s_f q19 (s_f q20 (s_f q21 (s_f q22 (s_f q23 (s_f q24 (s_f q25 (s_t q26 rfl))))))))))))))))))))))))))))
  by_cases q27 : (sc.2 (iI i).toNatClampNeg &&& iI 31) = iI 27
  · exact lw_via (L_1197 h hB hz hb) (pre _ (s_f q0 (s_f q1 (s_f q2 (s_f q3 (s_f q4 (s_f q5 (s_f q6 (s_f q7 (s_f q8 (s_f q9 (s_f q10 (s_f q11 (s_f q12 (s_f q13 (s_f q14 (s_f q15 (s_f q16 (s_f q17 (s_f q18 (s_f q19 (s_f q20 (s_f q21 (s_f q22 (s_f q23 (s_f q24 (s_f q25 (s_f q26 (s_t q27 rfl)))))))))))))))))))))))))))))
  by_cases q28 : (sc.2 (iI i).toNatClampNeg &&& iI 31) = iI 28
  · exact lw_via (L_1230 h hB hz hb) (pre _ (s_f q0 (s_f q1 (s_f q2 (s_f q3 (s_f q4 (s_f q5 (s_f q6 (s_f q7 (s_f q8 (s_f q9 (s_f q10 (s_f q11 (s_f q12 (s_f q13 (s_f q14 (s_f q15 (s_f q16 (s_f q17 (s_f q18 (s_f q19 (s_f q20 (s_f q21 (s_f q22 (s_f q23 (s_f q24 (s_f q25 (s_f q26 (s_f q27 (s_t q28 rfl))))))))))))))))))))))))))))))
  exact ⟨w, A, b, pre _ (s_f q0 (s_f q1 (s_f q2 (s_f q3 (s_f q4 (s_f q5 (s_f q6 (s_f q7 (s_f q8 (s_f q9 (s_f q10 (s_f q11 (s_f q12 (s_f q13 (s_f q14 (s_f q15 (s_f q16 (s_f q17 (s_f q18 (s_f q19 (s_f q20 (s_f q21 (s_f q22 (s_f q23 (s_f q24 (s_f q25 (s_f q26 (s_f q27 (s_f q28 (rfl)))))))))))))))))))))))))))))), ⟨h.1, h.2.1, h.2.2.1, lpI_mono h.2.2.2.1 (by omega), h.2.2.2.2⟩, by omega, by omega⟩
end XLAW2
theorem AR_ex {sc : XS} {i : Nat} (hi : i + 5 ≤ sc.1) (hL : sc.1 ≤ 2560) : ∃ z1 z2 z3 z4, AR sc (i : Int) z1 z2 z3 z4 := by
  have one : ∀ k : Nat, 1 ≤ k → k ≤ 4 → ∃ z : Int, xin (iI (i : Int) + iI (k : Int)) sc.1 = true ∧ sc.2 (iI (i : Int) + iI (k : Int)).toNatClampNeg = iI z ∧ i32 z := fun k h1 h2 => by
    obtain ⟨z, e1, e2⟩ := iI_ex (sc.2 (iI (i : Int) + iI (k : Int)).toNatClampNeg)
    exact ⟨z, by rw [iI_add]; exact xin_t (by omega), e1, e2⟩
  obtain ⟨z1, a1⟩ := one 1 (by omega) (by omega)
  obtain ⟨z2, a2⟩ := one 2 (by omega) (by omega)
  obtain ⟨z3, a3⟩ := one 3 (by omega) (by omega)
  obtain ⟨z4, a4⟩ := one 4 (by omega) (by omega)
  exact ⟨z1, z2, z3, z4, a1, a2, a3, a4⟩
theorem law_loop {s : XS} (hL : s.1 ≤ 2560) {w : XW} {A : AS} (h : JJ w A 0 s) : ∃ w1, xr L_law 0 18 [some (.retAddr 4), some (.ref 0), some (.ref 34), some (.int (iI ((0 : Nat) : Int)))] [] (599957, 7288712) w = some (.int 1, w1) := by
  refine x_loop (fun (t : Nat) (q : XW × XB) (_ : Unit) => xr L_law 0 18 [some (.retAddr 4), some (.ref 0), some (.ref 34), some (.int (iI ((5 * t : Nat) : Int)))] [] q.2 q.1) (s.1 / 5)
    (fun t q => (∃ A, JJ q.1 A (430 * t) s) ∧ 599957 ≤ q.2.1 + 2 * t ∧ 7288712 ≤ q.2.2 + 100 * t) (fun o => ∃ w1, o = some (.int 1, w1)) (fun t q u ht hq => Or.inr ?_) (fun q u hq => ?_) (w, (599957, 7288712)) () ⟨⟨A, h⟩, show 599957 ≤ 599957 + 2 * 0 by omega, show 7288712 ≤ 7288712 + 100 * 0 by omega⟩
  · obtain ⟨⟨A', h'⟩, b1, b2⟩ := hq
    obtain ⟨z1, z2, z3, z4, hz⟩ := AR_ex (sc := s) (i := 5 * t) (by omega) hL
    obtain ⟨w2, A2, b', k1, k2, k3, k4⟩ := L_18 h' (by omega) hz (b := q.2) (by omega) (xin_t (by omega)) (by omega)
    refine ⟨(w2, b'), (), ?_, ⟨A2, by rw [Nat.mul_succ]; exact k2⟩, show 599957 ≤ b'.1 + 2 * (t + 1) by omega, show 7288712 ≤ b'.2 + 100 * (t + 1) by omega⟩
    refine Eq.trans k1 ?_
    rw [q_L_law_1253, iI_add, show ((5 * t : Nat) : Int) + 5 = ((5 * (t + 1) : Nat) : Int) by omega]
  · obtain ⟨⟨A', h'⟩, b1, b2⟩ := hq
    refine ⟨q.1, ?_⟩
    show xr L_law 0 18 [some (.retAddr 4), some (.ref 0), some (.ref 34), some (.int (iI ((5 * (s.1 / 5) : Nat) : Int)))] [] q.2 q.1 = _
    rw [q_L_law_18, h'.2.2.2.2.2.2, iI_sub]
    refine s_ltt (by omega) ?_
    rw [q_L_law_1259]; rfl
theorem law_ok (s : XS) (hL : s.1 ≤ 2560) : ∃ w1, xm 172 0 [.retAddr 4] (v00 s) = some (.int 1, w1) := by
  have j : JJ (mt s 8) A1 0 s := ⟨st_IC s, st_nb s, st_jn s, st_lp s, st_IM s, st_wI s, ?_⟩
  · obtain ⟨w1, k1⟩ := law_loop hL j
    refine ⟨w1, ?_⟩
    show xm L_law 0 [.retAddr 4] (v00 s) = _
    rw [e_L_law, q_L_law_0]
    refine s_g rfl (s_g rfl (s_g rfl (s_V (n_B s) ?_)))
    rw [xn_vt]
    exact s_g rfl (s_g rfl (s_g rfl (s_V (n_M s) k1)))
  · have a : ∀ k, xSc (vt s k) = s := by
      intro k
      induction k with
      | zero => rfl
      | succ k ih => exact ih
    have c : ∀ k, xSc (mt s k) = xSc (m10 s) := by
      intro k
      induction k with
      | zero => rfl
      | succ k ih => exact ih
    rw [c 8]
    exact a 8
