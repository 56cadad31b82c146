/-! ===== } at the text's own level: both fail ===== -/
section TX76
variable {tx : Int → Int} {n : Int}
theorem b_125 (ht : tOk tx n) {e d rn pu : Int} {lf : Bool} {V : List tT} {K : List rTs} {S : List rSg} {t : tTk} {b c x : Int} (hT : lxG tx n true e = some t) (hz : rNo t = 125) (h0 : 0 ≤ d) (h9 : d < 19) (hK : (K.length : Int) ≤ 850) : rBd tx n (e, d, rn, pu, lf, V, (2, 1, b, c, x) :: K, S) :=
  (t_2x1 ht hT (by omega) (by omega) h0 (by omega) (by omega)).bd ((t_wh (by simp only [List.length_cons]; omega)).bd ((t_9 ht hT (by omega) (by omega) (by simp only [List.length_cons]; omega)).bd ((t_120l ht hT (by omega) (by simp only [List.length_cons]; omega)).bd ((t_14o ht hT (by omega) (by simp only [List.length_cons]; omega)).bd (b_20 ht hT (by omega) (by simp only [List.length_cons]; omega))))))
end TX76
