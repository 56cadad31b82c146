/-! ===== the parser: all of it ===== -/
section TX75
variable {tx : Int → Int} {n : Int}
theorem S_all (ht : tOk tx n) : ∀ m : Nat, S_x tx n m ∧ S_el tx n m ∧ S_me tx n m ∧ S_un tx n m ∧ S_st tx n m := by
  intro m
  induction m with
  | zero =>
    refine ⟨?_, ?_, ?_, ?_, ?_⟩
    · intro s e g t cn sc W d rn noIn lf V K S hs hm
      have := hs.e0
      omega
    · intro s e g t cn sc W d rn lf V K S hs hm
      have := hs.e0
      omega
    · intro s e t cn sc W d rn lf V K S c hs hm
      have := hs.e0
      omega
    · intro s e g t cn sc W d rn lf V K S c hs hm
      have := hs.e0
      omega
    · intro s e g t cn sc W d rn f lf V K S hs hm
      have := hs.e0
      omega
  | succ m ih =>
    obtain ⟨hx, hE, hM, hU, hS⟩ := ih
    have hU' := S_un_of ht hx hE hM hU
    have hx' := S_x_of ht hx hU'
    have hS' := S_st_of ht hx hx' hS
    exact ⟨hx', S_el_of ht hE hS', S_me_of ht hx hE hM, hU', hS'⟩
/-- what may stand in a text, wherever it begins -/
theorem S_el_all (ht : tOk tx n) (m : Nat) : S_el tx n m := (S_all ht m).2.1
end TX75
