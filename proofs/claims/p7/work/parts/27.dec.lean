/-- a method's rows, held against its bytes -/
def am_chk2 (q : am_Me) : Bool := match lw_tbl[q.2.1]? with
  | some (.code _ b _ _) => am_chk b q.2.2.2.2.2
  | _ => false
/-- forty of them, from the k-th on -/
def am_chk3 (q : am_Me) (k : Nat) : Bool := match lw_tbl[q.2.1]? with
  | some (.code _ b _ _) => am_chk b ((q.2.2.2.2.2.drop k).take 40)
  | _ => false
theorem am_chk2_bt {y : Nat} (h : am_chk2 (am_mq y) = true) : am_chk (am_bt y) (am_mq y).2.2.2.2.2 = true := by
  unfold am_chk2 at h
  unfold am_bt am_bx
  split at h
  · next hw => rw [hw]; exact h
  · cases h
theorem am_chk3_bt {y k : Nat} (h : am_chk3 (am_mq y) k = true) : am_chk (am_bt y) (((am_mq y).2.2.2.2.2.drop k).take 40) = true := by
  unfold am_chk3 at h
  unfold am_bt am_bx
  split at h
  · next hw => rw [hw]; exact h
  · cases h
