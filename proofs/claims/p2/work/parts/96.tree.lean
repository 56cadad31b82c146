/-! ===== trees: a forest is Std's labelled binary tree: a label, the children, the rest ===== -/
/-- kind, place, length, code, whether it stood in brackets -/
abbrev tLb : Type := Int × Int × Int × Int × Bool
abbrev tF : Type := Std.DTreeMap.Internal.Impl tLb (fun _ => Unit)
abbrev tT : Type := tLb × tF
abbrev tCo (l : tLb) (ch r : tF) : tF := .inner 0 l () ch r
abbrev lbP (l : tLb) : Int := l.2.1
abbrev lbN (l : tLb) : Int := l.2.2.1
abbrev lbC (l : tLb) : Int := l.2.2.2.1
abbrev lbW (l : tLb) : Bool := l.2.2.2.2
/-- how many nodes, how many roots, the roots' kinds -/
def fSz : tF → Int
  | .leaf => 0
  | .inner _ _ _ ch r => 1 + fSz ch + fSz r
def fLn : tF → Int
  | .leaf => 0
  | .inner _ _ _ _ r => 1 + fLn r
def fK : tF → List Int
  | .leaf => []
  | .inner _ l _ _ r => l.1 :: fK r
/-- the first root's kind, place, mark -/
def fK0 : tF → Int
  | .leaf => -1
  | .inner _ l _ _ _ => l.1
def fP0 : tF → Int
  | .leaf => -1
  | .inner _ l _ _ _ => lbP l
def fW0 : tF → Bool
  | .leaf => false
  | .inner _ l _ _ _ => lbW l
/-- one forest behind another; a forest of trees; of trees, the last one first -/
def fAp : tF → tF → tF
  | .leaf, g => g
  | .inner a l u ch r, g => .inner a l u ch (fAp r g)
def fo : List tT → tF
  | [] => .leaf
  | t :: r => tCo t.1 t.2 (fo r)
def foR : tF → List tT → tF
  | g, [] => g
  | g, t :: r => foR (tCo t.1 t.2 g) r
def tSz (t : tT) : Int := 1 + fSz t.2
theorem fo_ap : ∀ (a b : List tT), fo (a ++ b) = fAp (fo a) (fo b)
  | [], _ => rfl
  | t :: a, b => by
    show tCo t.1 t.2 (fo (a ++ b)) = tCo t.1 t.2 (fAp (fo a) (fo b))
    rw [fo_ap a b]
theorem fAp_as : ∀ (a b c : tF), fAp (fAp a b) c = fAp a (fAp b c) := by
  intro a b c
  induction a with
  | leaf => rfl
  | inner x l u ch r _ ih =>
    show Std.DTreeMap.Internal.Impl.inner x l u ch (fAp (fAp r b) c) = .inner x l u ch (fAp r (fAp b c))
    rw [ih]
theorem fAp_nil : ∀ (a : tF), fAp a .leaf = a := by
  intro a
  induction a with
  | leaf => rfl
  | inner x l u ch r _ ih =>
    show Std.DTreeMap.Internal.Impl.inner x l u ch (fAp r .leaf) = .inner x l u ch r
    rw [ih]
theorem foR_eq : ∀ (a : List tT) (g : tF), foR g a = fAp (fo a.reverse) g
  | [], _ => rfl
  | t :: a, g => by
    show foR (tCo t.1 t.2 g) a = _
    rw [foR_eq a, List.reverse_cons, fo_ap, fAp_as]
    rfl
theorem foR_rev (a : List tT) : foR .leaf a.reverse = fo a := by
  rw [foR_eq, List.reverse_reverse, fAp_nil]
theorem fSz_ap : ∀ (a b : tF), fSz (fAp a b) = fSz a + fSz b := by
  intro a b
  induction a with
  | leaf => show fSz b = 0 + fSz b; omega
  | inner x l u ch r _ ih =>
    show 1 + fSz ch + fSz (fAp r b) = 1 + fSz ch + fSz r + fSz b
    omega
theorem fLn_ap : ∀ (a b : tF), fLn (fAp a b) = fLn a + fLn b := by
  intro a b
  induction a with
  | leaf => show fLn b = 0 + fLn b; omega
  | inner x l u ch r _ ih =>
    show 1 + fLn (fAp r b) = 1 + fLn r + fLn b
    omega
theorem fK_ap : ∀ (a b : tF), fK (fAp a b) = fK a ++ fK b := by
  intro a b
  induction a with
  | leaf => rfl
  | inner x l u ch r _ ih =>
    show l.1 :: fK (fAp r b) = l.1 :: (fK r ++ fK b)
    rw [ih]
theorem fSz_0 : ∀ (a : tF), 0 ≤ fSz a := by
  intro a
  induction a with
  | leaf => exact Int.le_refl _
  | inner x l u ch r i1 i2 => show 0 ≤ 1 + fSz ch + fSz r; omega
theorem fLn_0 : ∀ (a : tF), 0 ≤ fLn a := by
  intro a
  induction a with
  | leaf => exact Int.le_refl _
  | inner x l u ch r i1 i2 => show 0 ≤ 1 + fLn r; omega
theorem fSz_fo (a : List tT) (t : tT) : fSz (fo (a ++ [t])) = fSz (fo a) + tSz t := by
  rw [fo_ap, fSz_ap]
  show _ + (1 + fSz t.2 + 0) = _ + (1 + fSz t.2)
  omega
theorem fLn_fo : ∀ a : List tT, fLn (fo a) = a.length
  | [] => rfl
  | t :: a => by
    show 1 + fLn (fo a) = _
    rw [fLn_fo a, List.length_cons]
    omega
theorem fK_fo : ∀ a : List tT, fK (fo a) = a.map (·.1.1)
  | [] => rfl
  | t :: a => by
    show t.1.1 :: fK (fo a) = _
    rw [fK_fo a]
    rfl
/-! how much a sign holds together; how much a node does; what a place asks for -/
def stC (x : Int) : Int :=
  if x = 14 ∨ x = 15 ∨ x = 60 ∨ x = 62 ∨ x = 15421 ∨ x = 15933 then 7
  else if x = 37 ∨ x = 42 ∨ x = 47 then 10
  else if x = 43 ∨ x = 45 then 9
  else if x = 15420 ∨ x = 15934 ∨ x = 4079166 then 8
  else if x = 8509 ∨ x = 15677 ∨ x = 2178365 ∨ x = 4013373 then 6
  else if x = 38 then 5
  else if x = 94 then 4
  else if x = 124 then 3
  else if x = 9766 then 2
  else if x = 31868 then 1
  else 0
theorem stC_b (x : Int) : 0 ≤ stC x ∧ stC x ≤ 10 := by
  unfold stC
  repeat' split
  all_goals omega
def tB (l : tLb) : Int := if l.1 = 49 then 0 else if l.1 = 48 then 1 else if l.1 = 47 then 2 else if l.1 = 46 then 2 + stC (lbC l) else if l.1 = 45 then 13 else if l.1 = 44 then 14 else 15
def tWn (k c i : Int) : Int :=
  if k = 3 ∨ k = 36 ∨ k = 38 ∨ k = 49 then 1
  else if k = 41 ∨ k = 44 then 15
  else if k = 40 then (if i = 0 then 15 else 0)
  else if k = 42 ∨ k = 43 ∨ k = 48 then (if i = 0 then 15 else 1)
  else if k = 45 then 13
  else if k = 46 then (if i = 0 then 2 + stC c else 3 + stC c)
  else if k = 47 then (if i = 0 then 3 else 1)
  else 0
theorem tB_0 (l : tLb) : 0 ≤ tB l ∧ tB l ≤ 15 := by
  have := stC_b (lbC l)
  unfold tB
  repeat' split
  all_goals omega
/-- has it a call outside brackets: down the first children of 40, 41 -/
def fCa : tF → Bool
  | .leaf => false
  | .inner _ l _ ch _ => if l.1 = 40 ∨ l.1 = 41 then fCa ch else decide (l.1 = 43)
def tCa (t : tT) : Bool := if t.1.1 = 40 ∨ t.1.1 = 41 then fCa t.2 else decide (t.1.1 = 43)
/-- how long a node's own signs and words are at most, when printed -/
def tOw (l : tLb) (m : Int) : Int :=
  if l.1 = 1 ∨ l.1 = 23 then 3
  else if l.1 = 2 then 2 * m + 5
  else if l.1 = 3 then 2 * lbN l + 2 * m
  else if l.1 = 4 ∨ l.1 = 5 then 1
  else if l.1 = 6 then 8 * m - 10
  else if l.1 = 7 then 17
  else if l.1 = 8 ∨ l.1 = 10 then 12
  else if l.1 = 9 then 10
  else if l.1 = 11 then 17 + 2 * lbN l
  else if l.1 = 12 then 11 + 2 * lbN l
  else if l.1 = 13 then 13
  else if l.1 = 14 then 16
  else if l.1 = 15 then 9
  else if l.1 = 16 then 2 * lbN l + 1
  else if l.1 = 17 then 11
  else if l.1 = 18 then 13
  else if l.1 = 19 then 7 + 2 * lbN l
  else if l.1 = 20 ∨ l.1 = 39 then 18 + 2 * lbN l + m
  else if l.1 = 0 ∨ l.1 = 21 then 0
  else if l.1 = 30 then 8
  else if l.1 = 36 then 3 + m
  else if l.1 = 37 then 4 + m
  else if l.1 = 38 then 2 * lbN l + 1
  else if l.1 = 40 ∨ l.1 = 47 then 4
  else if l.1 = 41 then 2 + 2 * lbN l
  else if l.1 = 42 then 4 + 2 * m
  else if l.1 = 43 then 2 + m
  else if l.1 = 49 then 2 * m - 2
  else 2 * lbN l
def fWt : Int → Int → Int → tF → Int
  | _, _, _, .leaf => 0
  | k, c, i, .inner _ l _ ch r => tOw l (fLn ch) + fWt l.1 (lbC l) 0 ch + (if tB l < tWn k c i ∨ k = 42 ∧ i = 0 ∧ tCa (l, ch) = true then 2 else 0) + fWt k c (i + 1) r
def tWt (t : tT) : Int := tOw t.1 (fLn t.2) + fWt t.1.1 (lbC t.1) 0 t.2
/-- a tree's weight where level w is asked for -/
def tWb (w : Int) (t : tT) : Int := tWt t + if tB t.1 < w then 2 else 0
theorem fWt_ap : ∀ (a b : tF) (k c i : Int), fWt k c i (fAp a b) = fWt k c i a + fWt k c (i + fLn a) b := by
  intro a b
  induction a with
  | leaf =>
    intro k c i
    show fWt k c i b = 0 + fWt k c (i + 0) b
    rw [Int.add_zero]
    omega
  | inner x l u ch r _ ih =>
    intro k c i
    show tOw l (fLn ch) + fWt l.1 (lbC l) 0 ch + (if tB l < tWn k c i ∨ k = 42 ∧ i = 0 ∧ tCa (l, ch) = true then 2 else 0) + fWt k c (i + 1) (fAp r b) = tOw l (fLn ch) + fWt l.1 (lbC l) 0 ch + (if tB l < tWn k c i ∨ k = 42 ∧ i = 0 ∧ tCa (l, ch) = true then 2 else 0) + fWt k c (i + 1) r + fWt k c (i + (1 + fLn r)) b
    rw [ih, Int.add_assoc i 1 (fLn r)]
    omega
theorem fWt_1 (k c i : Int) (t : tT) : fWt k c i (fo [t]) = tWt t + (if tB t.1 < tWn k c i ∨ k = 42 ∧ i = 0 ∧ tCa t = true then 2 else 0) := by
  obtain ⟨l, ch⟩ := t
  exact Int.add_zero _
theorem fWt_fo (k c i : Int) (a : List tT) (t : tT) : fWt k c i (fo (a ++ [t])) = fWt k c i (fo a) + tWt t + (if tB t.1 < tWn k c (i + a.length) ∨ k = 42 ∧ i + a.length = 0 ∧ tCa t = true then 2 else 0) := by
  rw [fo_ap, fWt_ap, fWt_1, fLn_fo]
  omega
/-! what the trees of a text are -/
section TX31
variable (tx : Int → Int) (n : Int)
/-- the node's own token, of kind kd -/
def tkA (l : tLb) (kd : Int) : Prop := ∃ g e b, 0 ≤ e ∧ e ≤ n ∧ lxG tx n g e = some (kd, lbC l, lbP l, lbP l + lbN l, b)
/-- kinds of expressions, of statements -/
def isE (k : Int) : Prop := 30 ≤ k ∧ k ≤ 49 ∧ k ≠ 38
def isS (k : Int) : Prop := k = 1 ∨ k = 2 ∨ 4 ≤ k ∧ k ≤ 14 ∨ k = 16 ∨ k = 17 ∨ k = 18
/-- which children a node of a kind has -/
def gC (k : Int) (m : List Int) : Prop :=
  if k = 0 ∨ k = 23 then ∀ x ∈ m, isS x ∨ x = 20
  else if k = 1 then ∀ x ∈ m, isS x
  else if k = 2 then m ≠ [] ∧ ∀ x ∈ m, x = 3
  else if k = 3 ∨ k = 13 then m = [] ∨ ∃ a, m = [a] ∧ isE a
  else if k = 5 ∨ k = 17 ∨ k = 38 ∨ k = 41 ∨ k = 44 ∨ k = 45 then ∃ a, m = [a] ∧ isE a
  else if k = 6 then ∃ a b, isE a ∧ isS b ∧ (m = [a, b] ∨ ∃ c, m = [a, b, c] ∧ isS c)
  else if k = 7 then ∃ a b, m = [a, b] ∧ isS a ∧ isE b
  else if k = 8 then ∃ a b, m = [a, b] ∧ isE a ∧ isS b
  else if k = 9 then ∃ a b c d, m = [a, b, c, d] ∧ (isE a ∨ a = 2 ∨ a = 21) ∧ (isE b ∨ b = 21) ∧ (isE c ∨ c = 21) ∧ isS d
  else if k = 10 then ∃ a b c, m = [a, b, c] ∧ (isE a ∨ a = 2) ∧ isE b ∧ isS c
  else if k = 14 then ∃ a r, m = a :: r ∧ isE a ∧ ∀ x ∈ r, x = 15
  else if k = 15 then ∃ a r, m = a :: r ∧ (isE a ∨ a = 21) ∧ ∀ x ∈ r, isS x
  else if k = 16 then ∃ a, m = [a] ∧ isS a
  else if k = 18 then ∃ b c, m = [1, b, c] ∧ (b = 19 ∨ b = 21) ∧ (c = 1 ∨ c = 21)
  else if k = 19 then m = [1]
  else if k = 20 ∨ k = 39 then ∃ r, m = r ++ [23] ∧ ∀ x ∈ r, x = 22
  else if k = 36 then ∀ x ∈ m, isE x ∨ x = 21
  else if k = 37 then ∀ x ∈ m, x = 38
  else if k = 40 ∨ k = 46 ∨ k = 48 then ∃ a b, m = [a, b] ∧ isE a ∧ isE b
  else if k = 42 ∨ k = 43 then ∃ a r, m = a :: r ∧ isE a ∧ ∀ x ∈ r, isE x
  else if k = 47 then ∃ a b c, m = [a, b, c] ∧ isE a ∧ isE b ∧ isE c
  else if k = 49 then 2 ≤ m.length ∧ ∀ x ∈ m, isE x
  else m = []
/-- which token a node of a kind has -/
def gT (l : tLb) : Prop := 0 ≤ lbP l ∧ 0 ≤ lbN l ∧ lbP l + lbN l ≤ n ∧
  (if l.1 = 3 ∨ l.1 = 16 ∨ l.1 = 19 ∨ l.1 = 20 ∨ l.1 = 22 ∨ l.1 = 31 then tkA tx n l 1
  else if l.1 = 11 ∨ l.1 = 12 ∨ l.1 = 39 then lbN l = 0 ∨ tkA tx n l 1
  else if l.1 = 32 then tkA tx n l 2 ∧ (lbC l = 9 ∨ lbC l = 17 ∨ lbC l = 22)
  else if l.1 = 33 then tkA tx n l 3
  else if l.1 = 34 then tkA tx n l 4
  else if l.1 = 35 then tkA tx n l 5
  else if l.1 = 38 then tkA tx n l 1 ∨ tkA tx n l 2 ∨ tkA tx n l 3 ∨ tkA tx n l 4
  else if l.1 = 41 then tkA tx n l 1 ∨ tkA tx n l 2
  else if l.1 = 44 then tkA tx n l 6 ∧ (lbC l = 11051 ∨ lbC l = 11565)
  else if l.1 = 45 then tkA tx n l 6 ∧ (lbC l = 33 ∨ lbC l = 43 ∨ lbC l = 45 ∨ lbC l = 126 ∨ lbC l = 11051 ∨ lbC l = 11565) ∨ tkA tx n l 2 ∧ (lbC l = 6 ∨ lbC l = 24 ∨ lbC l = 26)
  else if l.1 = 46 then (tkA tx n l 6 ∨ tkA tx n l 2) ∧ 1 ≤ stC (lbC l)
  else if l.1 = 48 then tkA tx n l 6
  else lbN l = 0)
/-- a statement of a string alone: did it stand in brackets -/
def gW (l : tLb) (ch : tF) : Prop := l.1 = 5 → fK0 ch = 34 → (fW0 ch = true ↔ fP0 ch ≠ lbP l)
def gF : tF → Prop
  | .leaf => True
  | .inner _ l _ ch r => gT tx n l ∧ gC l.1 (fK ch) ∧ gW l ch ∧ gF ch ∧ gF r
def gG (t : tT) : Prop := gT tx n t.1 ∧ gC t.1.1 (fK t.2) ∧ gW t.1 t.2 ∧ gF tx n t.2
theorem gF_ap : ∀ (a b : tF), gF tx n (fAp a b) ↔ gF tx n a ∧ gF tx n b := by
  intro a b
  induction a with
  | leaf => exact ⟨fun h => ⟨trivial, h⟩, fun h => h.2⟩
  | inner x l u ch r _ ih =>
    constructor
    · rintro ⟨h1, h2, h3, h4, h5⟩
      exact ⟨⟨h1, h2, h3, h4, (ih.mp h5).1⟩, (ih.mp h5).2⟩
    · rintro ⟨⟨h1, h2, h3, h4, h5⟩, h6⟩
      exact ⟨h1, h2, h3, h4, ih.mpr ⟨h5, h6⟩⟩
theorem gF_fo : ∀ (a : List tT), gF tx n (fo a) ↔ ∀ t ∈ a, gG tx n t
  | [] => ⟨fun _ t h => (by cases h), fun _ => trivial⟩
  | t :: a => by
    constructor
    · rintro ⟨h1, h2, h3, h4, h5⟩ q hq
      rcases List.mem_cons.mp hq with rfl | hq
      · exact ⟨h1, h2, h3, h4⟩
      · exact (gF_fo a).mp h5 q hq
    · intro h
      obtain ⟨h1, h2, h3, h4⟩ := h t (List.mem_cons_self ..)
      exact ⟨h1, h2, h3, h4, (gF_fo a).mpr fun q hq => h q (List.mem_cons_of_mem _ hq)⟩
end TX31
