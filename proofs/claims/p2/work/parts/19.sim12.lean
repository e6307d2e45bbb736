/-! the law's start: the two constructors -/
def jxnil : jxS := ([], fun _ _ => 0, fun _ _ => 0)
def jxisN (c : Option jxR) : Bool := match c with
  | some ([], _) => true
  | _ => false
def jxgetN (c : Option jxR) : jxS := match c with
  | some ([], S) => S
  | _ => jxnil
theorem jxget_eq {c : Option jxR} (h : jxisN c = true) : c = some ([], jxgetN c) := by
  unfold jxisN at h
  split at h
  · rfl
  · cases h
def jxS1 : jxS := jxgetN (jxcf jxE0 8000 20 153 [.inr (.inr (.inl 0))] ([(0, 11, [0, 2, 2, 2, 2, 2, 2, 2, 2, 0, 2, 2, 2, 2, 2, 2, 2])], jxnil.2))
def jxS2 : jxS := jxgetN (jxcf jxE0 8000 20 203 [.inr (.inr (.inl 146))] (jxS1.1 ++ [(0, 12, [0, 2, 0, 2, 2, 2, 2, 2, 2, 0, 2, 2, 2, 2, 2, 2, 2, 0, 2, 2, 2, 2, 0, 0, 0, 0, 0, 0, 2, 2, 2, 2, 0, 0, 2, 0, 2, 2, 2, 0, 0, 0, 0, 2, 0, 2, 2, 2, 2, 0, 2, 2, 2, 2, 2, 0, 0, 2, 0, 2, 2, 2, 2, 2, 0, 2, 2, 2, 0, 2, 2, 2, 2, 2, 2, 0, 2, 2])], jxS1.2))
set_option maxRecDepth 100000 in
theorem jxS1_ok : (jxisN (jxcf jxE0 8000 20 153 [.inr (.inr (.inl 0))] ([(0, 11, [0, 2, 2, 2, 2, 2, 2, 2, 2, 0, 2, 2, 2, 2, 2, 2, 2])], jxnil.2)) && jxsame jxS1.1 (jxSH.take 146)) = true := by decide +kernel
set_option maxRecDepth 100000 in
theorem jxS2_ok : (jxisN (jxcf jxE0 8000 20 203 [.inr (.inr (.inl 146))] (jxS1.1 ++ [(0, 12, [0, 2, 0, 2, 2, 2, 2, 2, 2, 0, 2, 2, 2, 2, 2, 2, 2, 0, 2, 2, 2, 2, 0, 0, 0, 0, 0, 0, 2, 2, 2, 2, 0, 0, 2, 0, 2, 2, 2, 0, 0, 0, 0, 2, 0, 2, 2, 2, 2, 0, 2, 2, 2, 2, 2, 0, 0, 2, 0, 2, 2, 2, 2, 2, 0, 2, 2, 2, 0, 2, 2, 2, 2, 2, 2, 0, 2, 2])], jxS1.2)) && jxsame jxS2.1 jxSH) = true := by decide +kernel
