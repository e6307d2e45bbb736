/-! the reading of wishes: a machine -/
noncomputable def AK (f : Nat → Int) (n p : Nat) : Int := @ite Int (TW f n p 3) (Classical.propDecidable _) 0 (@ite Int (TW f n p 4) (Classical.propDecidable _) 1 (@ite Int (TW f n p 5) (Classical.propDecidable _) 2 (@ite Int (TW f n p 6) (Classical.propDecidable _) 3 (@ite Int (TW f n p 7) (Classical.propDecidable _) 4 (@ite Int (TW f n p 8) (Classical.propDecidable _) 5 (@ite Int (TW f n p 9) (Classical.propDecidable _) 6 (-1)))))))
theorem TW_ne {f : Nat → Int} {n p w v : Nat} (h : TW f n p w) (hw : w < 16) (hv : v < 16) (e : ¬ v = w) : ¬ TW f n p v := fun t => e (TW_one hv hw t h)
theorem AK_w {f : Nat → Int} {n p w : Nat} (hw : w < 7) (h : TW f n p (3 + w)) : AK f n p = w := by
  have h1 : w = 0 ∨ w = 1 ∨ w = 2 ∨ w = 3 ∨ w = 4 ∨ w = 5 ∨ w = 6 := by omega
  unfold AK
  rcases h1 with rfl | rfl | rfl | rfl | rfl | rfl | rfl
  · rw [if_pos h]; rfl
  · rw [if_neg (TW_ne h (by decide) (by decide) (by decide)), if_pos h]; rfl
  · rw [if_neg (TW_ne h (by decide) (by decide) (by decide)), if_neg (TW_ne h (by decide) (by decide) (by decide)), if_pos h]; rfl
  · rw [if_neg (TW_ne h (by decide) (by decide) (by decide)), if_neg (TW_ne h (by decide) (by decide) (by decide)), if_neg (TW_ne h (by decide) (by decide) (by decide)), if_pos h]; rfl
  · rw [if_neg (TW_ne h (by decide) (by decide) (by decide)), if_neg (TW_ne h (by decide) (by decide) (by decide)), if_neg (TW_ne h (by decide) (by decide) (by decide)), if_neg (TW_ne h (by decide) (by decide) (by decide)), if_pos h]; rfl
  · rw [if_neg (TW_ne h (by decide) (by decide) (by decide)), if_neg (TW_ne h (by decide) (by decide) (by decide)), if_neg (TW_ne h (by decide) (by decide) (by decide)), if_neg (TW_ne h (by decide) (by decide) (by decide)), if_neg (TW_ne h (by decide) (by decide) (by decide)), if_pos h]; rfl
  · rw [if_neg (TW_ne h (by decide) (by decide) (by decide)), if_neg (TW_ne h (by decide) (by decide) (by decide)), if_neg (TW_ne h (by decide) (by decide) (by decide)), if_neg (TW_ne h (by decide) (by decide) (by decide)), if_neg (TW_ne h (by decide) (by decide) (by decide)), if_neg (TW_ne h (by decide) (by decide) (by decide)), if_pos h]; rfl
theorem AK_no {f : Nat → Int} {n p : Nat} (h : ∀ w, w < 7 → ¬ TW f n p (3 + w)) : AK f n p = -1 := by
  unfold AK
  rw [if_neg (h 0 (by decide)), if_neg (h 1 (by decide)), if_neg (h 2 (by decide)), if_neg (h 3 (by decide)), if_neg (h 4 (by decide)), if_neg (h 5 (by decide)), if_neg (h 6 (by decide))]
theorem AK_sp (f : Nat → Int) (n p : Nat) : (AK f n p = -1 ∧ ∀ w, w < 7 → ¬ TW f n p (3 + w)) ∨ (0 ≤ AK f n p ∧ AK f n p ≤ 6 ∧ TW f n p (3 + (AK f n p).toNat)) := by
  by_cases h : ∃ w, w < 7 ∧ TW f n p (3 + w)
  · obtain ⟨w, hw, ht⟩ := h
    rw [AK_w hw ht]
    exact Or.inr ⟨by omega, by omega, by rw [Int.toNat_natCast]; exact ht⟩
  · have h2 : ∀ w, w < 7 → ¬ TW f n p (3 + w) := fun w hw ht => h ⟨w, hw, ht⟩
    exact Or.inl ⟨AK_no h2, h2⟩
def HIk (k : Int) : Int := if k = 0 ∨ k = 1 then 15 else if k = 3 ∨ k = 4 then 99 else if k = 5 then 999 else -1
noncomputable def AQ (f : Nat → Int) (n p : Nat) : Nat := SK f n (p + wdn (3 + (AK f n p).toNat))
/-- a stack: its top, the rest, how many nots and brackets -/
def thd (st : List Int) : Int := st.headD (-5)
def dep : List Int → Nat
  | [] => 0
  | x :: st => (if x = 2 ∨ x = 100 then 1 else 0) + dep st
def opn : List Int → Nat
  | [] => 0
  | x :: st => (if x = 100 then 0 else 1) + opn st
/-- mode (0 an operand is wanted, 1 behind one, 2 a fault, 3 the end), place, stack, steps (the latest ahead), atoms, the fault -/
abbrev WC : Type := Nat × Nat × List Int × List Int × Int × Int
noncomputable def wst0 (f : Nat → Int) (n p : Nat) (st out : List Int) (at_ : Int) : WC :=
  @ite WC (TW f n p 2) (Classical.propDecidable _) (if dep st = 10 then (2, p, st, out, at_, 4 + 8 * (p : Int)) else (0, SK f n (p + 3), 2 :: st, out, at_, 0))
    (if p < n ∧ f p = 40 then (if dep st = 10 then (2, p, st, out, at_, 4 + 8 * (p : Int)) else (0, SK f n (p + 1), 100 :: st, out, at_, 0))
      else if AK f n p = -1 then (2, p, st, out, at_, 1 + 8 * (p : Int))
      else if at_ = 12 then (2, p, st, out, at_, 3 + 8 * (p : Int))
      else if HIk (AK f n p) = -1 then (1, AQ f n p, st, AK f n p * 1000 :: out, at_ + 1, 0)
      else if ¬ NF f n (AQ f n p) 0 (HIk (AK f n p)) = 0 then (2, p, st, out, at_, NF f n (AQ f n p) 0 (HIk (AK f n p)))
      else (1, SK f n (DE f n (AQ f n p)), st, (AK f n p * 1000 + NV f n (AQ f n p)) :: out, at_ + 1, 0))
noncomputable def wst1 (f : Nat → Int) (n p : Nat) (st out : List Int) (at_ : Int) : WC :=
  if thd st = 2 then (1, p, st.tail, 7000 :: out, at_, 0)
  else @ite WC (TW f n p 1) (Classical.propDecidable _) (if thd st = 1 then (1, p, st.tail, 8000 :: out, at_, 0) else (0, SK f n (p + 3), 1 :: st, out, at_, 0))
    (@ite WC (TW f n p 0) (Classical.propDecidable _) (if thd st = 1 then (1, p, st.tail, 8000 :: out, at_, 0) else if thd st = 0 then (1, p, st.tail, 9000 :: out, at_, 0) else (0, SK f n (p + 2), 0 :: st, out, at_, 0))
      (if thd st = 1 then (1, p, st.tail, 8000 :: out, at_, 0) else if thd st = 0 then (1, p, st.tail, 9000 :: out, at_, 0)
        else if p < n ∧ f p = 41 then (if thd st = 100 then (1, SK f n (p + 1), st.tail, out, at_, 0) else (2, p, st, out, at_, 1 + 8 * (p : Int)))
        else if thd st = -5 ∧ n ≤ p then (3, p, st, out, at_, 0) else (2, p, st, out, at_, 1 + 8 * (p : Int))))
noncomputable def wst (f : Nat → Int) (n : Nat) (c : WC) : WC := if c.1 = 0 then wst0 f n c.2.1 c.2.2.1 c.2.2.2.1 c.2.2.2.2.1 else if c.1 = 1 then wst1 f n c.2.1 c.2.2.1 c.2.2.2.1 c.2.2.2.2.1 else c
noncomputable def wit (f : Nat → Int) (n : Nat) : Nat → WC
  | 0 => (0, SK f n 0, [], [], 0, 0)
  | k + 1 => wst f n (wit f n k)
/-- the start leads to c -/
def RCH (f : Nat → Int) (n : Nat) (c : WC) : Prop := ∃ k, wit f n k = c
theorem RCH_0 (f : Nat → Int) (n : Nat) : RCH f n (0, SK f n 0, [], [], 0, 0) := ⟨0, rfl⟩
theorem RCH_s {f : Nat → Int} {n : Nat} {c : WC} (h : RCH f n c) : RCH f n (wst f n c) := by
  obtain ⟨k, hk⟩ := h
  exact ⟨k + 1, by rw [← hk]; rfl⟩
theorem wit_stay {f : Nat → Int} {n k : Nat} (h : 2 ≤ (wit f n k).1) : ∀ j, wit f n (k + j) = wit f n k
  | 0 => rfl
  | j + 1 => by
    show wst f n (wit f n (k + j)) = _
    rw [wit_stay h j]
    unfold wst
    rw [if_neg (by omega), if_neg (by omega)]
theorem RCH_end {f : Nat → Int} {n : Nat} {c c2 : WC} (h : RCH f n c) (h2 : RCH f n c2) (e : 2 ≤ c.1) (e2 : 2 ≤ c2.1) : c = c2 := by
  obtain ⟨k, hk⟩ := h
  obtain ⟨k2, hk2⟩ := h2
  rcases Nat.le_total k k2 with q | q
  · have := wit_stay (k := k) (by rw [hk]; exact e) (k2 - k)
    rw [show k + (k2 - k) = k2 by omega, hk, hk2] at this
    exact this.symm
  · have := wit_stay (k := k2) (by rw [hk2]; exact e2) (k - k2)
    rw [show k2 + (k - k2) = k by omega, hk, hk2] at this
    exact this
variable {f : Nat → Int} {n p : Nat} {st out : List Int} {at_ v : Int}
theorem RC0 (h : RCH f n (0, p, st, out, at_, v)) : RCH f n (wst0 f n p st out at_) := RCH_s h
theorem RC1 (h : RCH f n (1, p, st, out, at_, v)) : RCH f n (wst1 f n p st out at_) := RCH_s h
theorem RC_not (h : RCH f n (0, p, st, out, at_, v)) (ht : TW f n p 2) (hd : ¬ dep st = 10) : RCH f n (0, SK f n (p + 3), 2 :: st, out, at_, 0) := by
  have := RC0 h
  unfold wst0 at this
  rw [if_pos ht, if_neg hd] at this
  exact this
theorem RC_notd (h : RCH f n (0, p, st, out, at_, v)) (ht : TW f n p 2) (hd : dep st = 10) : RCH f n (2, p, st, out, at_, 4 + 8 * (p : Int)) := by
  have := RC0 h
  unfold wst0 at this
  rw [if_pos ht, if_pos hd] at this
  exact this
theorem LT_no40 {x : Int} (h : f p = x) (hx : x < 97) : ∀ w, w < 16 → ¬ TW f n p w := fun w hw t => by
  have hb := wdn_bd w hw
  have h1 := t.2.1 0 (by omega)
  have h2 := wdl_lt w hw 0 (by omega)
  rw [Nat.add_zero] at h1
  omega
theorem RC_open (h : RCH f n (0, p, st, out, at_, v)) (hp : p < n) (hf : f p = 40) (hd : ¬ dep st = 10) : RCH f n (0, SK f n (p + 1), 100 :: st, out, at_, 0) := by
  have := RC0 h
  unfold wst0 at this
  rw [if_neg (LT_no40 hf (by decide) 2 (by decide)), if_pos ⟨hp, hf⟩, if_neg hd] at this
  exact this
theorem RC_opend (h : RCH f n (0, p, st, out, at_, v)) (hp : p < n) (hf : f p = 40) (hd : dep st = 10) : RCH f n (2, p, st, out, at_, 4 + 8 * (p : Int)) := by
  have := RC0 h
  unfold wst0 at this
  rw [if_neg (LT_no40 hf (by decide) 2 (by decide)), if_pos ⟨hp, hf⟩, if_pos hd] at this
  exact this
theorem RC_at0 (h : RCH f n (0, p, st, out, at_, v)) (hn : ¬ TW f n p 2) (hb : ¬ (p < n ∧ f p = 40)) (ha : AK f n p = -1) : RCH f n (2, p, st, out, at_, 1 + 8 * (p : Int)) := by
  have := RC0 h
  unfold wst0 at this
  rw [if_neg hn, if_neg hb, if_pos ha] at this
  exact this
theorem AK_tok (ha : ¬ AK f n p = -1) : ¬ TW f n p 2 ∧ ¬ (p < n ∧ f p = 40) := by
  rcases AK_sp f n p with ⟨q, _⟩ | ⟨q1, q2, q3⟩
  · exact absurd q ha
  · exact ⟨TW_ne q3 (by omega) (by decide) (by omega), fun t => LT_no40 t.2 (by decide) _ (by omega) q3⟩
theorem RC_at13 (h : RCH f n (0, p, st, out, at_, v)) (ha : ¬ AK f n p = -1) (h12 : at_ = 12) : RCH f n (2, p, st, out, at_, 3 + 8 * (p : Int)) := by
  have := RC0 h
  have q := AK_tok ha
  unfold wst0 at this
  rw [if_neg q.1, if_neg q.2, if_neg ha, if_pos h12] at this
  exact this
theorem RC_atp (h : RCH f n (0, p, st, out, at_, v)) (ha : ¬ AK f n p = -1) (h12 : ¬ at_ = 12) (hh : HIk (AK f n p) = -1) : RCH f n (1, AQ f n p, st, AK f n p * 1000 :: out, at_ + 1, 0) := by
  have := RC0 h
  have q := AK_tok ha
  unfold wst0 at this
  rw [if_neg q.1, if_neg q.2, if_neg ha, if_neg h12, if_pos hh] at this
  exact this
theorem RC_atn (h : RCH f n (0, p, st, out, at_, v)) (ha : ¬ AK f n p = -1) (h12 : ¬ at_ = 12) (hh : ¬ HIk (AK f n p) = -1) (hf : ¬ NF f n (AQ f n p) 0 (HIk (AK f n p)) = 0) : RCH f n (2, p, st, out, at_, NF f n (AQ f n p) 0 (HIk (AK f n p))) := by
  have := RC0 h
  have q := AK_tok ha
  unfold wst0 at this
  rw [if_neg q.1, if_neg q.2, if_neg ha, if_neg h12, if_neg hh, if_pos hf] at this
  exact this
theorem RC_atk (h : RCH f n (0, p, st, out, at_, v)) (ha : ¬ AK f n p = -1) (h12 : ¬ at_ = 12) (hh : ¬ HIk (AK f n p) = -1) (hf : NF f n (AQ f n p) 0 (HIk (AK f n p)) = 0) : RCH f n (1, SK f n (DE f n (AQ f n p)), st, (AK f n p * 1000 + NV f n (AQ f n p)) :: out, at_ + 1, 0) := by
  have := RC0 h
  have q := AK_tok ha
  unfold wst0 at this
  rw [if_neg q.1, if_neg q.2, if_neg ha, if_neg h12, if_neg hh, if_neg (fun t => t hf)] at this
  exact this
theorem RC_pnot (h : RCH f n (1, p, 2 :: st, out, at_, v)) : RCH f n (1, p, st, 7000 :: out, at_, 0) := by
  have := RC1 h
  unfold wst1 at this
  rw [if_pos (show thd (2 :: st) = 2 from rfl)] at this
  exact this
theorem RC_pand (h : RCH f n (1, p, 1 :: st, out, at_, v)) : RCH f n (1, p, st, 8000 :: out, at_, 0) := by
  have := RC1 h
  unfold wst1 at this
  rw [if_neg (show ¬ thd (1 :: st) = 2 from fun q => absurd (show (1 : Int) = 2 from q) (by decide))] at this
  by_cases h1 : TW f n p 1
  · rw [if_pos h1, if_pos (show thd (1 :: st) = 1 from rfl)] at this; exact this
  · rw [if_neg h1] at this
    by_cases h0 : TW f n p 0
    · rw [if_pos h0, if_pos (show thd (1 :: st) = 1 from rfl)] at this; exact this
    · rw [if_neg h0, if_pos (show thd (1 :: st) = 1 from rfl)] at this; exact this
theorem RC_por (h : RCH f n (1, p, 0 :: st, out, at_, v)) (hn : ¬ TW f n p 1) : RCH f n (1, p, st, 9000 :: out, at_, 0) := by
  have := RC1 h
  have e2 : ¬ thd (0 :: st) = 2 := fun q => absurd (show (0 : Int) = 2 from q) (by decide)
  have e1 : ¬ thd (0 :: st) = 1 := fun q => absurd (show (0 : Int) = 1 from q) (by decide)
  unfold wst1 at this
  rw [if_neg e2, if_neg hn] at this
  by_cases h0 : TW f n p 0
  · rw [if_pos h0, if_neg e1, if_pos (show thd (0 :: st) = 0 from rfl)] at this; exact this
  · rw [if_neg h0, if_neg e1, if_pos (show thd (0 :: st) = 0 from rfl)] at this; exact this
theorem RC_and (h : RCH f n (1, p, st, out, at_, v)) (h2 : ¬ thd st = 2) (h1 : ¬ thd st = 1) (ht : TW f n p 1) : RCH f n (0, SK f n (p + 3), 1 :: st, out, at_, 0) := by
  have := RC1 h
  unfold wst1 at this
  rw [if_neg h2, if_pos ht, if_neg h1] at this
  exact this
theorem RC_or (h : RCH f n (1, p, st, out, at_, v)) (h2 : ¬ thd st = 2) (h1 : ¬ thd st = 1) (h0 : ¬ thd st = 0) (ht : TW f n p 0) : RCH f n (0, SK f n (p + 2), 0 :: st, out, at_, 0) := by
  have := RC1 h
  unfold wst1 at this
  rw [if_neg h2, if_neg (TW_ne ht (by decide) (by decide) (by decide)), if_pos ht, if_neg h1, if_neg h0] at this
  exact this
theorem RC_cls (h : RCH f n (1, p, 100 :: st, out, at_, v)) (hp : p < n) (hf : f p = 41) : RCH f n (1, SK f n (p + 1), st, out, at_, 0) := by
  have := RC1 h
  have no := LT_no40 (n := n) hf (by decide)
  have e2 : ¬ thd (100 :: st) = 2 := fun q => absurd (show (100 : Int) = 2 from q) (by decide)
  have e1 : ¬ thd (100 :: st) = 1 := fun q => absurd (show (100 : Int) = 1 from q) (by decide)
  have e0 : ¬ thd (100 :: st) = 0 := fun q => absurd (show (100 : Int) = 0 from q) (by decide)
  unfold wst1 at this
  rw [if_neg e2, if_neg (no 1 (by decide)), if_neg (no 0 (by decide)), if_neg e1, if_neg e0, if_pos ⟨hp, hf⟩, if_pos (show thd (100 :: st) = 100 from rfl)] at this
  exact this
/-- behind an operand, no word that goes on, and no bracket that could close: a fault -/
theorem RC_bad (h : RCH f n (1, p, st, out, at_, v)) (h2 : ¬ thd st = 2) (h1 : ¬ thd st = 1) (h0 : ¬ thd st = 0) (n1 : ¬ TW f n p 1) (n0 : ¬ TW f n p 0) (hb : (p < n ∧ f p = 41 ∧ ¬ thd st = 100) ∨ (¬ (p < n ∧ f p = 41) ∧ ¬ (thd st = -5 ∧ n ≤ p))) : RCH f n (2, p, st, out, at_, 1 + 8 * (p : Int)) := by
  have := RC1 h
  unfold wst1 at this
  rw [if_neg h2, if_neg n1, if_neg n0, if_neg h1, if_neg h0] at this
  rcases hb with ⟨q1, q2, q3⟩ | ⟨q1, q2⟩
  · rw [if_pos ⟨q1, q2⟩, if_neg q3] at this; exact this
  · rw [if_neg q1, if_neg q2] at this; exact this
theorem RC_fin (h : RCH f n (1, p, [], out, at_, v)) (hp : n ≤ p) : RCH f n (3, p, [], out, at_, 0) := by
  have := RC1 h
  have no : ∀ w, w < 16 → ¬ TW f n p w := fun w hw t => by
    have := t.1
    have := wdn_bd w hw
    omega
  unfold wst1 at this
  rw [if_neg (show ¬ thd [] = 2 by decide), if_neg (no 1 (by decide)), if_neg (no 0 (by decide)), if_neg (show ¬ thd [] = 1 by decide), if_neg (show ¬ thd [] = 0 by decide), if_neg (fun q => absurd q.1 (by omega)), if_pos ⟨rfl, hp⟩] at this
  exact this
