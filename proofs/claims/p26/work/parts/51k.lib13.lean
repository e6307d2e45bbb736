/-! the machine's size: a step or a word that waits costs three bytes -/
def WJ (f : Nat → Int) (n p w : Nat) : Prop := 3 * w ≤ p ∨ (3 * w ≤ p + 1 ∧ ¬ LT f n p)
theorem WJ_word {f : Nat → Int} {n p w q : Nat} (hw : w < 16) (h : WJ f n p q) (t : TW f n p w) (p2 : Nat) (h2 : p2 = SK f n (p + wdn w)) : WJ f n p2 (q + 1) := by
  have hb := wdn_bd w hw
  have hl : LT f n p := by
    have h1 := t.2.1 0 (by omega)
    rw [Nat.add_zero] at h1
    have h3 := wdl_lt w hw 0 (by omega)
    exact ⟨by have := t.1; omega, by rw [h1]; exact h3.1, by rw [h1]; exact h3.2⟩
  have h3 : 3 * q ≤ p := by
    rcases h with a | a
    · exact a
    · exact absurd hl a.2
  have hs := SK_sp f n (p + wdn w)
  rw [← h2] at hs
  by_cases e : p + 3 ≤ p2
  · exact Or.inl (by omega)
  · have e2 : wdn w = 2 := by omega
    have e3 : p2 = p + wdn w := by omega
    exact Or.inr ⟨by omega, by rw [e3]; exact t.2.2⟩
theorem WJ_on {f : Nat → Int} {n p q p2 : Nat} (h : WJ f n p q) (h2 : p + 1 ≤ p2) : WJ f n p2 q := by
  rcases h with a | a
  · exact Or.inl (by omega)
  · exact Or.inl (by omega)
def WSZ (f : Nat → Int) (n : Nat) (c : WC) : Prop := c.2.1 ≤ n ∧ WJ f n c.2.1 (c.2.2.2.1.length + opn c.2.2.1)
theorem thd_c {st : List Int} {x : Int} (h : thd st = x) (hx : ¬ x = -5) : st = x :: st.tail := by
  cases st with
  | nil => exact absurd h.symm hx
  | cons y t =>
    have e : y = x := h
    rw [e]
    rfl
theorem WSZ_0 {f : Nat → Int} {n p : Nat} {st out : List Int} {at_ v : Int} (h : WSZ f n (0, p, st, out, at_, v)) : WSZ f n (wst0 f n p st out at_) := by
  obtain ⟨h1, h2⟩ := h
  have h1' : p ≤ n := h1
  have h2' : WJ f n p (out.length + opn st) := h2
  unfold wst0
  by_cases t : TW f n p 2
  · rw [if_pos t]
    by_cases d : dep st = 10
    · rw [if_pos d]; exact ⟨h1, h2⟩
    · rw [if_neg d]
      refine ⟨(SK_sp f n _).2.1 t.1, ?_⟩
      have e := WJ_word (by decide) h2' t _ rfl
      show WJ f n (SK f n (p + 3)) (out.length + (1 + opn st))
      rw [show out.length + (1 + opn st) = out.length + opn st + 1 by omega]
      exact e
  · rw [if_neg t]
    by_cases b : p < n ∧ f p = 40
    · rw [if_pos b]
      by_cases d : dep st = 10
      · rw [if_pos d]; exact ⟨h1, h2⟩
      · rw [if_neg d]
        refine ⟨(SK_sp f n _).2.1 b.1, ?_⟩
        have e := WJ_on (p2 := SK f n (p + 1)) h2' (SK_sp f n (p + 1)).1
        show WJ f n (SK f n (p + 1)) (out.length + (0 + opn st))
        rw [Nat.zero_add]
        exact e
    · rw [if_neg b]
      by_cases a : AK f n p = -1
      · rw [if_pos a]; exact ⟨h1, h2⟩
      · rw [if_neg a]
        have ht : TW f n p (3 + (AK f n p).toNat) ∧ 3 + (AK f n p).toNat < 16 := by
          rcases AK_sp f n p with q | q
          · exact absurd q.1 a
          · exact ⟨q.2.2, by omega⟩
        have hj := WJ_word ht.2 h2' ht.1 _ rfl
        have hq : AQ f n p ≤ n := (SK_sp f n _).2.1 ht.1.1
        by_cases c : at_ = 12
        · rw [if_pos c]; exact ⟨h1, h2⟩
        · rw [if_neg c]
          by_cases e : HIk (AK f n p) = -1
          · rw [if_pos e]
            refine ⟨hq, ?_⟩
            show WJ f n (AQ f n p) (out.length + 1 + opn st)
            rw [show out.length + 1 + opn st = out.length + opn st + 1 by omega]
            exact hj
          · rw [if_neg e]
            by_cases g : NF f n (AQ f n p) 0 (HIk (AK f n p)) = 0
            · rw [if_neg (fun q => q g)]
              have g2 := NF_ok g
              have d1 := DE_sp f n (AQ f n p)
              refine ⟨(SK_sp f n _).2.1 (d1.2.1 hq), ?_⟩
              show WJ f n (SK f n (DE f n (AQ f n p))) (out.length + 1 + opn st)
              rw [show out.length + 1 + opn st = out.length + opn st + 1 by omega]
              exact WJ_on hj (by have := (SK_sp f n (DE f n (AQ f n p))).1; have := d1.1; show AQ f n p + 1 ≤ _; omega)
            · rw [if_pos g]; exact ⟨h1, h2⟩
theorem WSZ_1 {f : Nat → Int} {n p : Nat} {st out : List Int} {at_ v : Int} (h : WSZ f n (1, p, st, out, at_, v)) : WSZ f n (wst1 f n p st out at_) := by
  obtain ⟨h1, h2⟩ := h
  have h1' : p ≤ n := h1
  have h2' : WJ f n p (out.length + opn st) := h2
  have pop : ∀ x y : Int, thd st = x → ¬ x = -5 → ¬ x = 100 → WSZ f n (1, p, st.tail, y :: out, at_, 0) := by
    intro x y hx h5 h100
    refine ⟨h1', ?_⟩
    have e := thd_c hx h5
    have eo : opn st = 1 + opn st.tail := by
      have e0 : opn st = opn (x :: st.tail) := congrArg opn e
      rw [e0]
      show (if x = 100 then 0 else 1) + _ = _
      rw [if_neg h100]
    show WJ f n p (out.length + 1 + opn st.tail)
    rw [show out.length + 1 + opn st.tail = out.length + opn st by omega]
    exact h2'
  unfold wst1
  by_cases t2 : thd st = 2
  · rw [if_pos t2]; exact pop 2 _ t2 (by decide) (by decide)
  rw [if_neg t2]
  by_cases w1 : TW f n p 1
  · rw [if_pos w1]
    by_cases t1 : thd st = 1
    · rw [if_pos t1]; exact pop 1 _ t1 (by decide) (by decide)
    · rw [if_neg t1]
      refine ⟨(SK_sp f n _).2.1 w1.1, ?_⟩
      have e := WJ_word (by decide) h2' w1 _ rfl
      show WJ f n (SK f n (p + 3)) (out.length + (1 + opn st))
      rw [show out.length + (1 + opn st) = out.length + opn st + 1 by omega]
      exact e
  rw [if_neg w1]
  by_cases w0 : TW f n p 0
  · rw [if_pos w0]
    by_cases t1 : thd st = 1
    · rw [if_pos t1]; exact pop 1 _ t1 (by decide) (by decide)
    rw [if_neg t1]
    by_cases t0 : thd st = 0
    · rw [if_pos t0]; exact pop 0 _ t0 (by decide) (by decide)
    · rw [if_neg t0]
      refine ⟨(SK_sp f n _).2.1 w0.1, ?_⟩
      have e := WJ_word (by decide) h2' w0 _ rfl
      show WJ f n (SK f n (p + 2)) (out.length + (1 + opn st))
      rw [show out.length + (1 + opn st) = out.length + opn st + 1 by omega]
      exact e
  rw [if_neg w0]
  by_cases t1 : thd st = 1
  · rw [if_pos t1]; exact pop 1 _ t1 (by decide) (by decide)
  rw [if_neg t1]
  by_cases t0 : thd st = 0
  · rw [if_pos t0]; exact pop 0 _ t0 (by decide) (by decide)
  rw [if_neg t0]
  by_cases b : p < n ∧ f p = 41
  · rw [if_pos b]
    by_cases t100 : thd st = 100
    · rw [if_pos t100]
      refine ⟨(SK_sp f n _).2.1 b.1, ?_⟩
      have e := thd_c t100 (by decide)
      have eo : opn st = opn st.tail := by
        have e0 : opn st = opn (100 :: st.tail) := congrArg opn e
        rw [e0]
        show 0 + _ = _
        rw [Nat.zero_add]
      show WJ f n (SK f n (p + 1)) (out.length + opn st.tail)
      rw [← eo]
      exact WJ_on h2' (SK_sp f n (p + 1)).1
    · rw [if_neg t100]; exact ⟨h1, h2⟩
  · rw [if_neg b]
    by_cases e : thd st = -5 ∧ n ≤ p
    · rw [if_pos e]; exact ⟨h1, h2⟩
    · rw [if_neg e]; exact ⟨h1, h2⟩
theorem WSZ_all (f : Nat → Int) (n : Nat) : ∀ k, WSZ f n (wit f n k)
  | 0 => ⟨(SK_sp f n 0).2.1 (Nat.zero_le _), Or.inl (Nat.zero_le _)⟩
  | k + 1 => by
    have h := WSZ_all f n k
    show WSZ f n (wst f n (wit f n k))
    unfold wst
    by_cases m0 : (wit f n k).1 = 0
    · rw [if_pos m0]
      refine WSZ_0 (v := 0) ?_
      exact h
    · rw [if_neg m0]
      by_cases m1 : (wit f n k).1 = 1
      · rw [if_pos m1]
        exact WSZ_1 (v := 0) h
      · rw [if_neg m1]; exact h
theorem RCH_len {f : Nat → Int} {n m p : Nat} {st out : List Int} {at_ v : Int} (h : RCH f n (m, p, st, out, at_, v)) (hn : n ≤ 100) : out.length + opn st ≤ 33 ∧ p ≤ n := by
  obtain ⟨k, hk⟩ := h
  have hs := WSZ_all f n k
  rw [hk] at hs
  obtain ⟨h1, h2⟩ := hs
  have h1' : p ≤ n := h1
  have h2' : WJ f n p (out.length + opn st) := h2
  rcases h2' with a | a
  · exact ⟨by omega, h1'⟩
  · exact ⟨by omega, h1'⟩
/-- the first m of a row, the latest ahead -/
def OUL (f : Nat → Int) : Nat → List Int
  | 0 => []
  | k + 1 => f k :: OUL f k
theorem OUL_len (f : Nat → Int) : ∀ m, (OUL f m).length = m
  | 0 => rfl
  | m + 1 => by
    show (OUL f m).length + 1 = m + 1
    rw [OUL_len f m]
theorem OUL_eq {f g : Nat → Int} : ∀ {m : Nat}, (∀ k, k < m → f k = g k) → OUL f m = OUL g m
  | 0, _ => rfl
  | m + 1, h => by
    show f m :: OUL f m = g m :: OUL g m
    rw [h m (by omega), OUL_eq (fun k hk => h k (by omega))]
theorem OUL_at {f g : Nat → Int} : ∀ {m : Nat}, OUL f m = OUL g m → ∀ k, k < m → f k = g k
  | 0, _, k, hk => absurd hk (Nat.not_lt_zero k)
  | m + 1, h, k, hk => by
    have h1 : f m = g m ∧ OUL f m = OUL g m := List.cons.inj h
    by_cases e : k = m
    · rw [e]; exact h1.1
    · exact OUL_at h1.2 k (by omega)
/-! the class's reader of wishes -/
def RC (a0 a : Nat → Nat → Int) (m : Nat) (st : List Int) : Prop := RCH (a0 3) (a0 2 1).toNat (m, (a 2 2).toNat, st, OUL (a 54) (a 11 6).toNat, a 11 7, 0)
def FLT (a0 a : Nat → Nat → Int) : Prop := ∃ (p : Nat) (st out : List Int) (at_ : Int), RCH (a0 3) (a0 2 1).toNat (2, p, st, out, at_, a 2 3)
def WRS (a0 a : Nat → Nat → Int) (st : List Int) : Prop := (a 2 3 = 0 ∧ RC a0 a 1 st) ∨ (¬ a 2 3 = 0 ∧ FLT a0 a)
theorem FLT_fr {a0 a a1 : Nat → Nat → Int} (h : FLT a0 a) (e : a1 2 3 = a 2 3) : FLT a0 a1 := by
  obtain ⟨p, st, out, at_, h⟩ := h
  exact ⟨p, st, out, at_, by rw [e]; exact h⟩
theorem RC_len {a0 a : Nat → Nat → Int} {m : Nat} {st : List Int} (h : RC a0 a m st) (hn : a0 2 1 ≤ 100) (h6 : 0 ≤ a 11 6) : a 11 6 + opn st ≤ 33 := by
  have q := (RCH_len h (by omega)).1
  rw [OUL_len] at q
  omega
/-- a step is put onto the draft -/
theorem OUL_add {a a1 : Nat → Nat → Int} {v : Int} (h6 : 0 ≤ a 11 6) (e6 : a1 11 6 = a 11 6 + 1) (hu : UP (a 54) (a1 54) (a 11 6).toNat v) : OUL (a1 54) (a1 11 6).toNat = v :: OUL (a 54) (a 11 6).toNat := by
  rw [e6, show (a 11 6 + 1).toNat = (a 11 6).toNat + 1 by omega]
  show a1 54 (a 11 6).toNat :: OUL (a1 54) (a 11 6).toNat = _
  rw [hu _, if_pos rfl, OUL_eq (fun k hk => by rw [hu k, if_neg (by omega)])]
/-- behind an operand of a not: the not is put out -/
theorem RC_stepnot {a0 a a1 : Nat → Nat → Int} {st : List Int} (h : RC a0 a 1 (2 :: st)) (h6 : 0 ≤ a 11 6) (e6 : a1 11 6 = a 11 6 + 1) (hu : UP (a 54) (a1 54) (a 11 6).toNat 7000) (e2 : a1 2 2 = a 2 2) (e7 : a1 11 7 = a 11 7) : RC a0 a1 1 st := by
  unfold RC
  rw [OUL_add h6 e6 hu, e2, e7]
  exact RC_pnot h
theorem RC_stepand {a0 a a1 : Nat → Nat → Int} {st : List Int} (h : RC a0 a 1 (1 :: st)) (h6 : 0 ≤ a 11 6) (e6 : a1 11 6 = a 11 6 + 1) (hu : UP (a 54) (a1 54) (a 11 6).toNat 8000) (e2 : a1 2 2 = a 2 2) (e7 : a1 11 7 = a 11 7) : RC a0 a1 1 st := by
  unfold RC
  rw [OUL_add h6 e6 hu, e2, e7]
  exact RC_pand h
theorem RC_stepor {a0 a a1 : Nat → Nat → Int} {st : List Int} (h : RC a0 a 1 (0 :: st)) (hn : ¬ TW (a0 3) (a0 2 1).toNat (a 2 2).toNat 1) (h6 : 0 ≤ a 11 6) (e6 : a1 11 6 = a 11 6 + 1) (hu : UP (a 54) (a1 54) (a 11 6).toNat 9000) (e2 : a1 2 2 = a 2 2) (e7 : a1 11 7 = a 11 7) : RC a0 a1 1 st := by
  unfold RC
  rw [OUL_add h6 e6 hu, e2, e7]
  exact RC_por h hn
/-- the same draft at another place -/
theorem RC_mv {a0 a a1 : Nat → Nat → Int} {m : Nat} {st : List Int} (h : RCH (a0 3) (a0 2 1).toNat (m, (a1 2 2).toNat, st, OUL (a 54) (a 11 6).toNat, a 11 7, 0)) (e54 : ∀ j, a1 54 j = a 54 j) (e6 : a1 11 6 = a 11 6) (e7 : a1 11 7 = a 11 7) : RC a0 a1 m st := by
  unfold RC
  rw [e6, e7, OUL_eq (fun k _ => e54 k)]
  exact h
