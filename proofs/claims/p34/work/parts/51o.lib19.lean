/-! wishes: steps that may stand (draft, for p9) -/
def HGT (f : Nat → Int) : Nat → Nat
  | 0 => 0
  | k + 1 => if f k = 7000 then HGT f k else if f k = 8000 ∨ f k = 9000 then HGT f k - 1 else HGT f k + 1
def WFS (f : Nat → Int) (n : Nat) : Prop := ∀ k, k < n → (f k = 7000 → 1 ≤ HGT f k) ∧ (f k = 8000 ∨ f k = 9000 → 2 ≤ HGT f k) ∧ (¬ f k = 7000 → ¬ f k = 8000 → ¬ f k = 9000 → 0 ≤ f k ∧ f k < 7000 ∧ HGT f k ≤ 11)
theorem WFS_le {f : Nat → Int} {n m : Nat} (h : WFS f n) (hm : m ≤ n) : WFS f m := fun k hk => h k (by omega)
theorem EST_len {t : Int → Int} {f : Nat → Int} : ∀ {n : Nat}, WFS f n → (EST t f n).length = HGT f n
  | 0, _ => rfl
  | k + 1, h => by
    have e := EST_len (t := t) (WFS_le h (Nat.le_succ k))
    obtain ⟨h7, h8, h0⟩ := h k (Nat.lt_succ_self k)
    show (if f k = 7000 then enot (EST t f k) else if f k = 8000 then eand (EST t f k) else if f k = 9000 then eor (EST t f k) else t (f k) :: EST t f k).length = (if f k = 7000 then HGT f k else if f k = 8000 ∨ f k = 9000 then HGT f k - 1 else HGT f k + 1)
    by_cases c7 : f k = 7000
    · rw [if_pos c7, if_pos c7]
      have q := h7 c7
      generalize EST t f k = st at e
      cases st with
      | nil => exact e
      | cons b r => exact e
    rw [if_neg c7, if_neg c7]
    by_cases c8 : f k = 8000
    · rw [if_pos c8, if_pos (Or.inl c8)]
      have q := h8 (Or.inl c8)
      generalize EST t f k = st at e
      rcases st with _ | ⟨b, _ | ⟨c, r⟩⟩
      · simp only [List.length_nil] at e; omega
      · simp only [List.length_cons, List.length_nil] at e; omega
      · simp only [List.length_cons] at e
        show r.length + 1 = _
        omega
    rw [if_neg c8]
    by_cases c9 : f k = 9000
    · rw [if_pos c9, if_pos (Or.inr c9)]
      have q := h8 (Or.inr c9)
      generalize EST t f k = st at e
      rcases st with _ | ⟨b, _ | ⟨c, r⟩⟩
      · simp only [List.length_nil] at e; omega
      · simp only [List.length_cons, List.length_nil] at e; omega
      · simp only [List.length_cons] at e
        show r.length + 1 = _
        omega
    rw [if_neg c9, if_neg (fun q => q.elim c8 c9)]
    show (EST t f k).length + 1 = _
    rw [e]
theorem HGT_12 {f : Nat → Int} : ∀ {n : Nat}, WFS f n → HGT f n ≤ 12
  | 0, _ => Nat.zero_le _
  | k + 1, h => by
    have e := HGT_12 (WFS_le h (Nat.le_succ k))
    obtain ⟨h7, h8, h0⟩ := h k (Nat.lt_succ_self k)
    show (if f k = 7000 then HGT f k else if f k = 8000 ∨ f k = 9000 then HGT f k - 1 else HGT f k + 1) ≤ 12
    by_cases c7 : f k = 7000
    · rw [if_pos c7]; exact e
    rw [if_neg c7]
    by_cases c8 : f k = 8000 ∨ f k = 9000
    · rw [if_pos c8]; omega
    · rw [if_neg c8]
      have q := (h0 c7 (fun z => c8 (Or.inl z)) (fun z => c8 (Or.inr z))).2.2
      omega
/-- the class's bits go with the list -/
theorem BN_st {t : Int → Int} {f : Nat → Int} {n k : Nat} (ht : ∀ v, t v = 0 ∨ t v = 1) (h : WFS f n) (hk : k < n) :
    (f k = 7000 → jxxor (BN (EST t f k)) 1 = BN (EST t f (k + 1))) ∧ (f k = 8000 → jxand (jxshr (BN (EST t f k)) 1) (jxor (jxand (BN (EST t f k)) 1) (-2)) = BN (EST t f (k + 1))) ∧
    (f k = 9000 → jxor (jxshr (BN (EST t f k)) 1) (jxand (BN (EST t f k)) 1) = BN (EST t f (k + 1))) ∧ (¬ f k = 7000 → ¬ f k = 8000 → ¬ f k = 9000 → jxor (jxshl (BN (EST t f k)) 1) (t (f k)) = BN (EST t f (k + 1))) := by
  have hw := WFS_le h (Nat.le_of_lt hk)
  have e := EST_len (t := t) hw
  have l := HGT_12 hw
  have hb := EST_EB (f := f) ht k
  obtain ⟨h7, h8, h0⟩ := h k hk
  have hd : EST t f (k + 1) = (if f k = 7000 then enot (EST t f k) else if f k = 8000 then eand (EST t f k) else if f k = 9000 then eor (EST t f k) else t (f k) :: EST t f k) := rfl
  rw [hd]
  generalize EST t f k = st at e hb
  refine ⟨fun c => ?_, fun c => ?_, fun c => ?_, fun c7 c8 c9 => ?_⟩
  · rw [if_pos c]
    have q := h7 c
    cases st with
    | nil => simp only [List.length_nil] at e; omega
    | cons b r => exact BN_not hb (by omega)
  · rw [if_neg (by omega), if_pos c]
    have q := h8 (Or.inl c)
    rcases st with _ | ⟨b, _ | ⟨c, r⟩⟩
    · simp only [List.length_nil] at e; omega
    · simp only [List.length_cons, List.length_nil] at e; omega
    · exact BN_and hb (by omega)
  · rw [if_neg (by omega), if_neg (by omega), if_pos c]
    have q := h8 (Or.inr c)
    rcases st with _ | ⟨b, _ | ⟨c, r⟩⟩
    · simp only [List.length_nil] at e; omega
    · simp only [List.length_cons, List.length_nil] at e; omega
    · exact BN_or hb (by omega)
  · rw [if_neg c7, if_neg c8, if_neg c9]
    exact BN_push hb (by omega) (ht _)
