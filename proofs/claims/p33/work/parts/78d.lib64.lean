/-! the whole state, alike -/
def RGO (a : Nat → Nat → Int) (j : Nat) : Prop := a 88 j = a 182 j ∧ 0 ≤ a 88 j ∧ a 88 j < a 83 7 ∧ a 89 j = CRD (cvC a) (a 88 j) (a 84 j)
def OFR (a : Nat → Nat → Int) : Prop := (a 83 6 = a 146 49 ∧ a 84 = a 178 ∧ a 85 = a 179 ∧ a 86 = a 180 ∧ a 87 = a 181) ∧ (∀ j : Nat, a 83 6 ≤ (j : Int) → a 87 j = 0) ∧ (∀ j : Nat, (j : Int) < a 83 6 → 0 ≤ a 84 j ∧ a 84 j < a 4 6) ∧ (∀ j, a 87 j = 1 → RGO a j) ∧ a 83 7 = a 146 55 ∧ (0 ≤ a 83 7 ∧ a 83 7 ≤ a 58 8) ∧ ∀ c : Nat, (c : Int) < vN (cvC a) → vRg (cvC a) c < a 83 7
def FDR1 (a : Nat → Nat → Int) (m : Nat) : Prop := a 104 m = a 190 m ∧ 2 ≤ a 104 m ∧ a 104 m ≤ 5 ∧ (∀ i : Nat, (i : Int) < a 104 m → a 97 (m * 5 + i) = a 189 (5 * m + i) ∧ 0 ≤ a 97 (m * 5 + i) ∧ a 97 (m * 5 + i) < a 83 6) ∧ ∀ i j : Nat, i < j → (j : Int) < a 104 m → ¬ a 84 (a 97 (m * 5 + i)).toNat = a 84 (a 97 (m * 5 + j)).toNat
def FDR (a : Nat → Nat → Int) : Prop := a 90 12 = a 146 64 ∧ ∀ m : Nat, (m : Int) < a 90 12 → FDR1 a m
def STR (a : Nat → Nat → Int) : Prop := ALK a ∧ OFR a ∧ FDR a ∧ LST8 a
/-- what stays: offers, rings found, list, clock and members and rules, credits -/
def KOF (a a1 : Nat → Nat → Int) : Prop := a1 83 6 = a 83 6 ∧ a1 83 7 = a 83 7 ∧ ∀ k, 84 ≤ k → k ≤ 89 → a1 k = a k
def KFD (a a1 : Nat → Nat → Int) : Prop := a1 90 12 = a 90 12 ∧ a1 97 = a 97 ∧ a1 104 = a 104
def KLS (a a1 : Nat → Nat → Int) : Prop := a1 0 9 = a 0 9 ∧ a1 76 = a 76
def KB (a a1 : Nat → Nat → Int) : Prop := a1 0 0 = a 0 0 ∧ a1 4 6 = a 4 6 ∧ a1 56 = a 56
def KOFr (a a1 : Nat → Nat → Int) : Prop := a1 146 49 = a 146 49 ∧ a1 146 55 = a 146 55 ∧ ∀ k, 178 ≤ k → k ≤ 182 → a1 k = a k
def KFDr (a a1 : Nat → Nat → Int) : Prop := a1 146 64 = a 146 64 ∧ a1 189 = a 189 ∧ a1 190 = a 190
def KLSr (a a1 : Nat → Nat → Int) : Prop := a1 146 42 = a 146 42 ∧ a1 173 = a 173
def KBr (a a1 : Nat → Nat → Int) : Prop := a1 146 0 = a 146 0 ∧ a1 146 2 = a 146 2 ∧ a1 171 = a 171
section
variable {W : List (Nat × Nat)} {a a1 : Nat → Nat → Int}
theorem KOF_fr (hf : jfr W a a1) (h : cvW W 83 6 7 84 89 = true) : KOF a a1 := ⟨hf 83 6 (jfin_sl h (Or.inl rfl)), hf 83 7 (jfin_sl h (Or.inr rfl)), fun _ h1 h2 => funext fun j => hf _ j (jfin_lo h h1 h2)⟩
theorem KFD_fr (hf : jfr W a a1) (h : cvW W 90 12 12 97 104 = true) : KFD a a1 := ⟨hf 90 12 (jfin_sl h (Or.inl rfl)), funext fun j => hf _ j (jfin_lo h (by decide) (by decide)), funext fun j => hf _ j (jfin_lo h (by decide) (by decide))⟩
theorem KLS_fr (hf : jfr W a a1) (h : cvW W 0 9 9 76 76 = true) : KLS a a1 := ⟨hf 0 9 (jfin_sl h (Or.inl rfl)), funext fun j => hf _ j (jfin_lo h (by decide) (by decide))⟩
theorem KB_fr (hf : jfr W a a1) (h : cvW W 0 0 0 56 56 = true) (h2 : cvW W 4 6 6 56 56 = true) : KB a a1 := ⟨hf 0 0 (jfin_sl h (Or.inl rfl)), hf 4 6 (jfin_sl h2 (Or.inl rfl)), funext fun j => hf _ j (jfin_lo h (by decide) (by decide))⟩
theorem KOFr_fr (hf : jfr W a a1) (h : cvW W 146 49 55 178 182 = true) : KOFr a a1 := ⟨hf 146 49 (jfin_sl h (Or.inl rfl)), hf 146 55 (jfin_sl h (Or.inr rfl)), fun _ h1 h2 => funext fun j => hf _ j (jfin_lo h h1 h2)⟩
theorem KFDr_fr (hf : jfr W a a1) (h : cvW W 146 64 64 189 190 = true) : KFDr a a1 := ⟨hf 146 64 (jfin_sl h (Or.inl rfl)), funext fun j => hf _ j (jfin_lo h (by decide) (by decide)), funext fun j => hf _ j (jfin_lo h (by decide) (by decide))⟩
theorem KLSr_fr (hf : jfr W a a1) (h : cvW W 146 42 42 173 173 = true) : KLSr a a1 := ⟨hf 146 42 (jfin_sl h (Or.inl rfl)), funext fun j => hf _ j (jfin_lo h (by decide) (by decide))⟩
theorem KBr_fr (hf : jfr W a a1) (h : cvW W 146 0 2 171 171 = true) : KBr a a1 := ⟨hf 146 0 (jfin_sl h (Or.inl rfl)), hf 146 2 (jfin_sl h (Or.inr rfl)), funext fun j => hf _ j (jfin_lo h (by decide) (by decide))⟩
end
/-- over to the end of both calls -/
theorem OFR_mk {a a1 a2 : Nat → Nat → Int} (h : OFR a) (cl : CLS a a1) (rf : RFS a1 a2) (ko : KOF a a1) (kor : KOFr a1 a2) (e46 : a1 4 6 = a 4 6) (nr : NRC (cvC a) (cvC a1)) : OFR a2 := by
  obtain ⟨⟨h1, h2, h3, h4, h5⟩, h6, h7, h8, h9, h10, h11⟩ := h
  have c2 : cvC a2 = cvC a1 := cvC_rf rf
  have r83 : a2 83 = a1 83 := rf 83 (by decide)
  have e6 : a2 83 6 = a 83 6 := by rw [r83]; exact ko.1
  have e7 : a2 83 7 = a 83 7 := by rw [r83]; exact ko.2.1
  have row : ∀ k, 84 ≤ k → k ≤ 89 → a2 k = a k := fun k k1 k2 => by rw [rf k (by omega), ko.2.2 k k1 k2]
  have rowr : ∀ k, 178 ≤ k → k ≤ 182 → a2 k = a k := fun k k1 k2 => by rw [kor.2.2 k k1 k2, cl k (by omega)]
  have e49 : a2 146 49 = a 146 49 := by rw [kor.1, cl 146 (by decide)]
  have e55 : a2 146 55 = a 146 55 := by rw [kor.2.1, cl 146 (by decide)]
  have e462 : a2 4 6 = a 4 6 := by rw [rf 4 (by decide)]; exact e46
  have n2 : a2 58 8 = vN (cvC a1) := by rw [← c2]; rfl
  have n0 : a 58 8 = vN (cvC a) := rfl
  refine ⟨⟨by rw [e6, e49, h1], by rw [row 84 (by decide) (by decide), rowr 178 (by decide) (by decide), h2], by rw [row 85 (by decide) (by decide), rowr 179 (by decide) (by decide), h3], by rw [row 86 (by decide) (by decide), rowr 180 (by decide) (by decide), h4], by rw [row 87 (by decide) (by decide), rowr 181 (by decide) (by decide), h5]⟩, fun j hj => ?_, fun j hj => ?_, fun j hj => ?_, by rw [e7, e55, h9], ?_, ?_⟩
  · rw [row 87 (by decide) (by decide)]
    exact h6 j (by rw [← e6]; exact hj)
  · rw [row 84 (by decide) (by decide), e462]
    exact h7 j (by rw [← e6]; exact hj)
  · rw [row 87 (by decide) (by decide)] at hj
    obtain ⟨q1, q2, q3, q4⟩ := h8 j hj
    unfold RGO
    rw [row 88 (by decide) (by decide), row 89 (by decide) (by decide), row 84 (by decide) (by decide), rowr 182 (by decide) (by decide), e7, c2, nr.1 _ _ q2]
    exact ⟨q1, q2, q3, q4⟩
  · rw [e7, n2]
    have := nr.2.2
    omega
  · rw [c2, e7]
    exact nr.2.1 _ h10.1 h11
theorem FDR_mk {a a1 a2 : Nat → Nat → Int} (h : FDR a) (cl : CLS a a1) (rf : RFS a1 a2) (kf : KFD a a1) (kfr : KFDr a1 a2) (e6 : a 83 6 ≤ a1 83 6) (e84 : ∀ j : Nat, (j : Int) < a 83 6 → a1 84 j = a 84 j) : FDR a2 := by
  obtain ⟨h1, h2⟩ := h
  have e90 : a2 90 12 = a 90 12 := by rw [rf 90 (by decide)]; exact kf.1
  have e97 : a2 97 = a 97 := by rw [rf 97 (by decide), kf.2.1]
  have e104 : a2 104 = a 104 := by rw [rf 104 (by decide), kf.2.2]
  have e64 : a2 146 64 = a 146 64 := by rw [kfr.1, cl 146 (by decide)]
  have e189 : a2 189 = a 189 := by rw [kfr.2.1, cl 189 (by decide)]
  have e190 : a2 190 = a 190 := by rw [kfr.2.2, cl 190 (by decide)]
  have e62 : a2 83 6 = a1 83 6 := by rw [rf 83 (by decide)]
  have e842 : a2 84 = a1 84 := rf 84 (by decide)
  refine ⟨by rw [e90, e64, h1], fun m hm => ?_⟩
  obtain ⟨q1, q2, q3, q4, q5⟩ := h2 m (by rw [← e90]; exact hm)
  unfold FDR1
  rw [e104, e190, e97, e189, e62, e842]
  refine ⟨q1, q2, q3, fun i hi => ?_, fun i j hij hj => ?_⟩
  · have z := q4 i hi
    exact ⟨z.1, z.2.1, by omega⟩
  · have z1 := q4 i (by omega)
    have z2 := q4 j hj
    rw [e84 _ (by omega), e84 _ (by omega)]
    exact q5 i j hij hj
theorem LST8_mk {a a1 a2 : Nat → Nat → Int} (h : LST8 a) (cl : CLS a a1) (rf : RFS a1 a2) (kl : KLS a a1) (klr : KLSr a1 a2) (e46 : a1 4 6 = a 4 6) : LST8 a2 := by
  have e1 : a2 0 9 = a 0 9 := by rw [rf 0 (by decide)]; exact kl.1
  have e2 : a2 76 = a 76 := by rw [rf 76 (by decide), kl.2]
  have e3 : a2 146 42 = a 146 42 := by rw [klr.1, cl 146 (by decide)]
  have e4 : a2 173 = a 173 := by rw [klr.2, cl 173 (by decide)]
  have e5 : a2 4 6 = a 4 6 := by rw [rf 4 (by decide)]; exact e46
  unfold LST8
  rw [e1, e2, e3, e4, e5]
  exact h
theorem RLE_mk {a a1 a2 : Nat → Nat → Int} (h : RLE a) (cl : CLS a a1) (rf : RFS a1 a2) (e : a1 56 = a 56) (er : a2 171 = a1 171) : RLE a2 := by
  unfold RLE
  rw [rf 56 (by decide), e, er, cl 171 (by decide)]
  exact h
/-- cards come, or are told of -/
theorem ST_mk {a a1 a2 : Nat → Nat → Int} (hs : STR a) (cl : CLS a a1) (rf : RFS a1 a2) (ko : KOF a a1) (kor : KOFr a1 a2) (kf : KFD a a1) (kfr : KFDr a1 a2) (kb : KB a a1) (kbr : KBr a1 a2) (k9 : a1 9 = a 9) (k153 : a2 153 = a1 153) (ec : cvC a1 = cvR a2) (ci : CI (cvC a1) (a 4 6) (a 0 0)) (ofn : OFN (cvC a1) = OFN (cvC a)) (nr : NRC (cvC a) (cvC a1)) (ls : LST8 a2) : STR a2 := by
  obtain ⟨⟨p1, p2, p3, p4, p5⟩, q, f, l⟩ := hs
  have c2 : cvC a2 = cvC a1 := cvC_rf rf
  have e00 : a2 0 0 = a 0 0 := by rw [rf 0 (by decide)]; exact kb.1
  have e46 : a2 4 6 = a 4 6 := by rw [rf 4 (by decide)]; exact kb.2.1
  refine ⟨⟨by rw [c2, ec], ?_, ?_, ?_, RLE_mk p5 cl rf kb.2.2 kbr.2.2⟩, OFR_mk q cl rf ko kor kb.2.1 nr, FDR_mk f cl rf kf kfr (by rw [ko.1]; exact Int.le_refl _) (fun j _ => by rw [ko.2.2 84 (by decide) (by decide)]), ls⟩
  · rw [rf 9 (by decide), k9, k153, cl 153 (by decide), p2]
  · unfold CIC
    rw [c2, e00, e46]; exact ci
  · unfold CRB
    rw [c2, rf 9 (by decide), k9, ofn, e46]
    exact p4
