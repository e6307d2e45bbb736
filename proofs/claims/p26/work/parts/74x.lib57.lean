/-! a ring is closed -/
abbrev S4c : Type := CV × (Nat → Int) × (Nat → Int) × (Nat → Int)
def nxt (L n : Nat) : Nat := if n + 1 < L then n + 1 else 0
def clo (w r : Int) (mem : Nat → Int) (B : CV → Int → Int → Int) (o : Nat → Int) (L : Nat) : Nat → S4c → S4c
  | 0, s => s
  | n + 1, s => (vAdd (clo w r mem B o L n s).1 (mem (o n).toNat) (mem (o (nxt L n)).toNat) w (B (clo w r mem B o L n s).1 (mem (o n).toNat) (mem (o (nxt L n)).toNat)) r, rup (clo w r mem B o L n s).2.1 (o n).toNat 1, rup (clo w r mem B o L n s).2.2.1 (o n).toNat r, rup (clo w r mem B o L n s).2.2.2 (o n).toNat (vN (clo w r mem B o L n s).1))
theorem clo_n {w r : Int} {mem : Nat → Int} {B : CV → Int → Int → Int} {o : Nat → Int} {L : Nat} {s : S4c} : ∀ n, vN (clo w r mem B o L n s).1 = vN s.1 + n
  | 0 => by show vN s.1 = vN s.1 + ((0 : Nat) : Int); omega
  | n + 1 => by
    have ih := clo_n (w := w) (r := r) (mem := mem) (B := B) (o := o) (L := L) (s := s) n
    show vN (clo w r mem B o L n s).1 + 1 = _
    rw [ih]; omega
def oC (a0 b0 : Nat → Nat → Int) (x1 : Int) (i : Nat) : Int := f_X5_offerAt a0 b0 x1 (i : Int)
def CLOs (a0 b0 : Nat → Nat → Int) (x1 : Int) (n : Nat) : S4c := clo (a0 0 0) (a0 83 7) (a0 84) (BNV (f_X3_landOf a0 b0) (a0 56 3)) (oC a0 b0 x1) (f_X5_lengthOf a0 b0 x1).toNat n (cvC a0, a0 87, a0 88, a0 89)
def CLO (a0 b0 a : Nat → Nat → Int) (x1 : Int) (n : Nat) : Prop := (cvC a, a 87, a 88, a 89) = CLOs a0 b0 x1 n
def CLO1 (a0 b0 a : Nat → Nat → Int) (x1 : Int) (n : Nat) (y7 : Int) : Prop := cvC a = (CLOs a0 b0 x1 (n + 1)).1 ∧ (a 87, a 88, a 89) = (CLOs a0 b0 x1 n).2 ∧ y7 = vN (CLOs a0 b0 x1 n).1
def CLN (a0 b0 : Nat → Nat → Int) (x1 : Int) : Prop := f_X5_lengthOf a0 b0 x1 = 0 ∨ f_X0_hasRoom a0 b0 (f_X5_lengthOf a0 b0 x1) = 0 ∨ ∃ i : Nat, (i : Int) < f_X5_lengthOf a0 b0 x1 ∧ f_X4_isOpen a0 b0 (oC a0 b0 x1 i) = 0
def CLC (a0 b0 a : Nat → Nat → Int) (x1 r : Int) : Prop := (CLN a0 b0 x1 ∧ r = -1 ∧ (cvC a, a 87, a 88, a 89) = (cvC a0, a0 87, a0 88, a0 89) ∧ a 83 7 = a0 83 7) ∨ (¬ CLN a0 b0 x1 ∧ r = a0 83 7 ∧ a 83 7 = jxw (a0 83 7 + 1) ∧ CLO a0 b0 a x1 (f_X5_lengthOf a0 b0 x1).toNat)
theorem CLO_n {a0 b0 a : Nat → Nat → Int} {x1 : Int} {n : Nat} (h : CLO a0 b0 a x1 n) : a 58 8 = a0 58 8 + n := by
  have e := congrArg (fun s : S4c => vN s.1) h
  have q := clo_n (w := a0 0 0) (r := a0 83 7) (mem := a0 84) (B := BNV (f_X3_landOf a0 b0) (a0 56 3)) (o := oC a0 b0 x1) (L := (f_X5_lengthOf a0 b0 x1).toNat) (s := (cvC a0, a0 87, a0 88, a0 89)) n
  exact e.trans q
theorem CLO_send {a0 b0 a a1 : Nat → Nat → Int} {x1 y7 : Int} {n : Nat} (h : CLO a0 b0 a x1 n) (hs : cvC a1 = vAdd (cvC a) (a0 84 (oC a0 b0 x1 n).toNat) (a0 84 (oC a0 b0 x1 (nxt (f_X5_lengthOf a0 b0 x1).toNat n)).toNat) (a0 0 0) (BNV (f_X3_landOf a0 b0) (a0 56 3) (cvC a) (a0 84 (oC a0 b0 x1 n).toNat) (a0 84 (oC a0 b0 x1 (nxt (f_X5_lengthOf a0 b0 x1).toNat n)).toNat)) (a0 83 7)) (hn : y7 = a 58 8) (e87 : a1 87 = a 87) (e88 : a1 88 = a 88) (e89 : a1 89 = a 89) : CLO1 a0 b0 a1 x1 n y7 := by
  have e : cvC a = (CLOs a0 b0 x1 n).1 := congrArg (fun s : S4c => s.1) h
  refine ⟨?_, ?_, ?_⟩
  · rw [hs, e]; rfl
  · rw [e87, e88, e89]
    exact congrArg (fun s : S4c => s.2) h
  · rw [hn, ← e]; rfl
theorem CLO_join {a0 b0 a a1 : Nat → Nat → Int} {x1 y7 y5 : Int} {n : Nat} (h : CLO1 a0 b0 a x1 n y7) (e5 : y5 = oC a0 b0 x1 n) (hc : cvC a1 = cvC a) (hj : a1 87 = rup (a 87) y5.toNat 1 ∧ a1 88 = rup (a 88) y5.toNat (a0 83 7) ∧ a1 89 = rup (a 89) y5.toNat y7) : CLO a0 b0 a1 x1 (n + 1) := by
  obtain ⟨h1, h2, h3⟩ := h
  have e1 : a 87 = (CLOs a0 b0 x1 n).2.1 := congrArg (fun s : (Nat → Int) × (Nat → Int) × (Nat → Int) => s.1) h2
  have e2 : a 88 = (CLOs a0 b0 x1 n).2.2.1 := congrArg (fun s : (Nat → Int) × (Nat → Int) × (Nat → Int) => s.2.1) h2
  have e3 : a 89 = (CLOs a0 b0 x1 n).2.2.2 := congrArg (fun s : (Nat → Int) × (Nat → Int) × (Nat → Int) => s.2.2) h2
  unfold CLO
  rw [hc, h1, hj.1, hj.2.1, hj.2.2, e1, e2, e3, h3, e5]
  rfl
theorem nxt_i {L n : Nat} {y4 y2 s2 : Int} (h0 : 0 ≤ y4) (e1 : y4.toNat = n) (e2 : y2.toNat = L) (h : s2 = if y4 + 1 < y2 then y4 + 1 else 0) : s2 = ((nxt L n : Nat) : Int) := by
  unfold nxt
  rw [h]
  by_cases c : y4 + 1 < y2
  · rw [if_pos c, if_pos (by omega)]; omega
  · rw [if_neg c, if_neg (by omega)]; rfl
theorem nxt_lt {L n : Nat} (h : n < L) : nxt L n < L := by
  unfold nxt
  split <;> omega
theorem isOpen_in {a b : Nat → Nat → Int} {x : Int} (h : ¬ f_X4_isOpen a b x = 0) : 0 ≤ x ∧ x < a 83 6 ∧ x < 20 ∧ a 87 x.toNat = 0 := by
  unfold f_X4_isOpen f_X4_has at h
  by_cases c1 : x < 0
  · exact absurd (by rw [if_pos c1, if_pos rfl]) h
  · by_cases c2 : x < a 83 6
    · by_cases c3 : x < 20
      · rw [if_neg c1, if_pos c2, if_pos c3, if_neg (by decide)] at h
        refine ⟨by omega, c2, c3, ?_⟩
        by_cases c4 : a 87 x.toNat = 0
        · exact c4
        · exact absurd (if_neg c4) h
      · exact absurd (by rw [if_neg c1, if_pos c2, if_neg c3, if_pos rfl]) h
    · exact absurd (by rw [if_neg c1, if_neg c2, if_pos rfl]) h
theorem offerAt_fr {a a1 b b1 : Nat → Nat → Int} (e : a1 90 12 = a 90 12) (e2 : ∀ j, a1 104 j = a 104 j) (e3 : ∀ j, a1 97 j = a 97 j) : (∀ x, f_X5_lengthOf a1 b1 x = f_X5_lengthOf a b x) ∧ ∀ x y, f_X5_offerAt a1 b1 x y = f_X5_offerAt a b x y := by
  have l : ∀ x, f_X5_lengthOf a1 b1 x = f_X5_lengthOf a b x := fun x => by
    unfold f_X5_lengthOf
    rw [e, e2]
  refine ⟨l, fun x y => ?_⟩
  unfold f_X5_offerAt
  rw [l, e3]
theorem isOpen_fr {a a1 b b1 : Nat → Nat → Int} (e : a1 83 6 = a 83 6) (e2 : ∀ j, a1 87 j = a 87 j) (x : Int) : f_X4_isOpen a1 b1 x = f_X4_isOpen a b x := by
  unfold f_X4_isOpen f_X4_has
  rw [e, e2]
theorem lengthOf_rg {a b : Nat → Nat → Int} (h : ∀ j, 0 ≤ a 104 j ∧ a 104 j ≤ 5) (x : Int) : 0 ≤ f_X5_lengthOf a b x ∧ f_X5_lengthOf a b x ≤ 5 := by
  unfold f_X5_lengthOf
  have := h x.toNat
  repeat (first | omega | split)
/-! the reference -/
def oR (a0 : Nat → Nat → Int) (x1 : Int) (i : Nat) : Int := a0 189 (5 * x1.toNat + i)
def CROs (a0 : Nat → Nat → Int) (x1 : Int) (f0 : Nat → Int) (n : Nat) : S4c := clo (a0 146 0) (a0 146 55) (a0 178) (BNVr (ldR a0) (a0 171 3)) (oR a0 x1) (a0 190 x1.toNat).toNat n (cvR a0, a0 181, a0 182, f0)
def CRO (a0 a : Nat → Nat → Int) (x1 : Int) (n : Nat) : Prop := ∀ f0, cvR a = (CROs a0 x1 f0 n).1 ∧ a 181 = (CROs a0 x1 f0 n).2.1 ∧ a 182 = (CROs a0 x1 f0 n).2.2.1
def CRN (a0 b0 : Nat → Nat → Int) (x1 : Int) : Prop := f_X12_in a0 b0 x1 0 (jxw (a0 146 64 - 1)) = 0 ∨ 300 < jxw (a0 146 9 + a0 190 x1.toNat) ∨ ∃ i : Nat, (i : Int) < a0 190 x1.toNat ∧ ¬ a0 181 (oR a0 x1 i).toNat = 0
def CLR (a0 b0 a : Nat → Nat → Int) (x1 r : Int) : Prop := (CRN a0 b0 x1 ∧ r = -1 ∧ cvR a = cvR a0 ∧ a 181 = a0 181 ∧ a 182 = a0 182 ∧ a 146 55 = a0 146 55) ∨ (¬ CRN a0 b0 x1 ∧ r = jxw (jxw (a0 146 55 + 1) - 1) ∧ a 146 55 = jxw (a0 146 55 + 1) ∧ CRO a0 a x1 (a0 190 x1.toNat).toNat)
theorem CRO_s {a0 a a1 : Nat → Nat → Int} {x1 y4 y5 : Int} {n : Nat} (h : CRO a0 a x1 n) (e4 : y4 = oR a0 x1 n) (e5 : y5 = oR a0 x1 (nxt (a0 190 x1.toNat).toNat n)) (hs : cvR a1 = vAdd (cvR a) (a0 178 y4.toNat) (a0 178 y5.toNat) (a0 146 0) (BNVr (ldR a0) (a0 171 3) (cvR a) (a0 178 y4.toNat) (a0 178 y5.toNat)) (a0 146 55)) (e1 : a1 181 = rup (a 181) y4.toNat 1) (e2 : a1 182 = rup (a 182) y4.toNat (a0 146 55)) : CRO a0 a1 x1 (n + 1) := fun f0 => by
  obtain ⟨h1, h2, h3⟩ := h f0
  refine ⟨?_, ?_, ?_⟩
  · rw [hs, e4, e5, h1]; rfl
  · rw [e1, e4, h2]; rfl
  · rw [e2, e4, h3]; rfl
theorem CRO_fr {a0 a a1 : Nat → Nat → Int} {x1 : Int} {n : Nat} (h : CRO a0 a x1 n) (e : cvR a1 = cvR a) (e1 : a1 181 = a 181) (e2 : a1 182 = a 182) : CRO a0 a1 x1 n := fun f0 => by
  rw [e, e1, e2]; exact h f0
theorem tmod_nxt {y L : Int} (h0 : 0 ≤ y) (h1 : y < L) : Int.tmod (y + 1) L = if y + 1 < L then y + 1 else 0 := by
  rw [Int.tmod_eq_emod_of_nonneg (by omega)]
  by_cases c : y + 1 < L
  · rw [if_pos c, Int.emod_eq_of_lt (by omega) c]
  · rw [if_neg c, show y + 1 = L by omega, Int.emod_self]
theorem jxw_back {x : Int} (h0 : -2147483648 ≤ x) (h1 : x ≤ 2147483647) : jxw (jxw (x + 1) - 1) = x := by
  by_cases c : x = 2147483647
  · rw [c]; decide +kernel
  · rw [jxw_id (x := x + 1) (by omega) (by omega), jxw_id (by omega) (by omega)]
    omega
