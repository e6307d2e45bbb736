/-! a code taken apart -/
theorem SCOD_parts {n : Nat → Nat} (h : ∀ i, n i ≤ 50) : jxwl ((jxshll (jxshrl (jxwl ((jxwl (SCOD n + 281474976710656)) - 1)) 48) 48) - SCOD n) = ORD 8 n := by
  have a := ORD_bd (n := n) (fun i => by have := h i; omega)
  have b := SCNT_le (c := fun _ => 50) (fun _ _ => Nat.le_refl _) (fun i _ => h i)
  have c := SCNT_nn n 8
  have e : SCOD n = 281474976710656 * SCNT n 8 - ORD 8 n := rfl
  rw [jxwl_id (x := SCOD n + 281474976710656) (by omega) (by omega), jxwl_id (x := SCOD n + 281474976710656 - 1) (by omega) (by omega)]
  have s1 := jxshrl_nat (SCOD n + 281474976710656 - 1).toNat 48 (by omega) (by decide)
  rw [show (((SCOD n + 281474976710656 - 1).toNat : Nat) : Int) = SCOD n + 281474976710656 - 1 from by omega, show (SCOD n + 281474976710656 - 1).toNat / 2 ^ 48 = (SCNT n 8).toNat from by rw [show (2 : Nat) ^ 48 = 281474976710656 from by decide]; omega] at s1
  rw [show ((48 : Nat) : Int) = 48 from rfl] at s1
  rw [s1]
  have s2 := jxshll_nat (SCNT n 8).toNat 48 (by decide) (by rw [show (2 : Nat) ^ 48 = 281474976710656 from by decide]; omega)
  rw [show ((48 : Nat) : Int) = 48 from rfl, show (2 : Nat) ^ 48 = 281474976710656 from by decide] at s2
  rw [s2, jxwl_id (by omega) (by omega)]
  omega
theorem code_dig {q : Nat → Nat} {i : Nat} (hq : ∀ j, q j ≤ 50) (hi : i < 8) : jxand (jxw (jxshrl (ORD 8 q) (jxw (6 * (jxw (7 - (i : Int))))))) 63 = (q i : Int) := by
  have e : jxw (6 * (jxw (7 - (i : Int)))) = ((6 * (7 - i) : Nat) : Int) := by
    rw [jxw_id (x := 7 - (i : Int)) (by omega) (by omega), jxw_id (by omega) (by omega)]
    omega
  have b := ORD_bd (n := q) (fun j => by have := hq j; omega)
  obtain ⟨n, hn⟩ : ∃ n : Nat, ORD 8 q = (n : Int) := ⟨(ORD 8 q).toNat, by omega⟩
  have d := ORD_dig (m := 8) (q := q) (by decide) (fun j => by have := hq j; omega) hi
  have p : 2 ^ (6 * (7 - i)) = 64 ^ (7 - i) := by rw [Nat.pow_mul]
  have pw : PW i = ((64 ^ (7 - i) : Nat) : Int) := by
    unfold PW
    rw [Int.natCast_pow]; rfl
  rw [e, hn, jxshrl_nat n _ (by omega) (by omega), jxand63 (Int.natCast_nonneg _), ← d, hn, pw, p]
  rw [← Int.natCast_ediv]
/-! one bundle, as the class tries it -/
def TBH (a b : Nat → Nat → Int) (x1 x2 x3 : Int) : Prop := 1 ≤ x2 ∧ x2 ≤ 50 ∧ x3 ≤ 1399 ∧ 1 ≤ a 142 x1.toNat ∧ a 142 x1.toNat ≤ 500 ∧ BOK (b 145) x3
theorem TB_w {a b : Nat → Nat → Int} {x1 x2 x3 : Int} (h : TBH a b x1 x2 x3) : 1 ≤ x2 * a 142 x1.toNat ∧ x2 * a 142 x1.toNat ≤ 25500 ∧ jxw (x2 * a 142 x1.toNat) = x2 * a 142 x1.toNat := by
  have m := mul_bd (n := x2) (v := a 142 x1.toNat) (by have := h.1; omega) (by have := h.2.1; omega) h.2.2.2.2.1 (Or.inr h.2.2.2.1)
  have p : 0 < x2 * a 142 x1.toNat := Int.mul_pos (by have := h.1; omega) (by have := h.2.2.2.1; omega)
  exact ⟨by omega, m.2, jxw_id (by omega) (by omega)⟩
theorem PW_rg {i : Nat} : 1 ≤ PW i ∧ PW i ≤ 4398046511104 := by
  have pw : PW i = ((64 ^ (7 - i) : Nat) : Int) := by
    unfold PW
    rw [Int.natCast_pow]; rfl
  have q : 64 ^ (7 - i) ≤ 64 ^ 7 := Nat.pow_le_pow_right (by decide) (by omega)
  have q7 : (64 : Nat) ^ 7 = 4398046511104 := by decide
  have q0 : 0 < 64 ^ (7 - i) := Nat.pow_pos (by decide)
  omega
theorem TB_c {a b : Nat → Nat → Int} {x1 x2 x3 : Int} (h : TBH a b x1 x2 x3) (h0 : 0 ≤ x1) (h7 : x1 ≤ 7) : 0 ≤ x2 * SCK x1.toNat ∧ x2 * SCK x1.toNat ≤ 14073748835532800 ∧ jxwl (x2 * (jxwl (281474976710656 - (jxshll 1 (jxw (6 * (jxw (7 - x1)))))))) = x2 * SCK x1.toNat := by
  have s := shiftPW (x := 1) (i := x1.toNat) (by decide) (by decide) (by omega)
  rw [Int.toNat_of_nonneg h0, Int.one_mul] at s
  have p := PW_rg (i := x1.toNat)
  have ek : (281474976710656 : Int) - PW x1.toNat = SCK x1.toNat := rfl
  rw [s, jxwl_id (x := 281474976710656 - PW x1.toNat) (by omega) (by omega), ek]
  have m1 : x2 * SCK x1.toNat ≤ 50 * SCK x1.toNat := Int.mul_le_mul_of_nonneg_right h.2.1 (by omega)
  have m0 : 0 ≤ x2 * SCK x1.toNat := Int.mul_nonneg (by have := h.1; omega) (by omega)
  exact ⟨m0, by omega, jxwl_id (by omega) (by omega)⟩
def TBI (B B' : Nat → Int) (w co L y7 : Int) : Prop := ∀ y : Nat, ((y : Int) ≤ y7 → B' y = B y) ∧ (y7 < (y : Int) → (y : Int) ≤ L → B' y = TBF B w co y)
theorem TBI_0 {B : Nat → Int} {w co L y7 : Int} (h : L ≤ y7) : TBI B B w co L y7 := fun y => ⟨fun _ => rfl, fun h1 h2 => absurd h1 (by omega)⟩
theorem TBI_no {B B' : Nat → Int} {w co L y7 : Int} (h : TBI B B' w co L y7) (w0 : 0 < w) (h0 : w ≤ y7) (hI : B' (y7 - w).toNat = IMPO) : TBI B B' w co L (y7 - 1) := fun y => by
  refine ⟨fun q => (h y).1 (by omega), fun q1 q2 => ?_⟩
  by_cases e : (y : Int) = y7
  · rw [(h y).1 (by omega)]
    have e2 := (h (y7 - w).toNat).1 (by omega)
    unfold TBF
    rw [show y - w.toNat = (y7 - w).toNat from by omega, ← e2, hI, if_neg (fun z => z.2 rfl)]
  · exact (h y).2 (by omega) q2
theorem TBI_yes {B B' : Nat → Int} {w co L y7 v : Int} (h : TBI B B' w co L y7) (w0 : 0 < w) (h0 : w ≤ y7) (hL : y7 ≤ L) (hB : BOK B L) (hc : 0 ≤ co ∧ co ≤ 14073748835532800) (hI : ¬ B' (y7 - w).toNat = IMPO) (hv : v = if 0 < jxlcmp (B' y7.toNat) (jxwl (B' (y7 - w).toNat + co)) then jxwl (B' (y7 - w).toNat + co) else B' y7.toNat) : TBI B (fun j => if j = y7.toNat then v else B' j) w co L (y7 - 1) := fun y => by
  have e2 := (h (y7 - w).toNat).1 (by omega)
  have e1 := (h y7.toNat).1 (by omega)
  have bd := hB (y7 - w).toNat (by omega)
  rw [← e2] at bd
  have bd2 : -281474976710656 ≤ B' (y7 - w).toNat ∧ B' (y7 - w).toNat ≤ 112589990684262400 := by
    rcases bd with z | z
    · exact absurd z hI
    · exact z
  refine ⟨fun q => ?_, fun q1 q2 => ?_⟩
  · show (if y = y7.toNat then v else B' y) = B y
    rw [if_neg (by omega)]
    exact (h y).1 (by omega)
  · show (if y = y7.toNat then v else B' y) = _
    by_cases e : (y : Int) = y7
    · have ey : y = y7.toNat := by omega
      have k1 : B (y - w.toNat) = B' (y7 - w).toNat := by rw [e2, show y - w.toNat = (y7 - w).toNat from by omega]
      have k2 : B y = B' y7.toNat := by rw [e1, ey]
      have cd : w ≤ (y : Int) ∧ ¬ B (y - w.toNat) = IMPO := ⟨by omega, by rw [k1]; exact hI⟩
      have tt : TBF B w co y = (if B' y7.toNat ≤ B' (y7 - w).toNat + co then B' y7.toNat else B' (y7 - w).toNat + co) := by
        unfold TBF
        rw [if_pos cd, k1, k2]
      rw [jxwl_id (by omega) (by omega)] at hv
      have c := jxlcmp_b (B' y7.toNat) (B' (y7 - w).toNat + co)
      rw [if_pos ey, tt, hv]
      by_cases g : 0 < jxlcmp (B' y7.toNat) (B' (y7 - w).toNat + co)
      · rw [if_pos g, if_neg (by omega)]
      · rw [if_neg g, if_pos (by omega)]
    · rw [if_neg (by omega)]
      exact (h y).2 (by omega) q2
theorem TBI_end {B B' : Nat → Int} {w co L y7 : Int} (h : TBI B B' w co L y7) (h0 : y7 < w) : ∀ y : Nat, (y : Int) ≤ L → B' y = TBF B w co y := fun y hy => by
  by_cases c1 : (y : Int) ≤ y7
  · rw [(h y).1 c1]
    unfold TBF
    rw [if_neg (fun z => by have := z.1; omega)]
  · exact (h y).2 (by omega) hy
theorem TK_step {v n : Nat → Int} {B B' : Nat → Int} {x1 x2 y3 y4 s : Int} (hD : DRH v n) (h0 : 0 ≤ x1) (h7 : x1 ≤ 7) (hL : x2 ≤ 1399) (h3 : 0 < y3) (h3n : y3 ≤ n x1.toNat) (h41 : 1 ≤ y4) (h4 : y4 = n x1.toNat - y3 + 1) (hs : s = y4 ∨ s = y3) (hs3 : s ≤ y3) (hs4 : s ≤ y4) (hT : TBL (cN n) v x1.toNat (n x1.toNat - y3).toNat B x2) (hB : (1 ≤ s ∧ s ≤ 50 ∧ x2 ≤ 1399 ∧ 1 ≤ v x1.toNat ∧ v x1.toNat ≤ 500 ∧ BOK B x2) → ∀ y : Nat, (y : Int) ≤ x2 → B' y = TBF B (s * v x1.toNat) (s * SCK x1.toNat) y) : TBL (cN n) v x1.toNat (n x1.toNat - (y3 - s)).toNat B' x2 := by
  have d := hD x1.toNat (by omega)
  have c := DRH_c hD
  have e := hB ⟨by omega, by omega, hL, by omega, by omega, TBL_ok c.1 (by omega) (by omega) hT⟩
  have r := TBL_bundle (s := s.toNat) (B' := B') (by omega) c.1 c.2 (by omega) (by omega) (by omega) hT (fun y hy => by rw [e y hy, Int.toNat_of_nonneg (by omega)])
  rw [show (n x1.toNat - (y3 - s)).toNat = (n x1.toNat - y3).toNat + s.toNat from by omega]
  exact r
/-! what the search keeps -/
def PLI (c : Nat → Nat) (v : Nat → Int) (B : Nat → Int) (x y2 y3 : Int) : Prop := x ≤ y3 ∧ TBL c v 8 0 B y2 ∧ (∃ d : Int, 0 ≤ d ∧ (∀ i, i < 8 → 0 < c i → v i ≤ d) ∧ y2 ≤ 1399 ∧ (y2 = 1399 ∨ y2 = x + d - 1)) ∧ ∀ s, x ≤ s → s < y3 → ∀ n, ¬ WAYS c v 0 s n
theorem PLI_on {c : Nat → Nat} {v : Nat → Int} {B : Nat → Int} {x y2 y3 : Int} (hx : 1 ≤ x) (h : PLI c v B x y2 y3) (h2 : y3 ≤ y2) (hB : B y3.toNat = IMPO) : PLI c v B x y2 (y3 + 1) := by
  refine ⟨by have := h.1; omega, h.2.1, h.2.2.1, fun s s1 s2 => ?_⟩
  by_cases e : s = y3
  · have q := h.2.1 y3.toNat (by have := h.1; omega)
    rw [hB, show ((y3.toNat : Nat) : Int) = s from by have := h.1; omega] at q
    exact BST_no q
  · exact h.2.2.2 s s1 (by omega)
theorem PLI_end {c : Nat → Nat} {v : Nat → Int} {B : Nat → Int} {x y2 y3 : Int} (hx : 1 ≤ x) (hcv : ∀ i, i < 8 → c i = 0 ∨ 1 ≤ v i) (h : PLI c v B x y2 y3) (h2 : y2 < y3) : PAYX c v x := by
  obtain ⟨h1, h3, ⟨d, d0, d1, d2, d3⟩, h4⟩ := h
  exact NOW_far hcv d1 hx (fun s s1 s2 s3 => h4 s s1 (by omega))
theorem PLI_hit {c : Nat → Nat} {v : Nat → Int} {B : Nat → Int} {x y2 y3 : Int} (hx : 1 ≤ x) (hc : ∀ i, i < 8 → c i ≤ 50) (h : PLI c v B x y2 y3) (h2 : y3 ≤ y2) (hB : ¬ B y3.toNat = IMPO) : ∃ q, PAYC c v x y3 q ∧ B y3.toNat = SCOD q := by
  obtain ⟨h1, h3, ⟨d, d0, d1, d2, d3⟩, h4⟩ := h
  have q := h3 y3.toNat (by omega)
  rw [show ((y3.toNat : Nat) : Int) = y3 from by omega] at q
  obtain ⟨n, n1, n2, n3, n4⟩ := BST_yes hc q hB
  exact ⟨n, ⟨h1, by omega, h4, n1, n2, n4⟩, n3⟩
