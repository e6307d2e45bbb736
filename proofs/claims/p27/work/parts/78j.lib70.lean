/-! the state over calls that leave it alone; rules read -/
theorem DRF_nn (f : Nat → Int) (n : Nat) : ∀ k, 0 ≤ DRF f n k 1
  | 0 => by show (0 : Int) ≤ RDF 1; decide
  | k + 1 => by
    show 0 ≤ (if (1 : Int) = WI f n (RP f n k) then NV f n (RQ f n (RP f n k)) else DRF f n k 1)
    split
    · exact (NV_bd _ _ _).1
    · exact DRF_nn f n k
theorem RLE_rules {a a1 a2 : Nat → Nat → Int} (h : RLE a) (cl : CLS a a1) (rf : RFS a1 a2) (ht : TAPE a) (hn : a 2 1 = a 146 22) {r r2 : Int} (er : r = r2) (p1 : 0 ≤ r → ∀ w : Nat, w < 5 → a1 56 w = DRF (a 3) (a 2 1).toNat r.toNat w) (p0 : r < 0 → ∀ j, a1 56 j = a 56 j) (q1 : 0 ≤ r2 → ∀ w : Nat, w < 5 → a2 171 w = DRF (UB (a1 164)) (a1 146 22).toNat r2.toNat w) (q0 : r2 < 0 → ∀ j, a2 171 j = a1 171 j) : RLE a2 := by
  subst er
  have e56 : a2 56 = a1 56 := rf 56 (by decide)
  by_cases c : 0 ≤ r
  · have e : UB (a1 164) = a 3 := by
      rw [cl 164 (by decide)]
      exact funext fun j => (ht j).symm
    have q := q1 c
    rw [e, cl 146 (by decide), ← hn] at q
    refine ⟨fun k hk => by rw [e56, p1 c k hk, q k hk], ?_⟩
    rw [e56, p1 c 1 (by decide)]
    exact DRF_nn _ _ _
  · refine ⟨fun k hk => ?_, ?_⟩
    · rw [e56, p0 (by omega), q0 (by omega), cl 171 (by decide)]
      exact h.1 k hk
    · rw [e56, p0 (by omega)]
      exact h.2
section
variable {W : List (Nat × Nat)} {a a1 : Nat → Nat → Int}
theorem STR_eq (h : STR a) (ec : cvC a1 = cvC a) (er : cvR a1 = cvR a) (r9 : a1 9 = a 9) (r153 : a1 153 = a 153) (e00 : a1 0 0 = a 0 0) (e46 : a1 4 6 = a 4 6) (r56 : a1 56 = a 56) (r171 : a1 171 = a 171) (ko : KOF a a1) (kor : KOFr a a1) (kf : KFD a a1) (kfr : KFDr a a1) (kl : KLS a a1) (klr : KLSr a a1) : STR a1 := by
  obtain ⟨⟨p1, p2, p3, p4, p5⟩, ⟨⟨o1, o2, o3, o4, o5⟩, o6, o7, o8, o9, o10, o11⟩, ⟨f1, f2⟩, l1, l2⟩ := h
  have row : ∀ k, 84 ≤ k → k ≤ 89 → a1 k = a k := fun k k1 k2 => ko.2.2 k k1 k2
  have rowr : ∀ k, 178 ≤ k → k ≤ 182 → a1 k = a k := fun k k1 k2 => kor.2.2 k k1 k2
  have n2 : a1 58 8 = a 58 8 := congrArg vN ec
  refine ⟨⟨by rw [ec, er, p1], by rw [r9, r153, p2], by unfold CIC; rw [ec, e46, e00]; exact p3, by rw [ec, r9, e46]; exact p4, by unfold RLE; rw [r56, r171]; exact p5⟩, ⟨⟨by rw [ko.1, kor.1, o1], by rw [row 84 (by decide) (by decide), rowr 178 (by decide) (by decide), o2], by rw [row 85 (by decide) (by decide), rowr 179 (by decide) (by decide), o3], by rw [row 86 (by decide) (by decide), rowr 180 (by decide) (by decide), o4], by rw [row 87 (by decide) (by decide), rowr 181 (by decide) (by decide), o5]⟩, ?_, ?_, ?_, by rw [ko.2.1, kor.2.1, o9], by rw [ko.2.1, n2]; exact o10, by rw [ec, ko.2.1]; exact o11⟩, ⟨by rw [kf.1, kfr.1, f1], ?_⟩, by rw [kl.1, klr.1, l1], ?_⟩
  · rw [ko.1, row 87 (by decide) (by decide)]; exact o6
  · rw [ko.1, row 84 (by decide) (by decide), e46]; exact o7
  · intro j hj
    rw [row 87 (by decide) (by decide)] at hj
    unfold RGO
    rw [row 88 (by decide) (by decide), row 89 (by decide) (by decide), row 84 (by decide) (by decide), rowr 182 (by decide) (by decide), ko.2.1, ec]
    exact o8 j hj
  · intro m hm
    unfold FDR1
    rw [kf.2.1, kf.2.2, kfr.2.1, kfr.2.2, ko.1, row 84 (by decide) (by decide)]
    exact f2 m (by rw [← kf.1]; exact hm)
  · rw [kl.1, kl.2, klr.2, e46]; exact l2
theorem STR_fr (h : STR a) (hf : jfr W a a1) (h00 : jfin W 0 0 = false) (h09 : jfin W 0 9 = false) (h46 : jfin W 4 6 = false) (h9 : ∀ j, jfin W 9 j = false) (h56 : ∀ j, jfin W 56 j = false) (h588 : jfin W 58 8 = false) (h5812 : jfin W 58 12 = false) (k59 : ∀ j, jfin W 59 j = false) (k60 : ∀ j, jfin W 60 j = false) (k61 : ∀ j, jfin W 61 j = false) (k62 : ∀ j, jfin W 62 j = false) (k63 : ∀ j, jfin W 63 j = false) (k64 : ∀ j, jfin W 64 j = false) (k65 : ∀ j, jfin W 65 j = false) (k66 : ∀ j, jfin W 66 j = false) (k67 : ∀ j, jfin W 67 j = false) (k68 : ∀ j, jfin W 68 j = false)
    (h76 : ∀ j, jfin W 76 j = false) (h836 : jfin W 83 6 = false) (h837 : jfin W 83 7 = false) (k84 : ∀ j, jfin W 84 j = false) (k85 : ∀ j, jfin W 85 j = false) (k86 : ∀ j, jfin W 86 j = false) (k87 : ∀ j, jfin W 87 j = false) (k88 : ∀ j, jfin W 88 j = false) (k89 : ∀ j, jfin W 89 j = false) (h9012 : jfin W 90 12 = false) (h97 : ∀ j, jfin W 97 j = false) (h104 : ∀ j, jfin W 104 j = false)
    (h1469 : jfin W 146 9 = false) (h14617 : jfin W 146 17 = false) (h14642 : jfin W 146 42 = false) (h14649 : jfin W 146 49 = false) (h14655 : jfin W 146 55 = false) (h14664 : jfin W 146 64 = false) (h153 : ∀ j, jfin W 153 j = false) (k154 : ∀ j, jfin W 154 j = false) (k155 : ∀ j, jfin W 155 j = false) (k156 : ∀ j, jfin W 156 j = false) (k157 : ∀ j, jfin W 157 j = false) (k158 : ∀ j, jfin W 158 j = false) (k159 : ∀ j, jfin W 159 j = false) (k160 : ∀ j, jfin W 160 j = false) (k161 : ∀ j, jfin W 161 j = false) (k162 : ∀ j, jfin W 162 j = false) (k163 : ∀ j, jfin W 163 j = false)
    (h171 : ∀ j, jfin W 171 j = false) (h173 : ∀ j, jfin W 173 j = false) (k178 : ∀ j, jfin W 178 j = false) (k179 : ∀ j, jfin W 179 j = false) (k180 : ∀ j, jfin W 180 j = false) (k181 : ∀ j, jfin W 181 j = false) (k182 : ∀ j, jfin W 182 j = false) (h189 : ∀ j, jfin W 189 j = false) (h190 : ∀ j, jfin W 190 j = false) : STR a1 := by
  have r : ∀ k, (∀ j, jfin W k j = false) → a1 k = a k := fun k h => funext fun j => hf k j (h j)
  refine STR_eq h (mkCV_eq (hf 58 8 h588) (hf 58 12 h5812) (r 59 k59) (r 60 k60) (r 61 k61) (r 62 k62) (r 63 k63) (r 64 k64) (r 65 k65) (r 66 k66) (r 67 k67) (r 68 k68)) (mkCV_eq (hf 146 9 h1469) (hf 146 17 h14617) (r 154 k154) (r 155 k155) (r 156 k156) (r 157 k157) (r 158 k158) (r 159 k159) (r 160 k160) (r 161 k161) (r 162 k162) (r 163 k163)) (r 9 h9) (r 153 h153) (hf 0 0 h00) (hf 4 6 h46) (r 56 h56) (r 171 h171) ⟨hf 83 6 h836, hf 83 7 h837, fun k k1 k2 => ?_⟩ ⟨hf 146 49 h14649, hf 146 55 h14655, fun k k1 k2 => ?_⟩ ⟨hf 90 12 h9012, r 97 h97, r 104 h104⟩ ⟨hf 146 64 h14664, r 189 h189, r 190 h190⟩ ⟨hf 0 9 h09, r 76 h76⟩ ⟨hf 146 42 h14642, r 173 h173⟩
  · rcases (show k = 84 ∨ k = 85 ∨ k = 86 ∨ k = 87 ∨ k = 88 ∨ k = 89 by omega) with z | z | z | z | z | z <;> subst z
    · exact r 84 k84
    · exact r 85 k85
    · exact r 86 k86
    · exact r 87 k87
    · exact r 88 k88
    · exact r 89 k89
  · rcases (show k = 178 ∨ k = 179 ∨ k = 180 ∨ k = 181 ∨ k = 182 by omega) with z | z | z | z | z <;> subst z
    · exact r 178 k178
    · exact r 179 k179
    · exact r 180 k180
    · exact r 181 k181
    · exact r 182 k182
end
/-! taken back: when -/
def BKp (a : Nat → Nat → Int) (x : Int) : Prop := 0 ≤ x ∧ x < a 58 8 ∧ a 64 x.toNat = -1 ∧ a 58 12 < 600 ∧ ¬ vArr (cvC a) x.toNat = -1
theorem BK_c {a b : Nat → Nat → Int} (h : ALK a) (x : Int) : (0 ≤ x ∧ x < a 58 8 ∧ a 64 x.toNat = -1 ∧ a 58 12 < 600 ∧ ¬ f_X0_arrivedOnOf a b x = -1) ↔ BKp a x := by
  unfold BKp
  by_cases c : 0 ≤ x ∧ x < a 58 8
  · have e := ARO_eq (b := b) h.2.2.1 (c := x.toNat) (by omega)
    rw [Int.toNat_of_nonneg c.1] at e
    rw [e]
  · exact ⟨fun z => absurd ⟨z.1, z.2.1⟩ c, fun z => absurd ⟨z.1, z.2.1⟩ c⟩
theorem BK_r {a a1 : Nat → Nat → Int} (h : ALK a) (cl : CLS a a1) (x : Int) : (0 ≤ x ∧ x < a1 146 9 ∧ a1 159 x.toNat = -1 ∧ ¬ a1 146 17 = 600 ∧ ¬ a1 160 x.toNat < 0 ∧ ¬ a1 162 (a1 160 x.toNat).toNat = -1) ↔ BKp a x := by
  have n := AL_n h
  have nn := CI_n h.2.2.1
  have n12 : vT (cvC a) = a 58 12 := rfl
  have e1 : a 64 = a 159 := congrArg vOf h.1
  have e2 : a 65 = a 160 := congrArg vLt h.1
  have e3 : a 67 = a 162 := congrArg vTd h.1
  unfold BKp
  rw [cl 146 (by decide), cl 159 (by decide), cl 160 (by decide), cl 162 (by decide), ← n.1, ← n.2, ← e1, ← e2, ← e3]
  show _ ↔ (0 ≤ x ∧ x < a 58 8 ∧ a 64 x.toNat = -1 ∧ a 58 12 < 600 ∧ ¬ (if a 65 x.toNat < 0 then -1 else a 67 (a 65 x.toNat).toNat) = -1)
  by_cases c : a 65 x.toNat < 0
  · rw [if_pos c]
    exact ⟨fun z => absurd c z.2.2.2.2.1, fun z => absurd rfl z.2.2.2.2⟩
  · rw [if_neg c]
    exact ⟨fun z => ⟨z.1, z.2.1, z.2.2.1, by omega, z.2.2.2.2.2⟩, fun z => ⟨z.1, z.2.1, z.2.2.1, by omega, c, z.2.2.2.2⟩⟩
