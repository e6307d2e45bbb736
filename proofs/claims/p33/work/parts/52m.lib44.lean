/-! who asks, who gets: the programs' own words -/
def RBC (a b : Nat → Nat → Int) (x : Int) : Nat → Int
  | 0 => 0
  | n + 1 => if f_X3_areKin a b x (a 59 n) = 0 then RBC a b x n else jxorl (RBC a b x n) (jxshll 1 (a 60 n))
def ALC (a b : Nat → Nat → Int) (x w : Int) : Nat → Int
  | 0 => 0
  | n + 1 => if a 60 n = x ∧ (f_X0_stateNow a b (n : Int) w = 1 ∨ f_X0_stateNow a b (n : Int) w = 3) then jxor (ALC a b x w n) (jxshl 1 (f_X3_landOf a b (a 59 n))) else ALC a b x w n
def ALR (v : CV) (ld : Nat → Int) (x w : Int) : Nat → Int
  | 0 => 0
  | n + 1 => if vTo v n = x ∧ HAS (vSt v w n) = 1 then jxor (ALR v ld x w n) (jxshl 1 (ld (vFr v n).toNat)) else ALR v ld x w n
def unh (p q : Int) : Int := jxw ((if p = 0 then 1 else 0) + (if q = 0 then 1 else 0))
def UNC (a b : Nat → Nat → Int) (x y : Int) : Int := unh (METX a b x y (a 0 0)) (METX a b y x (a 0 0))
def UNR (a b : Nat → Nat → Int) (x y : Int) : Int := unh (METR a b x y) (METR a b y x)
def MGF (a b : Nat → Nat → Int) (x y z : Int) : Int := if f_X3_isThere a b y = 0 then 0 else if ¬ f_X3_areKin a b x y = 0 then 0 else if ¬ jxandl (jxshrl z y) 1 = 0 then 0 else if ¬ 0 < jxw (f_X11_owed a b y + f_X6_slack a b) then 0 else if f_X6_strict a b < UNC a b x y then 0 else 1
def AHF (a b : Nat → Nat → Int) (x y z : Int) : Int := if f_X11_owed a b y = f_X11_owed a b z then (if UNC a b x y = UNC a b x z then (if f_X7_lastSentTo a b y < f_X7_lastSentTo a b z then 1 else 0) else if UNC a b x y < UNC a b x z then 1 else 0) else if f_X11_owed a b z < f_X11_owed a b y then 1 else 0
def FRC (a b : Nat → Nat → Int) (x z : Int) : Nat → Int
  | 0 => -1
  | n + 1 => if MGF a b x (n : Int) z = 0 then FRC a b x z n else if FRC a b x z n = -1 then (n : Int) else if AHF a b x (n : Int) (FRC a b x z n) = 0 then FRC a b x z n else (n : Int)
theorem FRC_rg (a b : Nat → Nat → Int) (x z : Int) : ∀ n : Nat, FRC a b x z n = -1 ∨ (0 ≤ FRC a b x z n ∧ FRC a b x z n < n)
  | 0 => Or.inl rfl
  | n + 1 => by
    have ih := FRC_rg a b x z n
    show (if MGF a b x (n : Int) z = 0 then FRC a b x z n else if FRC a b x z n = -1 then (n : Int) else if AHF a b x (n : Int) (FRC a b x z n) = 0 then FRC a b x z n else (n : Int)) = -1 ∨ _
    have e : FRC a b x z (n + 1) = (if MGF a b x (n : Int) z = 0 then FRC a b x z n else if FRC a b x z n = -1 then (n : Int) else if AHF a b x (n : Int) (FRC a b x z n) = 0 then FRC a b x z n else (n : Int)) := rfl
    rw [e]
    split
    · omega
    · split
      · omega
      · split <;> omega
/-- an ask, the class: a1 the heap behind the counting -/
def jWtk : List (Nat × Nat) := [(70, 9999), (71, 9999), (72, 9999), (73, 9999), (74, 9999), (75, 9999)]
def ASKC (a0 b0 a : Nat → Nat → Int) (x r : Int) : Prop := ∃ a1, jfr jWtk a0 a1 ∧ TSUM a0 b0 (a0 0 0) a1 (a0 58 8).toNat ∧
  ((f_X11_mayAsk a1 b0 x = 0 ∧ r = -2 ∧ cvC a = cvC a0) ∨ (¬ f_X11_mayAsk a1 b0 x = 0 ∧ ((FRC a1 b0 x (RBC a1 b0 x (a0 58 8).toNat) (a0 4 6).toNat = -1 ∧ r = -3 ∧ cvC a = cvC a0) ∨
    (¬ FRC a1 b0 x (RBC a1 b0 x (a0 58 8).toNat) (a0 4 6).toNat = -1 ∧ r = a0 58 8 ∧ cvC a = vAdd (cvC a0) x (FRC a1 b0 x (RBC a1 b0 x (a0 58 8).toNat) (a0 4 6).toNat) (a0 0 0) (BNC a1 b0 (f_X3_landOf a1 b0 x) (f_X3_landOf a1 b0 (FRC a1 b0 x (RBC a1 b0 x (a0 58 8).toNat) (a0 4 6).toNat)) (f_X6_lost a1 b0)) (-1)))))
def MAYC (a0 b0 : Nat → Nat → Int) (x y r : Int) : Prop := ∃ a1, jfr jWtk a0 a1 ∧ TSUM a0 b0 (a0 0 0) a1 (a0 58 8).toNat ∧ r = MGF a1 b0 x y (RBC a1 b0 x (a0 58 8).toNat)
/-! the reference -/
theorem METR_fr {a a1 b : Nat → Nat → Int} (h7 : a1 147 = a 147) (h8 : a1 148 = a 148) (h9 : a1 149 = a 149) (h1 : a1 151 = a 151) (h0 : a1 146 0 = a 146 0) (h6 : a1 166 = a 166) (hs : a1 167 = a 167) (x y : Int) : METR a1 b x y = METR a b x y := by
  have e : TRR a1 b x y = TRR a b x y := funext fun v => isAtom_fr h7 h8 h9 h1 h0 v x y
  unfold METR
  rw [h6, hs, e]
theorem METR_170 {W : List (Nat × Nat)} {a a1 : Nat → Nat → Int} (hf : jfr W a a1) (e : W = [(170, 9999)]) (b : Nat → Nat → Int) (x y : Int) : METR a1 b x y = METR a b x y := by
  subst e
  exact METR_fr (funext fun j => hf 147 j rfl) (funext fun j => hf 148 j rfl) (funext fun j => hf 149 j rfl) (funext fun j => hf 151 j rfl) (hf 146 0 rfl) (funext fun j => hf 166 j rfl) (funext fun j => hf 167 j rfl) x y
theorem UNR_170 {W : List (Nat × Nat)} {a a1 : Nat → Nat → Int} (hf : jfr W a a1) (e : W = [(170, 9999)]) (b : Nat → Nat → Int) (x y : Int) : UNR a1 b x y = UNR a b x y := by
  unfold UNR
  rw [METR_170 hf e, METR_170 hf e]
theorem isKin_fr {a a1 b : Nat → Nat → Int} (h : a1 150 = a 150) (x y : Int) : f_X12_isKin a1 b x y = f_X12_isKin a b x y := by
  unfold f_X12_isKin f_X12_isKin_at29 f_X12_isKin_at33
  rw [h]
def RCR (a b : Nat → Nat → Int) (x y : Int) : Nat → Int
  | 0 => 0
  | n + 1 => if a 155 n = y ∧ ¬ f_X12_isKin a b (a 154 n) x = 0 then 1 else RCR a b x y n
theorem RCR_1 {a b : Nat → Nat → Int} {x y : Int} {k : Nat} (h : a 155 k = y ∧ ¬ f_X12_isKin a b (a 154 k) x = 0) : ∀ n, k < n → RCR a b x y n = 1
  | 0, hk => absurd hk (Nat.not_lt_zero k)
  | n + 1, hk => by
    show (if a 155 n = y ∧ ¬ f_X12_isKin a b (a 154 n) x = 0 then 1 else RCR a b x y n) = 1
    by_cases e : k = n
    · rw [← e, if_pos h]
    · rw [RCR_1 h n (by omega)]
      split <;> rfl
def vOwR (a : Nat → Nat → Int) (m : Int) : Int := vOwed (cvR a) (a 146 0) (a 153 m.toNat) m
def MGR (a b : Nat → Nat → Int) (x y : Int) : Int := if a 152 y.toNat = 0 then 0 else if ¬ f_X12_isKin a b x y = 0 then 0 else if ¬ RCR a b x y (a 146 9).toNat = 0 then 0 else if ¬ 0 < jxw (vOwR a y + a 171 2) then 0 else if a 171 4 < UNR a b x y then 0 else 1
def lstR (a : Nat → Nat → Int) (m : Int) : Int := lsF (cvR a) m (a 146 9).toNat
def BSR (a b : Nat → Nat → Int) (x : Int) : Nat → Int
  | 0 => -1
  | n + 1 => if MGR a b x (n : Int) = 0 then BSR a b x n else if BSR a b x n < 0 ∨ (if ¬ vOwR a n = vOwR a (BSR a b x n) then vOwR a (BSR a b x n) < vOwR a n else if ¬ UNR a b x n = UNR a b x (BSR a b x n) then UNR a b x n < UNR a b x (BSR a b x n) else lstR a n < lstR a (BSR a b x n)) then (n : Int) else BSR a b x n
/-- what the asking reads, alike on two heaps -/
def SAM7 (a a1 : Nat → Nat → Int) : Prop := cvR a1 = cvR a ∧ a1 146 0 = a 146 0 ∧ a1 146 9 = a 146 9 ∧ a1 146 2 = a 146 2 ∧ (∀ k, k = 147 ∨ k = 148 ∨ k = 149 ∨ k = 150 ∨ k = 151 ∨ k = 152 ∨ k = 153 ∨ k = 154 ∨ k = 155 ∨ k = 166 ∨ k = 167 ∨ k = 171 → a1 k = a k)
theorem SAM7_rf (a : Nat → Nat → Int) : SAM7 a a := ⟨rfl, rfl, rfl, rfl, fun _ _ => rfl⟩
theorem SAM7_tr {a a1 a2 : Nat → Nat → Int} (h : SAM7 a a1) (h2 : SAM7 a1 a2) : SAM7 a a2 := ⟨h2.1.trans h.1, h2.2.1.trans h.2.1, h2.2.2.1.trans h.2.2.1, h2.2.2.2.1.trans h.2.2.2.1, fun k hk => (h2.2.2.2.2 k hk).trans (h.2.2.2.2 k hk)⟩
def sm7W (W : List (Nat × Nat)) : Bool := cvW W 146 9 17 154 163 && cvW W 146 0 2 147 155 && cvW W 146 0 2 166 167 && cvW W 146 0 2 171 171
theorem SAM7_fr {W : List (Nat × Nat)} {a a1 : Nat → Nat → Int} (hf : jfr W a a1) (h : sm7W W = true) : SAM7 a a1 := by
  unfold sm7W at h
  rw [Bool.and_eq_true, Bool.and_eq_true, Bool.and_eq_true] at h
  obtain ⟨⟨⟨h1, h2⟩, h3⟩, h4⟩ := h
  refine ⟨cvR_fr hf h1, hf 146 0 (jfin_sl h2 (Or.inl rfl)), hf 146 9 (jfin_sl h1 (Or.inl rfl)), hf 146 2 (jfin_sl h2 (Or.inr rfl)), fun k hk => funext fun j => ?_⟩
  rcases hk with e | e | e | e | e | e | e | e | e | e | e | e <;> subst e
  · exact hf _ j (jfin_lo h2 (by decide) (by decide))
  · exact hf _ j (jfin_lo h2 (by decide) (by decide))
  · exact hf _ j (jfin_lo h2 (by decide) (by decide))
  · exact hf _ j (jfin_lo h2 (by decide) (by decide))
  · exact hf _ j (jfin_lo h2 (by decide) (by decide))
  · exact hf _ j (jfin_lo h2 (by decide) (by decide))
  · exact hf _ j (jfin_lo h2 (by decide) (by decide))
  · exact hf _ j (jfin_lo h2 (by decide) (by decide))
  · exact hf _ j (jfin_lo h2 (by decide) (by decide))
  · exact hf _ j (jfin_lo h3 (by decide) (by decide))
  · exact hf _ j (jfin_lo h3 (by decide) (by decide))
  · exact hf _ j (jfin_lo h4 (by decide) (by decide))
theorem SAM7_un {a a1 : Nat → Nat → Int} (h : SAM7 a a1) (b : Nat → Nat → Int) (x y : Int) : UNR a1 b x y = UNR a b x y := by
  unfold UNR
  have e := fun k hk => h.2.2.2.2 k hk
  have m := fun x y => METR_fr (b := b) (e 147 (by decide)) (e 148 (by decide)) (e 149 (by decide)) (e 151 (by decide)) h.2.1 (e 166 (by decide)) (e 167 (by decide)) x y
  rw [m, m]
theorem SAM7_ow {a a1 : Nat → Nat → Int} (h : SAM7 a a1) (m : Int) : vOwR a1 m = vOwR a m := by
  unfold vOwR
  rw [h.1, h.2.1, h.2.2.2.2 153 (by decide)]
theorem SAM7_ls {a a1 : Nat → Nat → Int} (h : SAM7 a a1) (m : Int) : lstR a1 m = lstR a m := by
  unfold lstR
  rw [h.1, h.2.2.1]
theorem SAM7_rc {a a1 : Nat → Nat → Int} (h : SAM7 a a1) (b : Nat → Nat → Int) (x y : Int) : ∀ n, RCR a1 b x y n = RCR a b x y n
  | 0 => rfl
  | n + 1 => by
    show (if a1 155 n = y ∧ ¬ f_X12_isKin a1 b (a1 154 n) x = 0 then 1 else RCR a1 b x y n) = (if a 155 n = y ∧ ¬ f_X12_isKin a b (a 154 n) x = 0 then 1 else RCR a b x y n)
    rw [SAM7_rc h b x y n, isKin_fr (h.2.2.2.2 150 (by decide)), h.2.2.2.2 155 (by decide), h.2.2.2.2 154 (by decide)]
theorem SAM7_mg {a a1 : Nat → Nat → Int} (h : SAM7 a a1) (b : Nat → Nat → Int) (x y : Int) : MGR a1 b x y = MGR a b x y := by
  unfold MGR
  rw [SAM7_un h, SAM7_ow h, SAM7_rc h, isKin_fr (h.2.2.2.2 150 (by decide)), h.2.2.2.2 152 (by decide), h.2.2.1, h.2.2.2.2 171 (by decide)]
def ASKR (a0 b0 a : Nat → Nat → Int) (x r : Int) : Prop :=
  (vMay (a0 152 x.toNat) (SUMN (ohF (cvR a0) (a0 146 0) x 0) (a0 146 9).toNat) (SUMN (gvF (cvR a0) (a0 146 0) x) (a0 146 9).toNat) (a0 171 0) (a0 171 1) = 0 ∧ r = -2 ∧ cvR a = cvR a0) ∨
  (¬ vMay (a0 152 x.toNat) (SUMN (ohF (cvR a0) (a0 146 0) x 0) (a0 146 9).toNat) (SUMN (gvF (cvR a0) (a0 146 0) x) (a0 146 9).toNat) (a0 171 0) (a0 171 1) = 0 ∧ ((BSR a0 b0 x (a0 146 2).toNat < 0 ∧ r = -3 ∧ cvR a = cvR a0) ∨
    (¬ BSR a0 b0 x (a0 146 2).toNat < 0 ∧ r = a0 146 9 ∧ cvR a = vAdd (cvR a0) x (BSR a0 b0 x (a0 146 2).toNat) (a0 146 0) (BNR a0 (a0 148 x.toNat) (a0 148 (BSR a0 b0 x (a0 146 2).toNat).toNat)) (-1))))
theorem BSR_rg (a b : Nat → Nat → Int) (x : Int) : ∀ n : Nat, BSR a b x n = -1 ∨ (0 ≤ BSR a b x n ∧ BSR a b x n < n)
  | 0 => Or.inl rfl
  | n + 1 => by
    have ih := BSR_rg a b x n
    have e : BSR a b x (n + 1) = (if MGR a b x (n : Int) = 0 then BSR a b x n else if BSR a b x n < 0 ∨ (if ¬ vOwR a n = vOwR a (BSR a b x n) then vOwR a (BSR a b x n) < vOwR a n else if ¬ UNR a b x n = UNR a b x (BSR a b x n) then UNR a b x n < UNR a b x (BSR a b x n) else lstR a n < lstR a (BSR a b x n)) then (n : Int) else BSR a b x n) := rfl
    rw [e]
    split
    · omega
    · split <;> omega
theorem BNR_fr {a a1 : Nat → Nat → Int} (h : SAM7 a a1) (x y : Int) : BNR a1 x y = BNR a x y := by
  have e := h.1
  unfold cvR mkCV at e
  simp only [Prod.mk.injEq] at e
  obtain ⟨e0, e1, r1, r2, r3, r4, r5, r6, r7, r8, r9, r10⟩ := e
  unfold BNR SPR
  have p : pR a1 x y = pR a x y := funext fun k => by
    unfold pR
    rw [r7, r8, r9, r6, r1, r2, h.2.2.2.2 148 (by decide)]
  have d : dR a1 = dR a := funext fun k => by
    unfold dR
    rw [r9, r8, r3]
  rw [p, d, e1, h.2.2.2.2 171 (by decide)]
