/-! who of a row counts, put one behind the other -/
def CNTP (p : Nat → Int) : Nat → Nat
  | 0 => 0
  | n + 1 => if p n = 0 then CNTP p n else CNTP p n + 1
theorem CNTP_no {p : Nat → Int} {n : Nat} (h : p n = 0) : CNTP p (n + 1) = CNTP p n := if_pos h
theorem CNTP_yes {p : Nat → Int} {n : Nat} (h : ¬ p n = 0) : CNTP p (n + 1) = CNTP p n + 1 := if_neg h
theorem CNTP_le (p : Nat → Int) : ∀ n, CNTP p n ≤ n
  | 0 => Nat.le_refl _
  | n + 1 => by
    have := CNTP_le p n
    by_cases c : p n = 0
    · rw [CNTP_no c]; omega
    · rw [CNTP_yes c]; omega
theorem CNTP_lt {p : Nat → Int} {i : Nat} (h : ¬ p i = 0) : ∀ {n}, i < n → CNTP p i < CNTP p n
  | 0, q => absurd q (Nat.not_lt_zero _)
  | n + 1, q => by
    by_cases e : i = n
    · rw [← e, CNTP_yes h]; omega
    · have r := CNTP_lt h (n := n) (by omega)
      by_cases c : p n = 0
      · rw [CNTP_no c]; exact r
      · rw [CNTP_yes c]; omega
theorem CNTP_inv {p : Nat → Int} {j : Nat} : ∀ {n}, j < CNTP p n → ∃ i, i < n ∧ ¬ p i = 0 ∧ CNTP p i = j
  | 0, q => absurd q (Nat.not_lt_zero _)
  | n + 1, q => by
    by_cases c : p n = 0
    · rw [CNTP_no c] at q
      obtain ⟨i, a, b, d⟩ := CNTP_inv q
      exact ⟨i, by omega, b, d⟩
    · rw [CNTP_yes c] at q
      by_cases e : j = CNTP p n
      · exact ⟨n, Nat.lt_succ_self n, c, e.symm⟩
      · obtain ⟨i, a, b, d⟩ := CNTP_inv (p := p) (n := n) (j := j) (by omega)
        exact ⟨i, by omega, b, d⟩
theorem CNTP_congr {p q : Nat → Int} : ∀ {n}, (∀ i, i < n → (p i = 0 ↔ q i = 0)) → CNTP p n = CNTP q n
  | 0, _ => rfl
  | n + 1, h => by
    have e := CNTP_congr (n := n) (fun i hi => h i (by omega))
    by_cases c : p n = 0
    · rw [CNTP_no c, CNTP_no ((h n (by omega)).1 c), e]
    · rw [CNTP_yes c, CNTP_yes (fun z => c ((h n (by omega)).2 z)), e]
def GATH (p l : Nat → Int) (n m : Nat) (r : Nat → Int) : Prop := m = CNTP p n ∧ ∀ i, i < n → ¬ p i = 0 → r (CNTP p i) = l i
theorem GATH_0 (p l r : Nat → Int) : GATH p l 0 0 r := ⟨rfl, fun i h => absurd h (Nat.not_lt_zero i)⟩
theorem GATH_no {p l r : Nat → Int} {n m : Nat} (h : GATH p l n m r) (c : p n = 0) : GATH p l (n + 1) m r := by
  refine ⟨by rw [CNTP_no c]; exact h.1, fun i hi hp => ?_⟩
  by_cases e : i = n
  · rw [e] at hp; exact absurd c hp
  · exact h.2 i (by omega) hp
theorem GATH_yes {p l r : Nat → Int} {n m : Nat} (h : GATH p l n m r) (c : ¬ p n = 0) (e : r m = l n) : GATH p l (n + 1) (m + 1) r := by
  refine ⟨by rw [CNTP_yes c, h.1], fun i hi hp => ?_⟩
  by_cases q : i = n
  · rw [q, ← h.1, e]
  · exact h.2 i (by omega) hp
theorem GATH_row {p l r r2 : Nat → Int} {n m : Nat} (h : GATH p l n m r) (e : ∀ j, j < m → r2 j = r j) : GATH p l n m r2 := ⟨h.1, fun i hi hp => by
  rw [e _ (by rw [h.1]; exact CNTP_lt hp hi)]; exact h.2 i hi hp⟩
theorem GATH_congr {p l r p2 l2 : Nat → Int} {n m : Nat} (h : GATH p l n m r) (e : ∀ i, i < n → (p i = 0 ↔ p2 i = 0)) (e2 : ∀ i, i < n → ¬ p2 i = 0 → l i = l2 i) : GATH p2 l2 n m r := by
  refine ⟨by rw [← CNTP_congr e]; exact h.1, fun i hi hp => ?_⟩
  rw [← CNTP_congr (n := i) (fun j hj => e j (by omega)), ← e2 i hi hp]
  exact h.2 i hi (fun z => hp ((e i hi).1 z))
theorem GATH_det {p l : Nat → Int} {n m m2 : Nat} {r r2 : Nat → Int} (h : GATH p l n m r) (h2 : GATH p l n m2 r2) : m = m2 ∧ ∀ j, j < m → r j = r2 j := by
  refine ⟨by rw [h.1, h2.1], fun j hj => ?_⟩
  rw [h.1] at hj
  obtain ⟨i, a, b, d⟩ := CNTP_inv hj
  rw [← d, h.2 i a b, h2.2 i a b]
theorem GATH_of {p l : Nat → Int} {n m : Nat} {r : Nat → Int} (h : GATH p l n m r) {j : Nat} (hj : j < m) : ∃ i, i < n ∧ ¬ p i = 0 ∧ r j = l i := by
  rw [h.1] at hj
  obtain ⟨i, a, b, d⟩ := CNTP_inv hj
  exact ⟨i, a, b, by rw [← d]; exact h.2 i a b⟩
/-! what the class's counting says, over the heap ahead of it -/
noncomputable def sG (a b : Nat → Nat → Int) (m : Int) : Int := SUMN (tF a b (a 0 0) m 59 hasP) (a 58 8).toNat
noncomputable def sT (a b : Nat → Nat → Int) (m : Int) : Int := SUMN (tF a b (a 0 0) m 60 hasP) (a 58 8).toNat
noncomputable def sC (a b : Nat → Nat → Int) (m : Int) : Int := SUMN (tF a b (a 0 0) m 60 (fun s => s = 0)) (a 58 8).toNat
noncomputable def sO (a b : Nat → Nat → Int) (m : Int) : Int := SUMN (tF a b (a 0 0) m 59 (fun s => s = 0)) (a 58 8).toNat
noncomputable def sL (a b : Nat → Nat → Int) (m : Int) : Int := SUMN (tF a b (a 0 0) m 59 (fun s => s = 2)) (a 58 8).toNat
noncomputable def OWC (a b : Nat → Nat → Int) (m : Int) : Int := jxw (jxw (jxw (sG a b m + f_X3_creditOf a b m) - sT a b m) - sC a b m)
noncomputable def MYC (a b : Nat → Nat → Int) (m : Int) : Int := if f_X3_isThere a b m = 0 then 0 else if sO a b m < jxw (a 56 0 + (if 0 < a 56 1 then jxw (Int.tdiv (sG a b m) (a 56 1)) else 0)) then 1 else 0
noncomputable def MGC (a b : Nat → Nat → Int) (x y z : Int) : Int := if f_X3_isThere a b y = 0 then 0 else if ¬ f_X3_areKin a b x y = 0 then 0 else if ¬ jxandl (jxshrl z y) 1 = 0 then 0 else if ¬ 0 < jxw (OWC a b y + a 56 2) then 0 else if a 56 4 < UNC a b x y then 0 else 1
/-- heaps alike in what the asking reads -/
def SAMC (a0 a : Nat → Nat → Int) : Prop := a 0 0 = a0 0 0 ∧ a 4 6 = a0 4 6 ∧ a 58 8 = a0 58 8 ∧ (∀ k, k = 1 ∨ k = 5 ∨ k = 6 ∨ k = 7 ∨ k = 8 ∨ k = 9 ∨ k = 10 ∨ k = 12 ∨ k = 53 ∨ k = 56 ∨ k = 59 ∨ k = 60 → a k = a0 k)
def smcW (W : List (Nat × Nat)) : Bool := cvW W 0 0 0 1 1 && cvW W 4 6 6 5 10 && cvW W 58 8 8 12 12 && cvW W 56 9999 9999 53 53 && cvW W 60 0 0 56 56 && cvW W 60 0 0 59 60
theorem SAMC_fr {W : List (Nat × Nat)} {a a1 : Nat → Nat → Int} (hf : jfr W a a1) (h : smcW W = true) : SAMC a a1 := by
  unfold smcW at h
  simp only [Bool.and_eq_true] at h
  obtain ⟨⟨⟨⟨⟨h1, h2⟩, h3⟩, h4⟩, h5⟩, h6⟩ := h
  refine ⟨hf 0 0 (jfin_sl h1 (Or.inl rfl)), hf 4 6 (jfin_sl h2 (Or.inl rfl)), hf 58 8 (jfin_sl h3 (Or.inl rfl)), fun k hk => funext fun j => ?_⟩
  rcases hk with e | e | e | e | e | e | e | e | e | e | e | e <;> subst e
  · exact hf _ j (jfin_lo h1 (by decide) (by decide))
  · exact hf _ j (jfin_lo h2 (by decide) (by decide))
  · exact hf _ j (jfin_lo h2 (by decide) (by decide))
  · exact hf _ j (jfin_lo h2 (by decide) (by decide))
  · exact hf _ j (jfin_lo h2 (by decide) (by decide))
  · exact hf _ j (jfin_lo h2 (by decide) (by decide))
  · exact hf _ j (jfin_lo h2 (by decide) (by decide))
  · exact hf _ j (jfin_lo h3 (by decide) (by decide))
  · exact hf _ j (jfin_lo h4 (by decide) (by decide))
  · exact hf _ j (jfin_lo h5 (by decide) (by decide))
  · exact hf _ j (jfin_lo h6 (by decide) (by decide))
  · exact hf _ j (jfin_lo h6 (by decide) (by decide))
theorem SAMC_rf (a : Nat → Nat → Int) : SAMC a a := ⟨rfl, rfl, rfl, fun _ _ => rfl⟩
theorem isThere_fr {a a1 b b1 : Nat → Nat → Int} (e46 : a1 4 6 = a 4 6) (r10 : a1 10 = a 10) (x : Int) : f_X3_isThere a1 b1 x = f_X3_isThere a b x := by
  unfold f_X3_isThere f_X3_has
  rw [e46, r10]
theorem areKin_fr {a a1 b b1 : Nat → Nat → Int} (e46 : a1 4 6 = a 4 6) (r7 : a1 7 = a 7) (x y : Int) : f_X3_areKin a1 b1 x y = f_X3_areKin a b x y := by
  unfold f_X3_areKin f_X3_areKin_at31 f_X3_areKin_at50 f_X3_has
  rw [e46, r7]
theorem holds_fr {a a1 b b1 : Nat → Nat → Int} (h : SAMC a a1) (x1 x2 x3 x4 x5 : Int) : f_X10_holdsAtom a1 b1 x1 x2 x3 x4 x5 = f_X10_holdsAtom a b x1 x2 x3 x4 x5 := by
  unfold f_X10_holdsAtom f_X10_distance f_X11_entry_r1 f_X3_tonguesOf f_X3_cameOnOf f_X3_landOf f_X11_entry_r5 f_X11_entry_r8 f_X3_has
  rw [h.2.1, h.2.2.2 1 (by decide), h.2.2.2 5 (by decide), h.2.2.2 6 (by decide), h.2.2.2 8 (by decide)]
theorem METX_fr {a a1 b b1 : Nat → Nat → Int} (h : SAMC a a1) (x y z : Int) : METX a1 b1 x y z = METX a b x y z := by
  have e : TRC a1 b1 x y z = TRC a b x y z := funext fun v => by
    unfold TRC
    rw [holds_fr (b := b) h]
  unfold METX
  rw [e, h.2.2.2 12 (by decide), h.2.2.2 53 (by decide)]
theorem UNC_fr {a a1 b b1 : Nat → Nat → Int} (h : SAMC a a1) (x y : Int) : UNC a1 b1 x y = UNC a b x y := by
  unfold UNC
  rw [METX_fr (b := b) h, METX_fr (b := b) h, h.1]
theorem RBC_fr {a a1 b b1 : Nat → Nat → Int} (h : SAMC a a1) (x : Int) : ∀ n, RBC a1 b1 x n = RBC a b x n
  | 0 => rfl
  | n + 1 => by
    show (if f_X3_areKin a1 b1 x (a1 59 n) = 0 then RBC a1 b1 x n else jxorl (RBC a1 b1 x n) (jxshll 1 (a1 60 n))) = (if f_X3_areKin a b x (a 59 n) = 0 then RBC a b x n else jxorl (RBC a b x n) (jxshll 1 (a 60 n)))
    rw [RBC_fr h x n, areKin_fr (b := b) h.2.1 (h.2.2.2 7 (by decide)), h.2.2.2 59 (by decide), h.2.2.2 60 (by decide)]
theorem e40 {x : Int} (h0 : 0 ≤ x) (h1 : x < 40) (f : Nat → Int) : (if x < 0 then (-1) else (if x < 40 then (if x < 40 then (f (x.toNat)) else (-1)) else (-1))) = f x.toNat := by
  rw [if_neg (by omega), if_pos h1, if_pos h1]
theorem OW_abs {a0 b0 a b : Nat → Nat → Int} (ht : TSUM a0 b0 (a0 0 0) a (a0 58 8).toNat) (h : SAMC a0 a) {m : Int} (h0 : 0 ≤ m) (h1 : m < 40) : f_X11_owed a b m = OWC a0 b0 m := by
  have t := ht m.toNat (by omega)
  rw [show ((m.toNat : Nat) : Int) = m from by omega] at t
  obtain ⟨t1, t2, t3, t4, t5, t6⟩ := t
  unfold f_X11_owed f_X7_givenBy f_X7_gotBy f_X7_comingTo f_X11_entry_r70 f_X11_entry_r71 f_X11_entry_r72 OWC f_X3_creditOf f_X3_has sG sT sC
  rw [e40 h0 h1, e40 h0 h1, e40 h0 h1, t1, t2, t3, h.2.1, h.2.2.2 9 (by decide)]
theorem isThere_m {a b : Nat → Nat → Int} {m : Int} (h : ¬ f_X3_isThere a b m = 0) : 0 ≤ m ∧ m < a 4 6 ∧ m < 40 := by
  unfold f_X3_isThere f_X3_has at h
  by_cases c1 : m < 0
  · rw [if_pos c1] at h; exact absurd rfl h
  · by_cases c2 : m < a 4 6
    · by_cases c3 : m < 40
      · omega
      · rw [if_neg c1, if_pos c2, if_neg c3] at h; exact absurd rfl h
    · rw [if_neg c1, if_neg c2] at h; exact absurd rfl h
theorem MY_abs {a0 b0 a b : Nat → Nat → Int} (ht : TSUM a0 b0 (a0 0 0) a (a0 58 8).toNat) (h : SAMC a0 a) (m : Int) : f_X11_mayAsk a b m = MYC a0 b0 m := by
  have ei : f_X3_isThere a b m = f_X3_isThere a0 b0 m := isThere_fr h.2.1 (h.2.2.2 10 (by decide)) m
  have e56 := h.2.2.2 56 (by decide)
  unfold f_X11_mayAsk f_X11_mayAsk_at26 f_X11_mayAsk_at58 f_X11_mayAsk_at62 f_X6_more f_X6_under MYC
  rw [ei, e56]
  by_cases c : f_X3_isThere a0 b0 m = 0
  · rw [if_pos c, if_pos c, if_pos c]
    split <;> rfl
  · obtain ⟨h0, h1, h2⟩ := isThere_m c
    have t := ht m.toNat (by omega)
    rw [show ((m.toNat : Nat) : Int) = m from by omega] at t
    obtain ⟨t1, t2, t3, t4, t5, t6⟩ := t
    rw [if_neg c, if_neg c, if_neg c]
    unfold f_X7_outOf f_X7_givenBy f_X11_entry_r70 f_X11_entry_r73 sG sO
    rw [e40 h0 h2, e40 h0 h2, t1, t4]
    by_cases d : 0 < a0 56 1
    · rw [if_pos d, if_pos d]
    · rw [if_neg d, if_neg d]
theorem MG_abs {a0 b0 a b : Nat → Nat → Int} (ht : TSUM a0 b0 (a0 0 0) a (a0 58 8).toNat) (h : SAMC a0 a) (x y z : Int) : MGF a b x y z = MGC a0 b0 x y z := by
  have ei : f_X3_isThere a b y = f_X3_isThere a0 b0 y := isThere_fr h.2.1 (h.2.2.2 10 (by decide)) y
  unfold MGF MGC
  rw [ei, areKin_fr (b := b0) h.2.1 (h.2.2.2 7 (by decide)), UNC_fr (b := b0) h]
  by_cases c : f_X3_isThere a0 b0 y = 0
  · rw [if_pos c, if_pos c]
  · obtain ⟨h0, h1, h2⟩ := isThere_m c
    rw [OW_abs ht h h0 h2]
    unfold f_X6_slack f_X6_strict
    rw [h.2.2.2 56 (by decide)]
theorem UNC_rg (a b : Nat → Nat → Int) (x y : Int) : 0 ≤ UNC a b x y ∧ UNC a b x y ≤ 2 := by
  have k : ∀ p q : Int, 0 ≤ unh p q ∧ unh p q ≤ 2 := fun p q => by
    unfold unh
    split <;> split <;> decide
  exact k _ _
theorem OWC_rg (a b : Nat → Nat → Int) (m : Int) : -2147483648 ≤ OWC a b m ∧ OWC a b m < 2147483648 := by
  have := jxw_rg (jxw (jxw (sG a b m + f_X3_creditOf a b m) - sT a b m) - sC a b m)
  unfold OWC
  omega
/-! the class's pairs: as: the askers -/
def gA (a b : Nat → Nat → Int) (as : Nat → Int) (i d : Nat) : Prop := (d : Int) < a 4 6 ∧ d < 40 ∧ ¬ MGC a b (as i) d (RBC a b (as i) (a 58 8).toNat) = 0
noncomputable def gP (a b : Nat → Nat → Int) (as : Nat → Int) (i d : Nat) : Int := cp (fun i d => UNC a b (as i) d) (fun d => OWC a b d) i d
theorem gP_long (a b : Nat → Nat → Int) (as : Nat → Int) (i d : Nat) : jxwl ((jxwl ((jxwl (UNC a b (as i) d * 1048576)) - OWC a b d)) - 1099511627776) = gP a b as i d := by
  have u := UNC_rg a b (as i) d
  have o := OWC_rg a b d
  rw [jxwl_id (x := UNC a b (as i) d * 1048576) (by omega) (by omega), jxwl_id (x := UNC a b (as i) d * 1048576 - OWC a b d) (by omega) (by omega), jxwl_id (by omega) (by omega)]
  show _ = 1048576 * UNC a b (as i) d - OWC a b d - 1099511627776
  omega
theorem gP_bd (a b : Nat → Nat → Int) (as : Nat → Int) (m : Nat) : PBD (gA a b as) (gP a b as) m := fun i d _ h => by
  have u := UNC_rg a b (as i) d
  have o := OWC_rg a b d
  refine ⟨h.2.1, ?_⟩
  show -2199023255552 ≤ 1048576 * UNC a b (as i) d - OWC a b d - 1099511627776 ∧ 1048576 * UNC a b (as i) d - OWC a b d - 1099511627776 ≤ 2199023255552
  omega
theorem gP_ne (a b : Nat → Nat → Int) (as : Nat → Int) (i d : Nat) : ¬ gP a b as i d = IMPO := by
  have u := UNC_rg a b (as i) d
  have o := OWC_rg a b d
  show ¬ 1048576 * UNC a b (as i) d - OWC a b d - 1099511627776 = 4611686018427387904
  omega
/-- while the askers of a receiver are told: those below j -/
def PPART (A : Nat → Nat → Prop) (p : Nat → Nat → Int) (r j : Nat) (P : Nat → Int) : Prop := (∀ i, i < j → (A i r ∧ P i = p i r) ∨ (¬ A i r ∧ P i = IMPO)) ∧ ∀ i, j ≤ i → i < 8 → P i = IMPO
theorem PPART_0 {A : Nat → Nat → Prop} {p : Nat → Nat → Int} {r : Nat} {P : Nat → Int} (h : ∀ i, i < 8 → P i = IMPO) : PPART A p r 0 P := ⟨fun i hi => absurd hi (Nat.not_lt_zero i), fun i _ h8 => h i h8⟩
theorem PPART_no {A : Nat → Nat → Prop} {p : Nat → Nat → Int} {r j : Nat} {P : Nat → Int} (h : PPART A p r j P) (h8 : j < 8) (n : ¬ A j r) : PPART A p r (j + 1) P := ⟨fun i hi => by
  by_cases e : i = j
  · rw [e]; exact Or.inr ⟨n, h.2 j (Nat.le_refl _) h8⟩
  · exact h.1 i (by omega), fun i a b => h.2 i (by omega) b⟩
theorem PPART_yes {A : Nat → Nat → Prop} {p : Nat → Nat → Int} {r j : Nat} {P P2 : Nat → Int} (h : PPART A p r j P) (y : A j r) (e : P2 j = p j r) (o : ∀ i, ¬ i = j → P2 i = P i) : PPART A p r (j + 1) P2 := ⟨fun i hi => by
  by_cases q : i = j
  · rw [q]; exact Or.inl ⟨y, e⟩
  · rw [o i q]; exact h.1 i (by omega), fun i a b => by rw [o i (by omega)]; exact h.2 i (by omega) b⟩
theorem PPART_row {A : Nat → Nat → Prop} {p : Nat → Nat → Int} {r m : Nat} {P : Nat → Int} (h : PPART A p r m P) (ne : ∀ i d, ¬ p i d = IMPO) : PROW A p m r P := fun i hi => by
  rcases h.1 i hi with ⟨a, b⟩ | q
  · exact Or.inl ⟨a, b, by rw [b]; exact ne i r⟩
  · exact Or.inr q
/-- the best way: who gets from each asker -/
def BWAY (A : Nat → Nat → Prop) (p : Nat → Nat → Int) (m : Nat) (r : Nat → Nat) : Prop := VLD A m r ∧ (∀ i, r i ≤ 40) ∧ ∀ s, VLD A m s → TOT p m r < TOT p m s ∨ (TOT p m r = TOT p m s ∧ ORD m r ≤ ORD m s)
theorem BWAY_of {A : Nat → Nat → Prop} {p : Nat → Nat → Int} {m b sb : Nat} {C O : Nat → Int} (hm : m ≤ 8) (hbd : PBD A p m) (h : DPC A p m b C O) (hA : ∀ i d, A i d → d < b) (hb40 : b ≤ 40) (hsb : sb < 2 ^ m) (hb : ∀ s, s < 2 ^ m → C sb < C s ∨ (C sb = C s ∧ O sb ≤ O s)) : ∃ r, BWAY A p m r ∧ O sb = ORD m r := by
  obtain ⟨r, h1, h2, h3, h4⟩ := DPC_best h hA hsb hb (fun r hr => by
    have := (PBD_tot hm hbd hr (fun _ _ z => z)).2
    have : IMPO = 4611686018427387904 := rfl
    omega)
  exact ⟨r, ⟨h1, fun i => by rcases h2 i with q | q <;> omega, h4⟩, h3⟩
/-- what is sent: the class; B: the bound -/
def gSend (as : Nat → Int) (r : Nat → Nat) (w : Int) (B : CV → Int → Int → Int) : Nat → CV → CV
  | 0, v => v
  | n + 1, v => if r n = 40 then gSend as r w B n v else vAdd (gSend as r w B n v) (as n) (r n) w (B (gSend as r w B n v) (as n) (r n)) (-1)
def gCnt (r : Nat → Nat) : Nat → Int
  | 0 => 0
  | n + 1 => if r n = 40 then gCnt r n else gCnt r n + 1
theorem gCnt_le (r : Nat → Nat) : ∀ n, 0 ≤ gCnt r n ∧ gCnt r n ≤ n
  | 0 => ⟨Int.le_refl _, Int.le_refl _⟩
  | n + 1 => by
    have := gCnt_le r n
    by_cases c : r n = 40
    · show 0 ≤ (if r n = 40 then gCnt r n else gCnt r n + 1) ∧ _ ≤ _
      rw [if_pos c]
      have e : gCnt r (n + 1) = gCnt r n := if_pos c
      omega
    · have e : gCnt r (n + 1) = gCnt r n + 1 := if_neg c
      omega
theorem gSend_n (as : Nat → Int) (r : Nat → Nat) (w : Int) (B : CV → Int → Int → Int) (v : CV) : ∀ n, vN (gSend as r w B n v) = vN v + gCnt r n
  | 0 => by show vN v = vN v + 0; omega
  | n + 1 => by
    have ih := gSend_n as r w B v n
    by_cases c : r n = 40
    · have e : gCnt r (n + 1) = gCnt r n := if_pos c
      have e2 : gSend as r w B (n + 1) v = gSend as r w B n v := if_pos c
      rw [e, e2, ih]
    · have e : gCnt r (n + 1) = gCnt r n + 1 := if_neg c
      have e2 : gSend as r w B (n + 1) v = vAdd (gSend as r w B n v) (as n) (r n) w (B (gSend as r w B n v) (as n) (r n)) (-1) := if_neg c
      rw [e, e2]
      show vN (gSend as r w B n v) + 1 = _
      rw [ih]; omega
theorem gSend_congr {as as2 : Nat → Int} {r r2 : Nat → Nat} {w : Int} {B : CV → Int → Int → Int} {v : CV} : ∀ {n}, (∀ i, i < n → as i = as2 i) → (∀ i, i < n → r i = r2 i) → gSend as r w B n v = gSend as2 r2 w B n v ∧ gCnt r n = gCnt r2 n
  | 0, _, _ => ⟨rfl, rfl⟩
  | n + 1, h, h2 => by
    obtain ⟨e1, e2⟩ := gSend_congr (as := as) (as2 := as2) (r := r) (r2 := r2) (w := w) (B := B) (v := v) (n := n) (fun i hi => h i (by omega)) (fun i hi => h2 i (by omega))
    constructor
    · show (if r n = 40 then gSend as r w B n v else vAdd (gSend as r w B n v) (as n) (r n) w (B (gSend as r w B n v) (as n) (r n)) (-1)) = (if r2 n = 40 then gSend as2 r2 w B n v else vAdd (gSend as2 r2 w B n v) (as2 n) (r2 n) w (B (gSend as2 r2 w B n v) (as2 n) (r2 n)) (-1))
      rw [e1, h n (by omega), h2 n (by omega)]
    · show (if r n = 40 then gCnt r n else gCnt r n + 1) = (if r2 n = 40 then gCnt r2 n else gCnt r2 n + 1)
      rw [e2, h2 n (by omega)]
/-! bounds over the cards alone: ld: lands, z: lost -/
def pV (v : CV) (ld : Int → Int) (x y : Int) (k : Nat) : Int := if 0 ≤ vTc v k ∧ vTc v k < vN v ∧ vTc v k < 300 ∧ vLt v (vTc v k).toNat = (k : Int) ∧ ¬ vTd v k = -1 ∧ ld (vFr v (vTc v k).toNat) = x ∧ ld (vTo v (vTc v k).toNat) = y then 1 else 0
def dV (v : CV) (k : Nat) : Int := jxw (vTd v k - vSn v (vTc v k).toNat)
def SPV (v : CV) (ld : Int → Int) (x y : Int) : Int × Int × Int := SPN (pV v ld x y) (dV v) 0 (vT v).toNat (0, -1, -1)
def BNV (ld : Int → Int) (z : Int) (v : CV) (f t : Int) : Int := if (SPV v ld (ld f) (ld t)).1 = 0 then z else if jxw ((jxw (2 * (SPV v ld (ld f) (ld t)).2.2)) + 7) < z then jxw ((jxw (2 * (SPV v ld (ld f) (ld t)).2.2)) + 7) else z
theorem pC_pV (a b : Nat → Nat → Int) (x y : Int) : pC a b x y = pV (cvC a) (f_X3_landOf a b) x y := funext fun k => by
  have hh : ¬ f_X0_has a b (a 66 k) = 0 ↔ (0 ≤ a 66 k ∧ a 66 k < a 58 8 ∧ a 66 k < 300) := by
    unfold f_X0_has
    by_cases c1 : a 66 k < 0
    · rw [if_pos c1]; omega
    · by_cases c2 : a 66 k < a 58 8
      · by_cases c3 : a 66 k < 300
        · rw [if_neg c1, if_pos c2, if_pos c3]; omega
        · rw [if_neg c1, if_pos c2, if_neg c3]; omega
      · rw [if_neg c1, if_neg c2]; omega
  have h1 := pC_iff (a := a) (b := b) (x := x) (y := y) (k := k)
  show _ = (if 0 ≤ a 66 k ∧ a 66 k < a 58 8 ∧ a 66 k < 300 ∧ a 65 (a 66 k).toNat = (k : Int) ∧ ¬ a 67 k = -1 ∧ f_X3_landOf a b (a 59 (a 66 k).toNat) = x ∧ f_X3_landOf a b (a 60 (a 66 k).toNat) = y then (1 : Int) else 0)
  by_cases c : 0 ≤ a 66 k ∧ a 66 k < a 58 8 ∧ a 66 k < 300 ∧ a 65 (a 66 k).toNat = (k : Int) ∧ ¬ a 67 k = -1 ∧ f_X3_landOf a b (a 59 (a 66 k).toNat) = x ∧ f_X3_landOf a b (a 60 (a 66 k).toNat) = y
  · rw [if_pos c]
    exact h1.2 ⟨hh.2 ⟨c.1, c.2.1, c.2.2.1⟩, c.2.2.2⟩
  · rw [if_neg c]
    have n1 : ¬ pC a b x y k = 1 := fun z => by
      obtain ⟨q1, q2⟩ := h1.1 z
      obtain ⟨q3, q4, q5⟩ := hh.1 q1
      exact c ⟨q3, q4, q5, q2⟩
    have z01 : pC a b x y k = 0 ∨ pC a b x y k = 1 := by
      unfold pC
      repeat (first | exact Or.inl rfl | exact Or.inr rfl | split)
    exact z01.resolve_right n1
theorem BNC_BNV (a b : Nat → Nat → Int) (f t z : Int) : BNC a b (f_X3_landOf a b f) (f_X3_landOf a b t) z = BNV (f_X3_landOf a b) z (cvC a) f t := by
  unfold BNC BNV SPC SPV
  rw [pC_pV]
  rfl
theorem landOf_fr {a a1 b b1 : Nat → Nat → Int} (e46 : a1 4 6 = a 4 6) (r5 : a1 5 = a 5) : f_X3_landOf a1 b1 = f_X3_landOf a b := funext fun x => by
  unfold f_X3_landOf f_X11_entry_r5
  rw [e46, r5]
/-- a giving, the class -/
def GIVC (a0 b0 a : Nat → Nat → Int) (r : Int) : Prop := ∃ (m : Nat) (as : Nat → Int) (R : Nat → Nat), m ≤ 8 ∧ GATH (fun i => MYC a0 b0 (a0 76 i)) (a0 76) (a0 0 9).toNat m as ∧ BWAY (gA a0 b0 as) (gP a0 b0 as) m R ∧ r = gCnt R m ∧ cvC a = gSend as R (a0 0 0) (BNV (f_X3_landOf a0 b0) (a0 56 3)) m (cvC a0)
theorem TSUM_cr {a0 b0 a a1 : Nat → Nat → Int} {w : Int} {n : Nat} (h : TSUM a0 b0 w a n) (e : ∀ k j, 70 ≤ k → k ≤ 75 → a1 k j = a k j) : TSUM a0 b0 w a1 n := fun m hm => by
  rw [e 70 m (by decide) (by decide), e 71 m (by decide) (by decide), e 72 m (by decide) (by decide), e 73 m (by decide) (by decide), e 74 m (by decide) (by decide), e 75 m (by decide) (by decide)]
  exact h m hm
theorem TSUM_fr {W : List (Nat × Nat)} {a0 b0 a a1 : Nat → Nat → Int} {w : Int} {n : Nat} (h : TSUM a0 b0 w a n) (hf : jfr W a a1) (e : cvW W 70 9998 9998 70 75 = true) : TSUM a0 b0 w a1 n := TSUM_cr h (fun k j h1 h2 => hf k j (jfin_lo e h1 h2))
theorem MA_fr {a a1 b b1 : Nat → Nat → Int} (e46 : a1 4 6 = a 4 6) (r10 : a1 10 = a 10) (r56 : a1 56 = a 56) (r70 : a1 70 = a 70) (r73 : a1 73 = a 73) (x : Int) : f_X11_mayAsk a1 b1 x = f_X11_mayAsk a b x := by
  unfold f_X11_mayAsk f_X11_mayAsk_at26 f_X11_mayAsk_at58 f_X11_mayAsk_at62 f_X6_more f_X6_under f_X7_outOf f_X7_givenBy f_X11_entry_r70 f_X11_entry_r73
  rw [isThere_fr (b := b) e46 r10, r56, r70, r73]
theorem MYC_there {a b : Nat → Nat → Int} {m : Int} (h : ¬ MYC a b m = 0) : 0 ≤ m ∧ m < a 4 6 ∧ m < 40 := isThere_m (b := b) (fun e => h (if_pos e))
theorem gAS {a b : Nat → Nat → Int} {n m j : Nat} {as : Nat → Int} (h : GATH (fun i => MYC a b (a 76 i)) (a 76) n m as) (hj : j < m) : 0 ≤ as j ∧ as j < a 4 6 ∧ as j < 40 := by
  obtain ⟨i, _, c, e⟩ := GATH_of h hj
  rw [e]
  exact MYC_there c
theorem RECV {a b : Nat → Nat → Int} {m i : Nat} {R : Nat → Nat} (hm : m ≤ 8) (h79 : a 79 3 = (m : Int)) (hb : b 79 4 = ORD m R) (hR : ∀ i, R i ≤ 40) (hi : i < m) : f_X2_receiverOf a b (i : Int) = if R i = 40 then -1 else (R i : Int) := by
  unfold f_X2_receiverOf f_X2_receiverOf_at30 f_X11_within f_X2_shiftOf
  rw [h79, jxw_id (x := (m : Int) - 1) (by omega) (by omega), if_neg (show ¬ (i : Int) < 0 by omega), if_neg (show ¬ (m : Int) - 1 < (i : Int) by omega), if_neg (by decide), hb, recv_dig hm hR hi]
  by_cases c : R i = 40
  · rw [if_pos (by omega), if_pos c]
  · rw [if_neg (by omega), if_neg c]
def GST (a0 b0 : Nat → Nat → Int) (as : Nat → Int) (m : Nat) (o y2 : Int) (y3 : Nat) (v : CV) : Prop := ∃ R, BWAY (gA a0 b0 as) (gP a0 b0 as) m R ∧ o = ORD m R ∧ y2 = gCnt R y3 ∧ v = gSend as R (a0 0 0) (BNV (f_X3_landOf a0 b0) (a0 56 3)) y3 (cvC a0)
theorem GST_no {a0 b0 a b : Nat → Nat → Int} {as : Nat → Int} {m y3 : Nat} {o y2 : Int} {v : CV} (h : GST a0 b0 as m o y2 y3 v) (hm : m ≤ 8) (h79 : a 79 3 = (m : Int)) (hb : b 79 4 = o) (hi : y3 < m) (c : f_X2_receiverOf a b (y3 : Int) = -1) : GST a0 b0 as m o y2 (y3 + 1) v := by
  obtain ⟨R, h1, h2, h3, h4⟩ := h
  rw [RECV hm h79 (hb.trans h2) h1.2.1 hi] at c
  have e : R y3 = 40 := by
    by_cases q : R y3 = 40
    · exact q
    · rw [if_neg q] at c; omega
  exact ⟨R, h1, h2, h3.trans (if_pos e).symm, h4.trans (if_pos e).symm⟩
theorem GST_yes {a0 b0 a b : Nat → Nat → Int} {as : Nat → Int} {m y3 : Nat} {o y2 : Int} {v v2 : CV} (h : GST a0 b0 as m o y2 y3 v) (hm : m ≤ 8) (h79 : a 79 3 = (m : Int)) (hb : b 79 4 = o) (hi : y3 < m) (c : ¬ f_X2_receiverOf a b (y3 : Int) = -1)
    (hv : v2 = vAdd v (as y3) (f_X2_receiverOf a b (y3 : Int)) (a0 0 0) (BNV (f_X3_landOf a0 b0) (a0 56 3) v (as y3) (f_X2_receiverOf a b (y3 : Int))) (-1)) : GST a0 b0 as m o (y2 + 1) (y3 + 1) v2 := by
  obtain ⟨R, h1, h2, h3, h4⟩ := h
  rw [RECV hm h79 (hb.trans h2) h1.2.1 hi] at c hv
  have e : ¬ R y3 = 40 := fun q => c (if_pos q)
  rw [if_neg e] at hv
  refine ⟨R, h1, h2, ?_, ?_⟩
  · rw [h3]; exact (if_neg e).symm
  · rw [hv, h4]; exact (if_neg e).symm
theorem GST_n {a0 b0 : Nat → Nat → Int} {as : Nat → Int} {m y3 : Nat} {o y2 : Int} {v : CV} (h : GST a0 b0 as m o y2 y3 v) : vN v = a0 58 8 + y2 ∧ 0 ≤ y2 ∧ y2 ≤ y3 := by
  obtain ⟨R, h1, h2, h3, h4⟩ := h
  have e := gSend_n as R (a0 0 0) (BNV (f_X3_landOf a0 b0) (a0 56 3)) (cvC a0) y3
  have b := gCnt_le R y3
  rw [h4, e, h3]
  exact ⟨rfl, b⟩
