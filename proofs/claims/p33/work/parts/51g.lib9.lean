/-! the reading of rates, the class's side -/
def RDL (a0 a : Nat → Nat → Int) (s : Nat) (i : Int) : Prop := a 2 3 = 0 ∧ a 2 2 = (CP (a0 3) (a0 2 1).toNat i.toNat : Int) ∧ a 107 s = i ∧ (∀ k, k < i.toNat → CS (a0 3) (a0 2 1).toNat k) ∧ RWS a (a0 3) (a0 2 1).toNat s i.toNat
def RDE (a0 a : Nat → Nat → Int) (s : Nat) : Prop := ∃ m : Nat, (∀ k, k < m → CS (a0 3) (a0 2 1).toNat k) ∧ ((a 2 3 = CFk (a0 3) (a0 2 1).toNat m ∧ ¬ CFk (a0 3) (a0 2 1).toNat m = 0) ∨
  (a 2 3 = 0 ∧ CFk (a0 3) (a0 2 1).toNat m = 0 ∧ a 2 2 = (C4 (a0 3) (a0 2 1).toNat (CP (a0 3) (a0 2 1).toNat m) : Int) ∧ (C4 (a0 3) (a0 2 1).toNat (CP (a0 3) (a0 2 1).toNat m) < (a0 2 1).toNat → ¬ a0 3 (C4 (a0 3) (a0 2 1).toNat (CP (a0 3) (a0 2 1).toNat m)) = 59) ∧ a 107 s = m + 1 ∧ RWS a (a0 3) (a0 2 1).toNat s (m + 1)))
/-- the rates that stood keep their clauses -/
def KPR (a0 a : Nat → Nat → Int) (s : Nat) : Prop := (∀ j, j < s → a 107 j = a0 107 j) ∧ ∀ j, j < s * 12 → a 108 j = a0 108 j ∧ a 119 j = a0 119 j ∧ a 130 j = a0 130 j
theorem KPR_cl {a0 a a1 : Nat → Nat → Int} {s : Nat} (h : KPR a0 a s) (e : RCS a a1) : KPR a0 a1 s :=
  ⟨fun j hj => (e j).2.2.2.trans (h.1 j hj), fun j hj => ⟨(e j).1.trans (h.2 j hj).1, (e j).2.1.trans (h.2 j hj).2.1, (e j).2.2.1.trans (h.2 j hj).2.2⟩⟩
theorem KPR_up {a0 a a1 : Nat → Nat → Int} {s c : Nat} {z g k m : Int} (h : KPR a0 a s) (e : RCU a a1 s (s * 12 + c) z g k m) : KPR a0 a1 s :=
  ⟨fun j hj => by rw [e.2.2.2 j, if_neg (by omega)]; exact h.1 j hj, fun j hj => ⟨by rw [e.1 j, if_neg (by omega)]; exact (h.2 j hj).1, by rw [e.2.1 j, if_neg (by omega)]; exact (h.2 j hj).2.1, by rw [e.2.2.1 j, if_neg (by omega)]; exact (h.2 j hj).2.2⟩⟩
theorem RD_cf {a0 a : Nat → Nat → Int} {s : Nat} {i : Int} (hi : 0 ≤ i) (h : RDL a0 a s i) (e3 : a 3 = a0 3) (e21 : a 2 1 = a0 2 1) (e5 : (a 105 5).toNat = s) :
    CF (a 3) (a 2 1).toNat (a 2 2).toNat (a 107 (a 105 5).toNat) (LSa a) = CFk (a0 3) (a0 2 1).toNat i.toNat := by
  obtain ⟨h1, h2, h3, h4, h5⟩ := h
  have hp : (a 2 2).toNat = CP (a0 3) (a0 2 1).toNat i.toNat := by rw [h2]; exact Int.toNat_natCast _
  unfold CFk LSa
  rw [e3, e21, hp, e5, h3, show ((i.toNat : Nat) : Int) = i from Int.toNat_of_nonneg hi]
  congr 1
  exact LG_eq (fun k hk => ⟨(h5 k hk).1, (h5 k hk).2.1⟩)
theorem RD_step {a0 a a1 a2 : Nat → Nat → Int} {s : Nat} {i r : Int} (hi : 0 ≤ i) (h : RDL a0 a s i) (hk : KPR a0 a s) (e3 : a 3 = a0 3) (e21 : a 2 1 = a0 2 1) (e5 : (a 105 5).toNat = s)
    (R1 : a1 2 3 = CF (a 3) (a 2 1).toNat (a 2 2).toNat (a 107 (a 105 5).toNat) (LSa a))
    (R2 : RCU a a1 (a 105 5).toNat ((a 105 5).toNat * 12 + (a 107 (a 105 5).toNat).toNat) (NV (a 3) (a 2 1).toNat (C1 (a 3) (a 2 1).toNat (a 2 2).toNat)) (NV (a 3) (a 2 1).toNat (C2 (a 3) (a 2 1).toNat (a 2 2).toNat)) (NV (a 3) (a 2 1).toNat (C3 (a 3) (a 2 1).toNat (a 2 2).toNat)) (a 107 (a 105 5).toNat + 1) ∨ (RCS a a1 ∧ ¬ CF (a 3) (a 2 1).toNat (a 2 2).toNat (a 107 (a 105 5).toNat) (LSa a) = 0))
    (R3 : CF (a 3) (a 2 1).toNat (a 2 2).toNat (a 107 (a 105 5).toNat) (LSa a) = 0 → a1 2 2 = (C4 (a 3) (a 2 1).toNat (a 2 2).toNat : Int))
    (f3 : a1 3 = a 3) (f21 : a1 2 1 = a 2 1)
    (S1 : r = 1 → a1 2 3 = 0 ∧ (a1 2 2).toNat < (a1 2 1).toNat ∧ a1 3 (a1 2 2).toNat = 59 ∧ a2 2 2 = (SK (a1 3) (a1 2 1).toNat ((a1 2 2).toNat + 1) : Int))
    (S0 : r = 0 → ¬ a1 2 3 = 0 ∨ (a1 2 1).toNat ≤ (a1 2 2).toNat ∨ ¬ a1 3 (a1 2 2).toNat = 59) (S2 : r = 0 → a2 2 2 = a1 2 2)
    (g23 : a2 2 3 = a1 2 3) (gr : RCS a1 a2) (hr : r = 0 ∨ r = 1) : (¬ r = 0 → RDL a0 a2 s (i + 1)) ∧ (r = 0 → RDE a0 a2 s) ∧ KPR a0 a2 s := by
  have hcf := RD_cf hi h e3 e21 e5
  have hkp : KPR a0 a2 s := by
    refine KPR_cl ?_ gr
    rcases R2 with q | q
    · rw [e5] at q; exact KPR_up hk q
    · exact KPR_cl hk q.1
  have hp : (a 2 2).toNat = CP (a0 3) (a0 2 1).toNat i.toNat := by rw [h.2.1]; exact Int.toNat_natCast _
  rw [hcf] at R1 R2 R3
  have good : CFk (a0 3) (a0 2 1).toNat i.toNat = 0 → (a1 2 2).toNat = C4 (a0 3) (a0 2 1).toNat (CP (a0 3) (a0 2 1).toNat i.toNat) ∧ a2 107 s = i + 1 ∧ RWS a2 (a0 3) (a0 2 1).toNat s (i.toNat + 1) := by
    intro h0
    have q := R2.resolve_right (fun q => q.2 h0)
    have hat := R3 h0
    rw [e3, e21, hp] at hat
    rw [e3, e21, hp, e5, h.2.2.1] at q
    refine ⟨by rw [hat]; exact Int.toNat_natCast _, by rw [(gr s).2.2.2, q.2.2.2 s, if_pos rfl], fun k hk2 => ?_⟩
    rw [(gr _).1, (gr _).2.1, (gr _).2.2.1, q.1, q.2.1, q.2.2.1]
    by_cases hki : k = i.toNat
    · subst hki
      rw [if_pos rfl, if_pos rfl, if_pos rfl]
      exact ⟨rfl, rfl, rfl⟩
    · rw [if_neg (by omega), if_neg (by omega), if_neg (by omega)]
      exact h.2.2.2.2 k (by omega)
  refine ⟨fun h0 => ?_, fun h0 => ?_, hkp⟩
  · obtain ⟨s1, s2, s3, s4⟩ := S1 (by omega)
    have h00 : CFk (a0 3) (a0 2 1).toNat i.toNat = 0 := by rw [← R1]; exact s1
    obtain ⟨g1, g2, g3⟩ := good h00
    have ei : (i + 1).toNat = i.toNat + 1 := by omega
    refine ⟨by rw [g23]; exact s1, ?_, g2, ?_, by rw [ei]; exact g3⟩
    · rw [s4, f3, e3, f21, e21, g1, ei]; rfl
    · intro k hk2
      rw [f21, e21, g1] at s2
      rw [f3, e3, g1] at s3
      by_cases hki : k = i.toNat
      · subst hki; exact ⟨h00, s2, s3⟩
      · exact h.2.2.2.1 k (by omega)
  · refine ⟨i.toNat, h.2.2.2.1, ?_⟩
    by_cases h00 : CFk (a0 3) (a0 2 1).toNat i.toNat = 0
    · right
      obtain ⟨g1, g2, g3⟩ := good h00
      have hat := R3 h00
      rw [e3, e21, hp] at hat
      refine ⟨by rw [g23, R1]; exact h00, h00, by rw [S2 h0]; exact hat, ?_, by rw [g2]; omega, g3⟩
      intro hlt h59
      rcases S0 h0 with q | q | q
      · exact q (by rw [R1]; exact h00)
      · rw [f21, e21, g1] at q; omega
      · rw [f3, e3, g1] at q; exact q h59
    · left
      exact ⟨by rw [g23]; exact R1, h00⟩
def RD7 (a0 a : Nat → Nat → Int) (s : Nat) : Prop := (a 2 3 = 0 → RTR (a0 3) (a0 2 1).toNat (a 107 s) ∧ 1 ≤ a 107 s ∧ RWS a (a0 3) (a0 2 1).toNat s (a 107 s).toNat) ∧ (¬ a 2 3 = 0 → RTR (a0 3) (a0 2 1).toNat (-2 - a 2 3) ∧ 1 ≤ a 2 3)
theorem CFk_pos (f : Nat → Int) (n k : Nat) : 0 ≤ CFk f n k := CF_pos _ _ _ _ _
theorem RD_end1 {a0 a : Nat → Nat → Int} {s : Nat} (h : RDE a0 a s) (e21 : a 2 1 = a0 2 1) (he : a 2 1 ≤ a 2 2) : RD7 a0 a s := by
  obtain ⟨m, h1, h2⟩ := h
  rcases h2 with ⟨q1, q2⟩ | ⟨q1, q2, q3, q4, q5, q6⟩
  · have := CFk_pos (a0 3) (a0 2 1).toNat m
    exact ⟨fun h0 => absurd (q1 ▸ h0) q2, fun _ => ⟨⟨m, h1, Or.inl ⟨q2, by rw [q1]⟩⟩, by omega⟩⟩
  · refine ⟨fun _ => ⟨⟨m, h1, Or.inr (Or.inr ⟨q2, by omega, q5⟩)⟩, by omega, ?_⟩, fun h0 => absurd q1 h0⟩
    rw [q5, show ((m : Int) + 1).toNat = m + 1 by omega]
    exact q6
theorem RD_end2 {a0 a a1 : Nat → Nat → Int} {s : Nat} (h : RDE a0 a s) (e21 : a 2 1 = a0 2 1) (he : ¬ a 2 1 ≤ a 2 2) (h0 : 0 ≤ a 2 1) (n1 : a 2 3 = 0 → a1 2 3 = 1 + 8 * a 2 2) (n2 : ¬ a 2 3 = 0 → a1 2 3 = a 2 3) : RD7 a0 a1 s := by
  obtain ⟨m, h1, h2⟩ := h
  rcases h2 with ⟨q1, q2⟩ | ⟨q1, q2, q3, q4, q5, q6⟩
  · have := CFk_pos (a0 3) (a0 2 1).toNat m
    have e := n2 (by rw [q1]; exact q2)
    exact ⟨fun h0 => absurd (by rw [← q1, ← e]; exact h0) q2, fun _ => ⟨⟨m, h1, Or.inl ⟨q2, by rw [e, q1]⟩⟩, by omega⟩⟩
  · have e := n1 q1
    refine ⟨fun h0 => by omega, fun _ => ⟨⟨m, h1, Or.inr (Or.inl ⟨q2, by omega, q4 (by omega), by rw [e, q3]; omega⟩)⟩, by omega⟩⟩
theorem RDL_big {a0 a : Nat → Nat → Int} {s : Nat} {i : Int} (h : RDL a0 a s i) (hi : 12 < i) : False := CF_big (show (12 : Int) ≤ ((12 : Nat) : Int) by decide) (h.2.2.2.1 12 (by omega)).1
/-! bytes come behind the tape -/
def APP (f g : Nat → Int) (n : Int) (x : Int) (m : Int) : Prop := ∀ j : Nat, g j = if n ≤ (j : Int) ∧ (j : Int) < m then jxand (jxshr x (24 - 8 * ((j : Int) - n))) 255 else f j
theorem APP_0 (f : Nat → Int) (n x : Int) : APP f f n x n := fun j => by rw [if_neg (by omega)]
theorem APP_s {f g g2 : Nat → Int} {n x m s v : Int} {i : Nat} (h : APP f g n x m) (hu : UP g g2 i v) (hi : (i : Int) = m) (hm : n ≤ m) (hs : s = 24 - 8 * (m - n)) (hv : v = jxand (jxshr x s) 255) : APP f g2 n x (m + 1) := by
  intro j
  rw [hu j]
  by_cases e : j = i
  · rw [if_pos e, if_pos (by omega), hv, hs, show (j : Int) = m by omega]
  · rw [if_neg e, h j]
    by_cases q : n ≤ (j : Int) ∧ (j : Int) < m
    · rw [if_pos q, if_pos (by omega)]
    · rw [if_neg q, if_neg (by omega)]
theorem APP_det {f g f2 g2 : Nat → Int} {n x m : Int} (h : APP f g n x m) (h2 : APP f2 g2 n x m) (e : ∀ j, f j = f2 j) (j : Nat) : g j = g2 j := by
  rw [h j, h2 j, e j]
def FED (f g : Nat → Int) (n x1 x2 x3 x4 x5 : Int) : Prop := ∃ g1 g2 g3 g4 : Nat → Int, APP f g1 n x1 (n + 4) ∧ APP g1 g2 (n + 4) x2 (n + 8) ∧ APP g2 g3 (n + 8) x3 (n + 12) ∧ APP g3 g4 (n + 12) x4 (n + 16) ∧ APP g4 g (n + 16) x5 (n + 20)
theorem FED_det {f g f2 g2 : Nat → Int} {n x1 x2 x3 x4 x5 : Int} (h : FED f g n x1 x2 x3 x4 x5) (h2 : FED f2 g2 n x1 x2 x3 x4 x5) (e : ∀ j, f j = f2 j) (j : Nat) : g j = g2 j := by
  obtain ⟨a1, a2, a3, a4, p1, p2, p3, p4, p5⟩ := h
  obtain ⟨b1, b2, b3, b4, q1, q2, q3, q4, q5⟩ := h2
  exact APP_det p5 q5 (APP_det p4 q4 (APP_det p3 q3 (APP_det p2 q2 (APP_det p1 q1 e)))) j
theorem and255 (x : Int) : jxand x 255 = x % 256 := by
  rw [jxand_eq]
  have e : (BitVec.ofInt 32 x &&& BitVec.ofInt 32 255).toNat = (x % ((2 ^ 32 : Nat) : Int)).toNat % 256 := by
    rw [BitVec.toNat_and, bv_of (x := 255) (by decide) (by decide), BitVec.toNat_ofInt]
    exact Nat.and_two_pow_sub_one_eq_mod _ 8
  rw [bv_nn (by omega), e]
  omega
theorem i2b_and (x : Int) : jxand (jxi2b x) 255 = jxand x 255 := by
  rw [and255, and255]
  have e : jxi2b x = (jxw x).bmod 256 := by
    unfold jxi2b jxw
    rw [Int8.toInt_toInt32, Int32.toInt_toInt8, Int32.toInt_ofInt]
  obtain ⟨q, hq, _⟩ := jxw_ex x
  rw [e, hq, Int.bmod_def]
  omega
/-- the tape, both sides alike -/
def TAPE (a : Nat → Nat → Int) : Prop := ∀ j, a 3 j = UB (a 164) j
theorem TAPE_fr {W : List (Nat × Nat)} {a a1 : Nat → Nat → Int} (h : TAPE a) (hf : jfr W a a1) (h1 : ∀ j, jfin W 3 j = false) (h2 : ∀ j, jfin W 164 j = false) : TAPE a1 := by
  intro j
  rw [hf 3 j (h1 j), h j]
  unfold UB
  rw [hf 164 j (h2 j)]
theorem APP_c {f g : Nat → Int} {n n2 x m m2 : Int} (h : APP f g n x m) (e : n = n2) (e2 : m = m2) : APP f g n2 x m2 := by
  rw [← e, ← e2]; exact h
theorem UP_UB {g g2 : Nat → Int} {i : Nat} {w v : Int} (h : UP g g2 i w) (hv : jxand w 255 = v) : UP (UB g) (UB g2) i v := by
  intro j
  unfold UB
  rw [h j, ← hv]
  by_cases e : j = i
  · rw [if_pos e, if_pos e]
  · rw [if_neg e, if_neg e]
theorem UB_same {g g2 : Nat → Int} (h : ∀ j, g2 j = g j) (j : Nat) : UB g2 j = UB g j := by
  unfold UB
  rw [h j]
/-! the reading of rates, the reference's side -/
def R195 (a : Nat → Nat → Int) (f : Nat → Int) (n m : Nat) : Prop := ∀ k, k < m → a 195 (3 * k) = CZ f n k ∧ a 195 (3 * k + 1) = CG f n k ∧ a 195 (3 * k + 2) = CC f n k
def LSr (a : Nat → Nat → Int) (f : Nat → Int) (n p m : Nat) : Int := LG (fun k => a 195 (3 * k)) (fun k => a 195 (3 * k + 1)) (NV f n (C1 f n p)) m
/-- clause number c at p went onto the row -/
def CLP (a a1 : Nat → Nat → Int) (f : Nat → Int) (n p c : Nat) : Prop := a1 195 (3 * c) = NV f n (C1 f n p) ∧ a1 195 (3 * c + 1) = NV f n (C2 f n p) ∧ a1 195 (3 * c + 2) = NV f n (C3 f n p) ∧ ∀ j, j < 3 * c → a1 195 j = a 195 j
theorem LSr_eq {a : Nat → Nat → Int} {f : Nat → Int} {n m : Nat} (h : R195 a f n m) : LSr a f n (CP f n m) m = LG (CZ f n) (CG f n) (CZ f n m) m := LG_eq (fun k hk => ⟨(h k hk).1, (h k hk).2.1⟩)
theorem R195_s {a a1 : Nat → Nat → Int} {f : Nat → Int} {n m : Nat} (h : R195 a f n m) (h1 : CLP a a1 f n (CP f n m) m) : R195 a1 f n (m + 1) := by
  intro k hk
  by_cases e : k = m
  · subst e
    exact ⟨h1.1, h1.2.1, h1.2.2.1⟩
  · rw [h1.2.2.2 _ (by omega), h1.2.2.2 _ (by omega), h1.2.2.2 _ (by omega)]
    exact h k (by omega)
/-- the reference's loop: good so far, at clause m -/
def RFL (a0 a : Nat → Nat → Int) (m : Nat) : Prop := a 146 24 = 0 ∧ SK (UB (a0 164)) (a0 146 22).toNat (a 146 23).toNat = CP (UB (a0 164)) (a0 146 22).toNat m ∧ (∀ k, k < m → CS (UB (a0 164)) (a0 146 22).toNat k) ∧ R195 a (UB (a0 164)) (a0 146 22).toNat m
/-- clause m stands -/
def RFM (a0 a : Nat → Nat → Int) (m : Nat) : Prop := a 146 24 = 0 ∧ SK (UB (a0 164)) (a0 146 22).toNat (a 146 23).toNat = C4 (UB (a0 164)) (a0 146 22).toNat (CP (UB (a0 164)) (a0 146 22).toNat m) ∧ CFk (UB (a0 164)) (a0 146 22).toNat m = 0 ∧ (∀ k, k < m → CS (UB (a0 164)) (a0 146 22).toNat k) ∧ R195 a (UB (a0 164)) (a0 146 22).toNat (m + 1)
/-- it has come to a fault -/
def RFX (a0 a : Nat → Nat → Int) : Prop := 1 ≤ a 146 24 ∧ RTR (UB (a0 164)) (a0 146 22).toNat (-2 - a 146 24)
/-- it has come to the end, with m clauses -/
def RFY (a0 a : Nat → Nat → Int) (m : Int) : Prop := 1 ≤ m ∧ RTR (UB (a0 164)) (a0 146 22).toNat m ∧ R195 a (UB (a0 164)) (a0 146 22).toNat m.toNat
theorem RF_cf {a0 a : Nat → Nat → Int} {c : Int} (hc : 0 ≤ c) (h : RFL a0 a c.toNat) (e4 : a 164 = a0 164) (e22 : a 146 22 = a0 146 22) :
    CF (UB (a 164)) (a 146 22).toNat (SK (UB (a 164)) (a 146 22).toNat (a 146 23).toNat) c (LSr a (UB (a 164)) (a 146 22).toNat (SK (UB (a 164)) (a 146 22).toNat (a 146 23).toNat) c.toNat) = CFk (UB (a0 164)) (a0 146 22).toNat c.toNat := by
  rw [e4, e22, h.2.1, LSr_eq h.2.2.2]
  unfold CFk
  rw [Int.toNat_of_nonneg hc]
theorem RF_bad {a0 a a1 : Nat → Nat → Int} {c : Int} (hc : 0 ≤ c) (h : RFL a0 a c.toNat) (e4 : a 164 = a0 164) (e22 : a 146 22 = a0 146 22)
    (h0 : ¬ CF (UB (a 164)) (a 146 22).toNat (SK (UB (a 164)) (a 146 22).toNat (a 146 23).toNat) c (LSr a (UB (a 164)) (a 146 22).toNat (SK (UB (a 164)) (a 146 22).toNat (a 146 23).toNat) c.toNat) = 0 ∧
      a1 146 24 = CF (UB (a 164)) (a 146 22).toNat (SK (UB (a 164)) (a 146 22).toNat (a 146 23).toNat) c (LSr a (UB (a 164)) (a 146 22).toNat (SK (UB (a 164)) (a 146 22).toNat (a 146 23).toNat) c.toNat)) : RFX a0 a1 := by
  rw [RF_cf hc h e4 e22] at h0
  have hp := CFk_pos (UB (a0 164)) (a0 146 22).toNat c.toNat
  exact ⟨by omega, c.toNat, h.2.2.1, Or.inl ⟨h0.1, by rw [h0.2]⟩⟩
theorem RF_good {a0 a a1 : Nat → Nat → Int} {c : Int} (hc : 0 ≤ c) (h : RFL a0 a c.toNat) (e4 : a 164 = a0 164) (e22 : a 146 22 = a0 146 22) (hz : a1 146 24 = 0)
    (h0 : CF (UB (a 164)) (a 146 22).toNat (SK (UB (a 164)) (a 146 22).toNat (a 146 23).toNat) c (LSr a (UB (a 164)) (a 146 22).toNat (SK (UB (a 164)) (a 146 22).toNat (a 146 23).toNat) c.toNat) = 0 ∧
      SK (UB (a 164)) (a 146 22).toNat (a1 146 23).toNat = C4 (UB (a 164)) (a 146 22).toNat (SK (UB (a 164)) (a 146 22).toNat (a 146 23).toNat) ∧ CLP a a1 (UB (a 164)) (a 146 22).toNat (SK (UB (a 164)) (a 146 22).toNat (a 146 23).toNat) c.toNat) : RFM a0 a1 c.toNat := by
  obtain ⟨h1, h2, h3⟩ := h0
  rw [RF_cf hc h e4 e22] at h1
  rw [e4, e22, h.2.1] at h2 h3
  exact ⟨hz, h2, h1, h.2.2.1, R195_s h.2.2.2 h3⟩
theorem RFM_fr {a0 a a1 : Nat → Nat → Int} {m : Nat} (h : RFM a0 a m) (e24 : a1 146 24 = a 146 24) (e23 : SK (UB (a0 164)) (a0 146 22).toNat (a1 146 23).toNat = SK (UB (a0 164)) (a0 146 22).toNat (a 146 23).toNat) (e5 : ∀ j, a1 195 j = a 195 j) : RFM a0 a1 m :=
  ⟨by rw [e24]; exact h.1, by rw [e23]; exact h.2.1, h.2.2.1, h.2.2.2.1, fun k hk => by rw [e5, e5, e5]; exact h.2.2.2.2 k hk⟩
theorem RF_end {a0 a : Nat → Nat → Int} {m : Nat} (h : RFM a0 a m) (he : (a0 146 22).toNat ≤ SK (UB (a0 164)) (a0 146 22).toNat (a 146 23).toNat) : RFY a0 a (m + 1) :=
  ⟨by omega, ⟨m, h.2.2.2.1, Or.inr (Or.inr ⟨h.2.2.1, by rw [← h.2.1]; exact he, rfl⟩)⟩, by rw [show ((m : Int) + 1).toNat = m + 1 by omega]; exact h.2.2.2.2⟩
theorem RF_sep {a0 a : Nat → Nat → Int} {m q : Nat} {v : Int} (h : RFM a0 a m) (hq : SK (UB (a0 164)) (a0 146 22).toNat (a 146 23).toNat = q) (hlt : q < (a0 146 22).toNat) (hne : ¬ UB (a0 164) q = 59) (hv : v = 1 + 8 * (q : Int)) : 1 ≤ v ∧ RTR (UB (a0 164)) (a0 146 22).toNat (-2 - v) :=
  ⟨by omega, m, h.2.2.2.1, Or.inr (Or.inl ⟨h.2.2.1, by rw [← h.2.1, hq]; exact hlt, by rw [← h.2.1, hq]; exact hne, by rw [← h.2.1, hq, hv]; omega⟩)⟩
theorem RF_next {a0 a a1 : Nat → Nat → Int} {m q : Nat} (h : RFM a0 a m) (hq : SK (UB (a0 164)) (a0 146 22).toNat (a 146 23).toNat = q) (hlt : q < (a0 146 22).toNat) (h59 : UB (a0 164) q = 59) (e23 : (a1 146 23).toNat = q + 1) (e24 : a1 146 24 = a 146 24) (e5 : ∀ j, a1 195 j = a 195 j) : RFL a0 a1 (m + 1) := by
  refine ⟨by rw [e24]; exact h.1, by rw [e23, ← hq, h.2.1]; rfl, fun k hk => ?_, fun k hk => by rw [e5, e5, e5]; exact h.2.2.2.2 k hk⟩
  by_cases e : k = m
  · subst e
    exact ⟨h.2.2.1, by rw [← h.2.1, hq]; exact hlt, by rw [← h.2.1, hq]; exact h59⟩
  · exact h.2.2.2.1 k (by omega)
theorem SK_SK {f : Nat → Int} {n p q : Nat} (h : SK f n p = q) : SK f n q = SK f n p := by
  rw [← h, SK_idem]
/-- rates number R hold m clauses -/
def R194 (a : Nat → Nat → Int) (f : Nat → Int) (n R m : Nat) : Prop := ∀ k, k < m → a 194 (36 * R + 3 * k) = CZ f n k ∧ a 194 (36 * R + (3 * k + 1)) = CG f n k ∧ a 194 (36 * R + (3 * k + 2)) = CC f n k
theorem R194_of {a : Nat → Nat → Int} {f : Nat → Int} {n R m : Nat} (h : R195 a f n m) (hc : ∀ j, j < 3 * m → a 194 (36 * R + j) = a 195 j) : R194 a f n R m := fun k hk => by
  rw [hc _ (by omega), hc _ (by omega), hc _ (by omega)]
  exact h k hk
theorem tn200 {a : Nat → Nat → Int} (h : iv a) : (a 2 1).toNat ≤ 200 := by
  have := iv_get h (k := 2) (j := 1) (l := 0) (u := 200) rfl
  omega
theorem tr200 {a : Nat → Nat → Int} (h : iv a) : (a 146 22).toNat ≤ 200 := by
  have := iv_get h (k := 146) (j := 22) (l := 0) (u := 200) rfl
  omega
theorem NF_le (f : Nat → Int) (n p : Nat) (lo hi : Int) : NF f n p lo hi ≤ 2 + 8 * (p : Int) := by
  unfold NF
  split
  · omega
  · split <;> omega
theorem CP_le {f : Nat → Int} {n : Nat} : ∀ {m : Nat}, (∀ k, k < m → CS f n k) → CP f n m ≤ n
  | 0, _ => (SK_sp f n 0).2.1 (Nat.zero_le _)
  | m + 1, h => (SK_sp f n _).2.1 (by have := (h m (by omega)).2.1; omega)
theorem CF_le {f : Nat → Int} {n p : Nat} {c last : Int} (hp : p ≤ n) : CF f n p c last ≤ 3 + 8 * (n : Int) := by
  by_cases ht : TW f n p 15
  · by_cases hc : 12 ≤ c
    · rw [CF_12 ht hc]; omega
    · have h4 : p + 4 ≤ n := ht.1
      have h1 : C1 f n p ≤ n := (SK_sp f n _).2.1 h4
      have h2 : C2 f n p ≤ n := (SK_sp f n _).2.1 ((DE_sp f n _).2.1 h1)
      have h3 : C3 f n p ≤ n := (SK_sp f n _).2.1 ((DE_sp f n _).2.1 h2)
      have q1 := NF_le f n (C1 f n p) 0 3
      have q2 := NF_le f n (C2 f n p) (last + 1) 500
      have q3 := NF_le f n (C3 f n p) 1 900
      rw [CF_go ht hc]
      split
      · omega
      · split <;> omega
  · rw [CF_no ht]; omega
theorem RTR_bd {f : Nat → Int} {n : Nat} {r : Int} (h : RTR f n r) (hn : n ≤ 200) : -2000 ≤ r ∧ r ≤ 13 := by
  obtain ⟨m, h1, h2⟩ := h
  have hp := CP_le h1
  have h0 := CFk_pos f n m
  have hle : CFk f n m ≤ 3 + 8 * (n : Int) := CF_le hp
  rcases h2 with ⟨q1, q2⟩ | ⟨q1, q2, q3, q4⟩ | ⟨q1, q2, q3⟩
  · omega
  · omega
  · have : m < 12 := by
      rcases Nat.lt_or_ge m 12 with q | q
      · exact q
      · exact absurd q1 (CF_big (by omega))
    omega
theorem TAPE_feed {a a1 a2 : Nat → Nat → Int} {x1 x2 x3 x4 x5 : Int} (h : TAPE a) (hn : a 2 1 = a 146 22) (c1 : a 2 1 ≤ 180 → FED (a 3) (a1 3) (a 2 1) x1 x2 x3 x4 x5) (c2 : 180 < a 2 1 → ∀ j, a1 3 j = a 3 j) (e1 : ∀ j, a1 164 j = a 164 j) (en : a1 146 22 = a 146 22)
    (d1 : a1 146 22 ≤ 180 → FED (UB (a1 164)) (UB (a2 164)) (a1 146 22) x1 x2 x3 x4 x5) (d2 : 180 < a1 146 22 → ∀ j, a2 164 j = a1 164 j) (e2 : ∀ j, a2 3 j = a1 3 j) : TAPE a2 := by
  intro j
  rw [e2 j]
  by_cases hc : a 2 1 ≤ 180
  · have q := d1 (by omega)
    rw [en, ← hn] at q
    exact FED_det (c1 hc) q (fun j => by rw [h j]; exact (UB_same e1 j).symm) j
  · rw [c2 (by omega) j, h j, UB_same (d2 (by omega)) j, UB_same e1 j]
theorem RT_law {a a1 : Nat → Nat → Int} {r r2 : Int} (h : TAPE a) (hn : a 2 1 = a 146 22) (e1 : ∀ j, a1 164 j = a 164 j) (en : a1 146 22 = a 146 22) (h1 : RTR (a 3) (a 2 1).toNat r) (h2 : RTR (UB (a1 164)) (a1 146 22).toNat r2) : r = r2 := by
  rw [en, ← hn, show UB (a1 164) = a 3 from funext fun j => by rw [UB_same e1 j, h j]] at h2
  exact RTR_det h1 h2
