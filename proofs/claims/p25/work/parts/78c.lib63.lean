/-! the other side's rows stay; given, alike -/
def CLS (a a1 : Nat → Nat → Int) : Prop := ∀ k, 146 ≤ k → a1 k = a k
def RFS (a a1 : Nat → Nat → Int) : Prop := ∀ k, k < 146 → a1 k = a k
theorem jfin_hi {W : List (Nat × Nat)} {k j : Nat} (hk : 146 ≤ k) (h : W.all (fun p => Nat.ble p.1 145) = true) : jfin W k j = false := by
  induction W with
  | nil => rfl
  | cons p W ih =>
    obtain ⟨k1, s1⟩ := p
    rw [List.all_cons, Bool.and_eq_true] at h
    have e : Nat.beq k1 k = false := by
      cases c : Nat.beq k1 k
      · rfl
      · have e := Nat.eq_of_beq_eq_true c
        have := Nat.le_of_ble_eq_true h.1
        have q : k1 ≤ 145 := this
        omega
    unfold jfin
    rw [e]
    exact ih h.2
theorem jfin_lw {W : List (Nat × Nat)} {k j : Nat} (hk : k < 146) (h : W.all (fun p => Nat.ble 146 p.1) = true) : jfin W k j = false := by
  induction W with
  | nil => rfl
  | cons p W ih =>
    obtain ⟨k1, s1⟩ := p
    rw [List.all_cons, Bool.and_eq_true] at h
    have e : Nat.beq k1 k = false := by
      cases c : Nat.beq k1 k
      · rfl
      · have e := Nat.eq_of_beq_eq_true c
        have := Nat.le_of_ble_eq_true h.1
        have q : 146 ≤ k1 := this
        omega
    unfold jfin
    rw [e]
    exact ih h.2
theorem CLS_fr {W : List (Nat × Nat)} {a a1 : Nat → Nat → Int} (hf : jfr W a a1) (h : W.all (fun p => Nat.ble p.1 145) = true) : CLS a a1 := fun k hk => funext fun j => hf k j (jfin_hi hk h)
theorem RFS_fr {W : List (Nat × Nat)} {a a1 : Nat → Nat → Int} (hf : jfr W a a1) (h : W.all (fun p => Nat.ble 146 p.1) = true) : RFS a a1 := fun k hk => funext fun j => hf k j (jfin_lw hk h)
theorem cvR_cl {a a1 : Nat → Nat → Int} (h : CLS a a1) : cvR a1 = cvR a := by
  unfold cvR
  rw [h 146 (by decide), h 154 (by decide), h 155 (by decide), h 156 (by decide), h 157 (by decide), h 158 (by decide), h 159 (by decide), h 160 (by decide), h 161 (by decide), h 162 (by decide), h 163 (by decide)]
theorem cvC_rf {a a1 : Nat → Nat → Int} (h : RFS a a1) : cvC a1 = cvC a := by
  unfold cvC
  rw [h 58 (by decide), h 59 (by decide), h 60 (by decide), h 61 (by decide), h 62 (by decide), h 63 (by decide), h 64 (by decide), h 65 (by decide), h 66 (by decide), h 67 (by decide), h 68 (by decide)]
theorem SAM7_cl {a a1 : Nat → Nat → Int} (h : CLS a a1) : SAM7 a a1 := ⟨cvR_cl h, by rw [h 146 (by decide)], by rw [h 146 (by decide)], by rw [h 146 (by decide)], fun k hk => h k (by omega)⟩
theorem BSR_cl {a a1 b : Nat → Nat → Int} (h : SAM7 a a1) (x : Int) : ∀ n, BSR a1 b x n = BSR a b x n
  | 0 => rfl
  | n + 1 => by
    have ih := BSR_cl (b := b) h x n
    show (if MGR a1 b x (n : Int) = 0 then BSR a1 b x n else if BSR a1 b x n < 0 ∨ (if ¬ vOwR a1 n = vOwR a1 (BSR a1 b x n) then vOwR a1 (BSR a1 b x n) < vOwR a1 n else if ¬ UNR a1 b x n = UNR a1 b x (BSR a1 b x n) then UNR a1 b x n < UNR a1 b x (BSR a1 b x n) else lstR a1 n < lstR a1 (BSR a1 b x n)) then (n : Int) else BSR a1 b x n) = _
    simp only [ih, SAM7_mg h, SAM7_ow h, SAM7_un h, SAM7_ls h]
    rfl
theorem ASKR_cl {a a1 b ar : Nat → Nat → Int} (h : CLS a a1) {x r : Int} (q : ASKR a1 b ar x r) : ASKR a b ar x r := by
  have s := SAM7_cl h
  unfold ASKR at q ⊢
  rw [h 152 (by decide), h 171 (by decide), h 146 (by decide), h 148 (by decide), cvR_cl h, BSR_cl s, BNR_fr s] at q
  exact q
theorem MYR_cl {a a1 : Nat → Nat → Int} (h : CLS a a1) (m : Int) : MYR a1 m = MYR a m := by
  unfold MYR
  rw [h 152 (by decide), h 171 (by decide), h 146 (by decide), cvR_cl h]
theorem GIVR_cl {a a1 b ar : Nat → Nat → Int} (h : CLS a a1) {r : Int} (q : GIVR a1 b ar r) : GIVR a b ar r := by
  have s := SAM7_cl h
  obtain ⟨m, as, q, tot, due, h1, h2, h3, h4, h5, h6, h7⟩ := q
  have eA : rA a1 b as = rA a b as := funext fun i => funext fun d => by
    unfold rA
    rw [SAM7_mg s, h 146 (by decide)]
  have eW : rW a1 b as = rW a b as := funext fun i => funext fun d => by
    unfold rW cw
    simp only [SAM7_un s, SAM7_ow s]
  have eM : (fun i => MYR a1 (a1 173 i)) = fun i => MYR a (a 173 i) := funext fun i => by rw [MYR_cl h, h 173 (by decide)]
  rw [eA, eW] at h3 h4
  rw [eM, h 173 (by decide), h 146 (by decide)] at h2
  rw [h 146 (by decide), h 171 (by decide), cvR_cl h, ldR_fr (h 148 (by decide))] at h7
  exact ⟨m, as, q, tot, due, h1, h2, h3, h4, h5, h6, h7⟩
theorem VLD_cg {A A2 : Nat → Nat → Prop} {m : Nat} {r : Nat → Nat} (h : ∀ i d, i < m → (A i d ↔ A2 i d)) : VLD A m r ↔ VLD A2 m r := ⟨fun q => ⟨fun i hi => (q.1 i hi).imp id (h i _ hi).1, q.2⟩, fun q => ⟨fun i hi => (q.1 i hi).imp id (h i _ hi).2, q.2⟩⟩
theorem TOT_cg {A : Nat → Nat → Prop} {w w2 : Nat → Nat → Int} {m : Nat} {r : Nat → Nat} (h : ∀ i d, i < m → A i d → w i d = w2 i d) (v : ∀ i, i < m → r i = 40 ∨ A i (r i)) : TOT w m r = TOT w2 m r := by
  unfold TOT
  refine SUMN_congr (fun i hi => ?_)
  by_cases c : r i = 40
  · rw [if_pos c, if_pos c]
  · rw [if_neg c, if_neg c]
    exact h i _ hi ((v i hi).resolve_left c)
theorem MAXV_cg {A A2 : Nat → Nat → Prop} {w w2 : Nat → Nat → Int} {m : Nat} {v : Int} (h : ∀ i d, i < m → (A i d ↔ A2 i d)) (hw : ∀ i d, i < m → A i d → w i d = w2 i d) (q : MAXV A w m v) : MAXV A2 w2 m v := by
  obtain ⟨⟨r, r1, r2⟩, q2⟩ := q
  refine ⟨⟨r, (VLD_cg h).1 r1, by rw [r2]; exact TOT_cg hw r1.1⟩, fun s hs => ?_⟩
  have s1 := (VLD_cg h).2 hs
  rw [← TOT_cg hw s1.1]
  exact q2 s s1
theorem GRD_cg {A A2 : Nat → Nat → Prop} {w w2 : Nat → Nat → Int} {m k : Nat} {q : Nat → Nat} {due : Int} (hk : k ≤ m) (h : ∀ i d, i < m → (A i d ↔ A2 i d)) (hw : ∀ i d, i < m → A i d → w i d = w2 i d) (g : GRD A w m q k due) : GRD A2 w2 m q k due := by
  obtain ⟨g1, g2, g3, g4, g5⟩ := g
  have hs : ∀ i d, i < m → A2 i d → w2 i d = w i d := fun i d hi ha => (hw i d hi ((h i d hi).2 ha)).symm
  have h2 : ∀ i d, i < m → (A2 i d ↔ A i d) := fun i d hi => (h i d hi).symm
  refine ⟨fun i hi => (g1 i hi).imp id (h i _ (by omega)).1, g2, MAXV_cg (fun i d hi => ?_) (fun i d hi z => hw i d hi z.2.1) g3, fun tot ht => ?_, fun r hr hM => ?_⟩
  · unfold GOK
    rw [h i d hi]
  · rw [g4 tot (MAXV_cg h2 hs ht)]
    congr 1
    refine SUMN_congr (fun i hi => ?_)
    by_cases c : q i = 40
    · rw [if_pos c, if_pos c]
    · rw [if_neg c, if_neg c]
      exact hw i _ (by omega) ((g1 i hi).resolve_left c)
  · have r1 := (VLD_cg h).2 hr
    refine g5 r r1 ?_
    rw [TOT_cg hw r1.1]
    exact MAXV_cg h2 hs hM
/-- the list of those who ask -/
def LST8 (a : Nat → Nat → Int) : Prop := a 0 9 = a 146 42 ∧ ∀ i : Nat, (i : Int) < a 0 9 → a 76 i = a 173 i ∧ 0 ≤ a 76 i ∧ a 76 i < a 4 6
theorem gSend_B {as : Nat → Int} {R : Nat → Nat} {nm w : Int} {B B2 : CV → Int → Int → Int} {v : CV} (h : CI v nm w) (w0 : 0 ≤ w) (hB : ∀ u f t, CI u nm w → 0 ≤ f ∧ f < nm → 0 ≤ t ∧ t < nm → B u f t = B2 u f t) : ∀ n : Nat, vN v + n ≤ 300 → (∀ i, i < n → (0 ≤ as i ∧ as i < nm) ∧ (R i = 40 ∨ (R i : Int) < nm)) → gSend as R w B n v = gSend as R w B2 n v ∧ CI (gSend as R w B n v) nm w ∧ OFN (gSend as R w B n v) = OFN v ∧ NRC v (gSend as R w B n v)
  | 0, _, _ => ⟨rfl, h, rfl, NRC_rf _⟩
  | n + 1, hn, ha => by
    obtain ⟨i1, i2, i3, i4⟩ := gSend_B (R := R) h w0 hB n (by omega) (fun i hi => ha i (by omega))
    have q := ha n (Nat.lt_succ_self n)
    have c := gCnt_le R n
    have nn := gSend_n as R w B v n
    by_cases c40 : R n = 40
    · have e : gSend as R w B (n + 1) v = gSend as R w B n v := if_pos c40
      have e2 : gSend as R w B2 (n + 1) v = gSend as R w B2 n v := if_pos c40
      rw [e, e2]
      exact ⟨i1, i2, i3, i4⟩
    · have e : gSend as R w B (n + 1) v = vAdd (gSend as R w B n v) (as n) (R n) w (B (gSend as R w B n v) (as n) (R n)) (-1) := if_neg c40
      have e2 : gSend as R w B2 (n + 1) v = vAdd (gSend as R w B2 n v) (as n) (R n) w (B2 (gSend as R w B2 n v) (as n) (R n)) (-1) := if_neg c40
      have rn : 0 ≤ ((R n : Nat) : Int) ∧ ((R n : Nat) : Int) < nm := ⟨by omega, q.2.resolve_left c40⟩
      rw [e, e2, ← i1, hB _ _ _ i2 q.1 rn]
      exact ⟨rfl, CI_add i2 (by omega) q.1 rn w0, by rw [OFN_add i2, i3], NRC_tr i4 (NRC_add (CI_n i2).1)⟩
theorem AL_give {a b b2 ac ar : Nat → Nat → Int} (hb : BAS a) (h : ALK a) (hl : LST8 a) {r r2 : Int} (h1 : GIVC a b ac r) (h2 : GIVR a b2 ar r2) (hn : a 58 8 + a 0 9 ≤ 300) : r = r2 ∧ cvC ac = cvR ar ∧ CI (cvC ac) (a 4 6) (a 0 0) ∧ OFN (cvC ac) = OFN (cvC a) ∧ NRC (cvC a) (cvC ac) := by
  obtain ⟨m, as, R, p1, p2, p3, p4, p5⟩ := h1
  obtain ⟨m2, as2, q, tot, due, q1, q2, q3, q4, q5, q6, q7⟩ := h2
  have nm := AL_nm hb
  have nn := CI_n h.2.2.1
  have n8 : vN (cvC a) = a 58 8 := rfl
  have w := AL_w hb
  have i9 := iv_get hb.1 (k := 0) (j := 9) (l := 0) (u := 8) rfl
  have gt := GATH_congr (p2 := fun i => MYR a (a 173 i)) (l2 := a 173) p2 (fun i hi => by
    have l := hl.2 i (by omega)
    show MYC a b (a 76 i) = 0 ↔ MYR a (a 173 i) = 0
    rw [AL_my hb h l.2.1 l.2.2, l.1]) (fun i hi _ => (hl.2 i (by omega)).1)
  rw [hl.1] at gt
  obtain ⟨em, eas⟩ := GATH_det gt q2
  rw [← em] at q1 q3 q4 q6 q7
  have asr : ∀ i, i < m → 0 ≤ as i ∧ as i < a 4 6 := fun i hi => by
    have z := gAS p2 hi
    exact ⟨z.1, z.2.1⟩
  have mn : (m : Int) ≤ a 0 9 := by
    have z := p2.1
    have z2 := CNTP_le (fun i => MYC a b (a 76 i)) (a 0 9).toNat
    omega
  have hA : ∀ i d, i < m → (rA a b2 as2 i d ↔ gA a b as i d) := fun i d hi => by
    have e := eas i hi
    have z := asr i hi
    unfold rA gA
    rw [← hb.2.2.1, ← e]
    constructor
    · rintro ⟨z1, z2, z3⟩
      exact ⟨z1, z2, by rw [AL_mg (b2 := b2) hb h z.1 z.2 z1]; exact z3⟩
    · rintro ⟨z1, z2, z3⟩
      exact ⟨z1, z2, by rw [← AL_mg (b := b) (b2 := b2) hb h z.1 z.2 z1]; exact z3⟩
  have hW : ∀ i d, i < m → rA a b2 as2 i d → rW a b2 as2 i d = cw (fun i d => UNC a b (as i) d) (fun d => OWC a b d) i d := fun i d hi hr => by
    have e := eas i hi
    have z := asr i hi
    have z1 : (d : Int) < a 4 6 := by rw [hb.2.2.1]; exact hr.1
    show 1000000000 - 1000000 * UNR a b2 (as2 i) d + vOwR a d = 1000000000 - 1000000 * UNC a b (as i) d + OWC a b d
    rw [← e, AL_un (b2 := b2) hb z.1 z.2 (by omega) z1, AL_ow hb h (by omega)]
  have e := MATCH_eq (A := gA a b as) (u := fun i d => UNC a b (as i) d) (o := fun d => OWC a b d) (m := m) (r := R) (q := q) (tot := tot) p1 (fun i d z => z.2.1) (fun i d _ _ => UNC_rg a b (as i) d) (fun d hd => by
    show -50000 ≤ OWC a b d ∧ OWC a b d ≤ 50000
    rw [AL_ow hb h (by omega)]
    exact AL_owb hb h d) p3.1 p3.2.1 p3.2.2 q5 (MAXV_cg hA hW q3) (due := due) (GRD_cg (Nat.le_refl m) hA hW q4)
  have sc := gSend_congr (as := as) (as2 := as2) (r := R) (r2 := q) (w := a 0 0) (B := BNV (f_X3_landOf a b) (a 56 3)) (v := cvC a) (n := m) eas e
  have sb := gSend_B (as := as2) (R := q) (B := BNV (f_X3_landOf a b) (a 56 3)) (B2 := BNVr (ldR a) (a 171 3)) h.2.2.1 w.1 (fun u f t hu f0 t0 => BN_eq hu w.2 (fun m m0 m1 => AL_ld hb m0 m1) f0 t0 (h.2.2.2.2.1 3 (by decide))) m (by omega) (fun i hi => by
    refine ⟨by rw [← eas i hi]; exact asr i hi, ?_⟩
    rw [← e i hi]
    rcases p3.1.1 i hi with z | z
    · exact Or.inl z
    · exact Or.inr z.1)
  refine ⟨by rw [p4, q6, sc.2], ?_, ?_, ?_, ?_⟩
  · rw [p5, q7, sc.1, sb.1, ← h.1, ← hb.2.1]
  · rw [p5, sc.1]; exact sb.2.1
  · rw [p5, sc.1]; exact sb.2.2.1
  · rw [p5, sc.1]; exact sb.2.2.2
