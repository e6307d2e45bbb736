/-! the two sides alike: what a world in common gives -/
def RLE (a : Nat → Nat → Int) : Prop := (∀ k, k < 5 → a 56 k = a 171 k) ∧ 0 ≤ a 56 1
/-- cancelled cards -/
def ofF (v : CV) (c : Nat) : Int := if vOf v c = -1 then 0 else 1
def OFN (v : CV) : Int := SUMN (ofF v) (vN v).toNat
def CRB (v : CV) (cr : Nat → Int) (nm : Int) : Prop := (∀ j, 0 ≤ cr j ∧ cr j ≤ OFN v) ∧ ∀ j : Nat, nm ≤ (j : Int) → cr j = 0
def ALK (a : Nat → Nat → Int) : Prop := cvC a = cvR a ∧ a 9 = a 153 ∧ CIC a ∧ CRB (cvC a) (a 9) (a 4 6) ∧ RLE a
def BAS (a : Nat → Nat → Int) : Prop := iv a ∧ a 0 0 = a 146 0 ∧ a 4 6 = a 146 2 ∧ MEMR a ∧ FARR a ∧ WISHR a
theorem OFN_rg {v : CV} {nm w : Int} (h : CI v nm w) : 0 ≤ OFN v ∧ OFN v ≤ 300 := by
  have q := SUMN_bd (f := ofF v) (n := (vN v).toNat) (fun k _ => by unfold ofF; split <;> omega)
  have n := CI_n h
  unfold OFN
  omega
theorem AL_n {a : Nat → Nat → Int} (h : ALK a) : a 58 8 = a 146 9 ∧ a 58 12 = a 146 17 := ⟨congrArg vN h.1, congrArg vT h.1⟩
theorem AL_nm {a : Nat → Nat → Int} (h : BAS a) : 0 ≤ a 4 6 ∧ a 4 6 ≤ 40 := iv_get h.1 (k := 4) (j := 6) (l := 0) (u := 40) rfl
theorem AL_has {a b : Nat → Nat → Int} {x : Int} (x0 : 0 ≤ x) (x1 : x < a 4 6) (h40 : a 4 6 ≤ 40) : f_X3_has a b x = 1 := by
  unfold f_X3_has
  rw [if_neg (show ¬ x < 0 by omega), if_pos x1, if_pos (show x < 40 by omega)]
theorem AL_kin {a b b2 : Nat → Nat → Int} (h : BAS a) {x y : Int} (x0 : 0 ≤ x) (x1 : x < a 4 6) (y0 : 0 ≤ y) (y1 : y < a 4 6) : f_X3_areKin a b x y = f_X12_isKin a b2 x y := by
  have n := AL_nm h
  have hx := (h.2.2.2.1 x.toNat).2.2.1
  have hy := (h.2.2.2.1 y.toNat).2.2.1
  have i := iv_get h.1 (k := 150) (j := x.toNat) (l := -1) (u := 19) rfl
  unfold f_X3_areKin f_X12_isKin f_X12_isKin_at29 f_X12_isKin_at33 f_X3_areKin_at31 f_X3_areKin_at50
  rw [AL_has x0 x1 n.2, AL_has y0 y1 n.2, if_neg (show ¬ (1 : Int) = 0 by decide), hx, hy]
  by_cases c : x = y
  · rw [if_pos c, if_pos c]
  · rw [if_neg c, if_neg c, if_neg (show ¬ (1 : Int) = 0 by decide)]
    by_cases d : a 150 x.toNat = -1
    · rw [if_pos d, if_pos (by omega)]
    · rw [if_neg d, if_neg (show ¬ a 150 x.toNat < 0 by omega)]
theorem AL_there {a b : Nat → Nat → Int} (h : BAS a) {x : Int} (x0 : 0 ≤ x) (x1 : x < a 4 6) : f_X3_isThere a b x = if a 152 x.toNat = 0 then 0 else 1 := by
  unfold f_X3_isThere
  rw [AL_has x0 x1 (AL_nm h).2, if_neg (show ¬ (1 : Int) = 0 by decide), (h.2.2.2.1 x.toNat).2.2.2.2]
theorem AL_card {a : Nat → Nat → Int} (hb : BAS a) (h : ALK a) {c : Nat} (hc : (c : Int) < a 58 8) : (0 ≤ a 59 c ∧ a 59 c < a 4 6) ∧ (0 ≤ a 60 c ∧ a 60 c < a 4 6) := by
  have q := CI_c h.2.2.1 (c := c) hc
  exact ⟨q.1, q.2.1⟩
theorem HAS_P (s : Int) : HAS s = 1 ↔ hasP s := by
  unfold HAS hasP
  by_cases c : s = 1
  · rw [if_pos c]; exact ⟨fun _ => Or.inl c, fun _ => rfl⟩
  · by_cases d : s = 3
    · rw [if_neg c, if_pos d]; exact ⟨fun _ => Or.inr d, fun _ => rfl⟩
    · rw [if_neg c, if_neg d]
      exact ⟨fun z => absurd z (by decide), fun z => by rcases z with z | z <;> contradiction⟩
theorem AL_tF {a b : Nat → Nat → Int} (hb : BAS a) (h : ALK a) {k : Nat} {m : Int} {p : Int → Prop} {c : Nat} (hc : (c : Int) < a 58 8) : tF a b (a 0 0) m k p c = @ite Int (a k c = m ∧ p (vSt (cvC a) (a 0 0) c)) (Classical.propDecidable _) 1 0 := by
  have q := AL_card hb h hc
  have n := AL_nm hb
  have v : tVl a c := by unfold tVl; omega
  unfold tF
  rw [stNow_eq h.2.2.1 hc]
  by_cases z : a k c = m ∧ p (vSt (cvC a) (a 0 0) c)
  · rw [if_pos z, if_pos ⟨v, z.1.symm, z.2⟩]
  · rw [if_neg z, if_neg (fun w => z ⟨w.2.1.symm, w.2.2⟩)]
theorem AL_sG {a b : Nat → Nat → Int} (hb : BAS a) (h : ALK a) (m : Int) : sG a b m = SUMN (gvF (cvR a) (a 146 0) m) (a 146 9).toNat := by
  unfold sG
  rw [← (AL_n h).1, ← h.1, ← hb.2.1]
  refine SUMN_congr (fun c hc => ?_)
  rw [AL_tF hb h (by omega)]
  unfold gvF
  show _ = if a 59 c = m then HAS _ else 0
  have hp := HAS_P (vSt (cvC a) (a 0 0) c)
  have hr := HAS_rg (vSt (cvC a) (a 0 0) c)
  by_cases z : a 59 c = m
  · rw [if_pos z]
    by_cases w : hasP (vSt (cvC a) (a 0 0) c)
    · rw [if_pos ⟨z, w⟩, hp.2 w]
    · rw [if_neg (fun u => w u.2)]
      have : ¬ HAS (vSt (cvC a) (a 0 0) c) = 1 := fun u => w (hp.1 u)
      omega
  · rw [if_neg z, if_neg (fun u => z u.1)]
theorem AL_sT {a b : Nat → Nat → Int} (hb : BAS a) (h : ALK a) (m : Int) : sT a b m = SUMN (gtF (cvR a) (a 146 0) m) (a 146 9).toNat := by
  unfold sT
  rw [← (AL_n h).1, ← h.1, ← hb.2.1]
  refine SUMN_congr (fun c hc => ?_)
  rw [AL_tF hb h (by omega)]
  unfold gtF
  show _ = if a 60 c = m then HAS _ else 0
  have hp := HAS_P (vSt (cvC a) (a 0 0) c)
  have hr := HAS_rg (vSt (cvC a) (a 0 0) c)
  by_cases z : a 60 c = m
  · rw [if_pos z]
    by_cases w : hasP (vSt (cvC a) (a 0 0) c)
    · rw [if_pos ⟨z, w⟩, hp.2 w]
    · rw [if_neg (fun u => w u.2)]
      have : ¬ HAS (vSt (cvC a) (a 0 0) c) = 1 := fun u => w (hp.1 u)
      omega
  · rw [if_neg z, if_neg (fun u => z u.1)]
theorem AL_sC {a b : Nat → Nat → Int} (hb : BAS a) (h : ALK a) (m : Int) : sC a b m = SUMN (cmF (cvR a) (a 146 0) m) (a 146 9).toNat := by
  unfold sC
  rw [← (AL_n h).1, ← h.1, ← hb.2.1]
  refine SUMN_congr (fun c hc => ?_)
  rw [AL_tF hb h (by omega)]
  unfold cmF
  show _ = if a 60 c = m then (if vSt (cvC a) (a 0 0) c = 0 then 1 else 0) else 0
  by_cases z : a 60 c = m
  · rw [if_pos z]
    by_cases w : vSt (cvC a) (a 0 0) c = 0
    · rw [if_pos ⟨z, w⟩, if_pos w]
    · rw [if_neg (fun u => w u.2), if_neg w]
  · rw [if_neg z, if_neg (fun u => z u.1)]
theorem AL_sO {a b : Nat → Nat → Int} (hb : BAS a) (h : ALK a) (m : Int) : sO a b m = SUMN (ohF (cvR a) (a 146 0) m 0) (a 146 9).toNat := by
  unfold sO
  rw [← (AL_n h).1, ← h.1, ← hb.2.1]
  refine SUMN_congr (fun c hc => ?_)
  rw [AL_tF hb h (by omega)]
  unfold ohF
  show _ = if a 59 c = m then (if vSt (cvC a) (a 0 0) c = 0 then 1 else 0) else 0
  by_cases z : a 59 c = m
  · rw [if_pos z]
    by_cases w : vSt (cvC a) (a 0 0) c = 0
    · rw [if_pos ⟨z, w⟩, if_pos w]
    · rw [if_neg (fun u => w u.2), if_neg w]
  · rw [if_neg z, if_neg (fun u => z u.1)]
theorem AL_cr {a b : Nat → Nat → Int} (hb : BAS a) (h : ALK a) {m : Int} (m0 : 0 ≤ m) : f_X3_creditOf a b m = a 153 m.toNat := by
  have n := AL_nm hb
  unfold f_X3_creditOf
  rw [← h.2.1]
  by_cases c : m < a 4 6
  · rw [AL_has m0 c n.2, if_neg (by decide)]
  · rw [h.2.2.2.1.2 m.toNat (by omega)]
    unfold f_X3_has
    rw [if_neg (show ¬ m < 0 by omega), if_neg c, if_pos rfl]
theorem AL_ow {a b : Nat → Nat → Int} (hb : BAS a) (h : ALK a) {m : Int} (m0 : 0 ≤ m) : OWC a b m = vOwR a m := by
  unfold OWC vOwR vOwed
  rw [AL_sG hb h, AL_sT hb h, AL_sC hb h, AL_cr hb h m0]
  rfl
theorem AL_owb {a : Nat → Nat → Int} (hb : BAS a) (h : ALK a) (m : Nat) : -50000 ≤ vOwR a m ∧ vOwR a m ≤ 50000 := by
  have n := CI_n h.2.2.1
  have o := OFN_rg h.2.2.1
  have c := h.2.2.2.1.1 m
  rw [h.2.1] at c
  have s1 := SUMN_bd (f := gvF (cvR a) (a 146 0) m) (n := (vN (cvR a)).toNat) (fun k _ => gvF_rg _ _ _ _)
  have s2 := SUMN_bd (f := gtF (cvR a) (a 146 0) m) (n := (vN (cvR a)).toNat) (fun k _ => gtF_rg _ _ _ _)
  have s3 := SUMN_bd (f := cmF (cvR a) (a 146 0) m) (n := (vN (cvR a)).toNat) (fun k _ => cmF_rg _ _ _ _)
  rw [h.1] at n
  unfold vOwR vOwed
  rw [Int.toNat_natCast, jxw_id (x := SUMN (gvF (cvR a) (a 146 0) m) (vN (cvR a)).toNat + a 153 m) (by omega) (by omega), jxw_id (x := SUMN (gvF (cvR a) (a 146 0) m) (vN (cvR a)).toNat + a 153 m - SUMN (gtF (cvR a) (a 146 0) m) (vN (cvR a)).toNat) (by omega) (by omega), jxw_id (by omega) (by omega)]
  omega
theorem AL_my {a b : Nat → Nat → Int} (hb : BAS a) (h : ALK a) {m : Int} (m0 : 0 ≤ m) (m1 : m < a 4 6) : MYC a b m = MYR a m := by
  have r := h.2.2.2.2.1
  have r1 := h.2.2.2.2.2
  unfold MYC MYR vMay
  rw [AL_there hb m0 m1, AL_sO hb h, AL_sG hb h, r 0 (by decide), r 1 (by decide)]
  rw [r 1 (by decide)] at r1
  by_cases c : a 152 m.toNat = 0
  · rw [if_pos c, if_pos c, if_pos rfl]
  · rw [if_neg c, if_neg c, if_neg (show ¬ (1 : Int) = 0 by decide)]
    by_cases d : a 171 1 = 0
    · rw [if_pos d, if_neg (show ¬ 0 < a 171 1 by omega)]
    · rw [if_neg d, if_pos (show 0 < a 171 1 by omega)]
theorem AL_un {a b b2 : Nat → Nat → Int} (hb : BAS a) {x y : Int} (x0 : 0 ≤ x) (x1 : x < a 4 6) (y0 : 0 ≤ y) (y1 : y < a 4 6) : UNC a b x y = UNR a b2 x y := by
  unfold UNC UNR
  rw [MET_eq (b2 := b2) hb.1 hb.2.2.2.2.2 hb.2.2.2.1 hb.2.2.2.2.1 hb.2.1 x0 x1 y0 y1, MET_eq (b2 := b2) hb.1 hb.2.2.2.2.2 hb.2.2.2.1 hb.2.2.2.2.1 hb.2.1 y0 y1 x0 x1]
theorem kin_sy {a b : Nat → Nat → Int} {x y : Int} : f_X12_isKin a b x y = 0 ↔ f_X12_isKin a b y x = 0 := ⟨isKin_symm a b x y, isKin_symm a b y x⟩
theorem AL_rb {a b b2 : Nat → Nat → Int} (hb : BAS a) (h : ALK a) {x : Int} (x0 : 0 ≤ x) (x1 : x < a 4 6) : ∀ n : Nat, (n : Int) ≤ a 58 8 → 0 ≤ RBC a b x n ∧ RBC a b x n < 1099511627776 ∧ ∀ y : Nat, y < 40 → (jxandl (jxshrl (RBC a b x n) (y : Int)) 1 = 1 ↔ ¬ RCR a b2 x y n = 0)
  | 0, _ => ⟨by show (0 : Int) ≤ 0; decide, by show (0 : Int) < _; decide, fun y hy => by
    show jxandl (jxshrl 0 (y : Int)) 1 = 1 ↔ ¬ (0 : Int) = 0
    rw [bitl_0 y (by omega)]
    decide⟩
  | n + 1, hn => by
    obtain ⟨i1, i2, i3⟩ := AL_rb (b := b) (b2 := b2) hb h x0 x1 n (by omega)
    have q := AL_card hb h (c := n) (by omega)
    have m := AL_nm hb
    have k := AL_kin (b := b) (b2 := b2) hb x0 x1 q.1.1 q.1.2
    have e1 : a 59 = a 154 := congrArg vFr h.1
    have e2 : a 60 = a 155 := congrArg vTo h.1
    show 0 ≤ (if f_X3_areKin a b x (a 59 n) = 0 then RBC a b x n else jxorl (RBC a b x n) (jxshll 1 (a 60 n))) ∧ (if f_X3_areKin a b x (a 59 n) = 0 then RBC a b x n else jxorl (RBC a b x n) (jxshll 1 (a 60 n))) < 1099511627776 ∧ ∀ y : Nat, y < 40 → (jxandl (jxshrl (if f_X3_areKin a b x (a 59 n) = 0 then RBC a b x n else jxorl (RBC a b x n) (jxshll 1 (a 60 n))) (y : Int)) 1 = 1 ↔ ¬ (if a 155 n = (y : Int) ∧ ¬ f_X12_isKin a b2 (a 154 n) x = 0 then 1 else RCR a b2 x y n) = 0)
    rw [k, ← e1, ← e2]
    by_cases c : f_X12_isKin a b2 x (a 59 n) = 0
    · rw [if_pos c]
      refine ⟨i1, i2, fun y hy => ?_⟩
      rw [if_neg (fun z => z.2 (kin_sy.1 c))]
      exact i3 y hy
    · rw [if_neg c]
      have e60 : ((a 60 n).toNat : Int) = a 60 n := by omega
      have o := orl_bit (x := RBC a b x n) (k := (a 60 n).toNat) i1 i2 (by omega)
      rw [e60] at o
      refine ⟨o.1, o.2.1, fun y hy => ?_⟩
      rw [o.2.2 y hy]
      by_cases d : a 60 n = (y : Int)
      · rw [if_pos ⟨d, fun z => c (kin_sy.1 z)⟩]
        exact ⟨fun _ => by decide, fun _ => Or.inr (by omega)⟩
      · rw [if_neg (fun z => d z.1), i3 y hy]
        exact ⟨fun z => z.resolve_right (by omega), fun z => Or.inl z⟩
theorem AL_mg {a b b2 : Nat → Nat → Int} (hb : BAS a) (h : ALK a) {x : Int} {y : Nat} (x0 : 0 ≤ x) (x1 : x < a 4 6) (y1 : (y : Int) < a 4 6) : MGC a b x y (RBC a b x (a 58 8).toNat) = MGR a b2 x y := by
  have n := AL_nm hb
  have nn := CI_n h.2.2.1
  have n8 : vN (cvC a) = a 58 8 := rfl
  have r := h.2.2.2.2.1
  have rb := (AL_rb (b := b) (b2 := b2) hb h x0 x1 (a 58 8).toNat (by omega))
  have rb3 := rb.2.2 y (by omega)
  have b01 := bitl_01 (k := y) rb.1 (by omega) (by omega)
  unfold MGC MGR
  rw [AL_there hb (by omega) y1, Int.toNat_natCast, AL_kin (b2 := b2) hb x0 x1 (by omega) y1, AL_ow hb h (by omega), AL_un (b2 := b2) hb x0 x1 (by omega) y1, r 2 (by decide), r 4 (by decide), ← (AL_n h).1]
  by_cases c : a 152 y = 0
  · rw [if_pos c, if_pos c, if_pos rfl]
  · rw [if_neg c, if_neg c, if_neg (show ¬ (1 : Int) = 0 by decide)]
    by_cases d : ¬ f_X12_isKin a b2 x (y : Int) = 0
    · rw [if_pos d, if_pos d]
    · rw [if_neg d, if_neg d]
      by_cases e : ¬ RCR a b2 x (y : Int) (a 58 8).toNat = 0
      · rw [if_pos e, if_pos (by rw [rb3.2 e]; decide)]
      · rw [if_neg e, if_neg (fun z => e (rb3.1 (b01.resolve_left z)))]
