/-! the other commands, alike -/
def LVp (a : Nat → Nat → Int) (x1 : Int) : Prop := 0 ≤ x1 ∧ x1 < a 4 6 ∧ ¬ a 10 x1.toNat = 0
theorem ST_leave {a a1 a2 : Nat → Nat → Int} (hb : BAS a) (hs : STR a) (cl : CLS a a1) (rf : RFS a1 a2) (kf : KFD a a1) (kfr : KFDr a1 a2) (kb : KB a a1) (kbr : KBr a1 a2) (kl : KLS a a1) (klr : KLSr a1 a2) (e83 : a1 83 6 = a 83 6 ∧ a1 83 7 = a 83 7) (e84 : a1 84 = a 84 ∧ a1 85 = a 85 ∧ a1 86 = a 86) (er : a2 146 49 = a1 146 49 ∧ a2 146 55 = a1 146 55 ∧ a2 178 = a1 178 ∧ a2 179 = a1 179 ∧ a2 180 = a1 180 ∧ a2 182 = a1 182) {x1 r r2 : Int}
    (p1 : LVp a x1 → ((cvC a1, a1 9, r), a1 87) = lvo (a 0 0) x1 (rup (a 10) x1.toNat 0) (a 84) (a 89) (a 83 6).toNat (cnc (a 0 0) x1 (a 58 8).toNat (cvC a, a 9, 0), a 87) ∧ a1 10 = rup (a 10) x1.toNat 0 ∧ ∀ k : Nat, a1 87 k = 1 → a1 88 k = a 88 k ∧ a1 89 k = a 89 k ∧ a 87 k = 1)
    (p0 : ¬ LVp a x1 → r = -1 ∧ cvC a1 = cvC a ∧ a1 9 = a 9 ∧ a1 87 = a 87 ∧ a1 88 = a 88 ∧ a1 89 = a 89 ∧ a1 10 = a 10)
    (q1 : (0 ≤ x1 ∧ x1 < a1 146 2 ∧ ¬ a1 152 x1.toNat = 0) → ((cvR a2, a2 153, r2), a2 181) = lvo (a1 146 0) x1 (rup (a1 152) x1.toNat 0) (a1 178) (fun n => CRDF (a1 158) (a1 154) (a1 182 n) (a1 178 n) (a1 146 9).toNat) (a1 146 49).toNat (cnc (a1 146 0) x1 (a1 146 9).toNat (cvR a1, a1 153, 0), a1 181) ∧ a2 152 = rup (a1 152) x1.toNat 0 ∧ ∀ k : Nat, a2 181 k = 1 → a1 181 k = 1)
    (q0 : ¬ (0 ≤ x1 ∧ x1 < a1 146 2 ∧ ¬ a1 152 x1.toNat = 0) → r2 = -1 ∧ cvR a2 = cvR a1 ∧ a2 153 = a1 153 ∧ a2 181 = a1 181 ∧ a2 152 = a1 152) : r = r2 ∧ STR a2 := by
  obtain ⟨h, o, f, l⟩ := hs
  have w := AL_w hb
  have e10 : a 10 = a 152 := funext fun j => (hb.2.2.2.1 j).2.2.2.2
  have cond : LVp a x1 ↔ (0 ≤ x1 ∧ x1 < a1 146 2 ∧ ¬ a1 152 x1.toNat = 0) := by
    unfold LVp
    rw [cl 146 (by decide), cl 152 (by decide), ← hb.2.2.1, e10]
  by_cases c : LVp a x1
  · obtain ⟨s1, s2, s3⟩ := p1 c
    obtain ⟨t1, t2, t3⟩ := q1 (cond.1 c)
    have rr : (fun n => CRDF (a1 158) (a1 154) (a1 182 n) (a1 178 n) (a1 146 9).toNat) = fun n => CRD (cvC a) (a 182 n) (a 84 n) := funext fun n => by
      rw [cl 158 (by decide), cl 154 (by decide), cl 182 (by decide), cl 178 (by decide), cl 146 (by decide), ← o.1.2.1, h.1]
      rfl
    rw [rr, cl 146 (by decide), cl 152 (by decide), cl 178 (by decide), cl 153 (by decide), cl 181 (by decide), cvR_cl cl, ← e10, ← o.1.1, ← o.1.2.1, ← o.1.2.2.2.2, ← h.1, ← h.2.1, ← hb.2.1, ← (AL_n h).1] at t1
    have cg := lvo_cg (w := a 0 0) (m := x1) (th := rup (a 10) x1.toNat 0) (mem := a 84) (cd := a 89) (cd2 := fun n => CRD (cvC a) (a 182 n) (a 84 n)) (s := (cnc (a 0 0) x1 (a 58 8).toNat (cvC a, a 9, 0), a 87)) (a 83 6).toNat (fun j hj hj1 => by
      obtain ⟨z1, z2, z3, z4⟩ := o.2.2.2.1 j hj1
      rw [z4, z1])
    rw [← cg, ← s1] at t1
    have u1 : cvR a2 = cvC a1 := congrArg (fun s : S3 × (Nat → Int) => s.1.1) t1
    have u2 : a2 153 = a1 9 := congrArg (fun s : S3 × (Nat → Int) => s.1.2.1) t1
    have u3 : r2 = r := congrArg (fun s : S3 × (Nat → Int) => s.1.2.2) t1
    have u4 : a2 181 = a1 87 := congrArg (fun s : S3 × (Nat → Int) => s.2) t1
    have nn := CI_n h.2.2.1
    have fi0 : FI (cvC a) (a 4 6) (a 0 0) (cvC a, a 9, 0) := ⟨h.2.2.1, h.2.2.2.1, rfl, rfl, rfl⟩
    have fi1 := FI_cnc (m := x1) w.1 fi0 (a 58 8).toNat (by show ((vN (cvC a)).toNat : Int) ≤ vN (cvC a); omega)
    have fi := FI_lvo (m := x1) w.1 (th := rup (a 10) x1.toNat 0) (mem := a 84) (cd := a 89) (s := (cnc (a 0 0) x1 (a 58 8).toNat (cvC a, a 9, 0), a 87)) fi1 (a 83 6).toNat
    rw [← s1] at fi
    have e0 : ∀ j : Nat, a 83 6 ≤ (j : Int) → a1 87 j = 0 := fun j hj => by
      have z := congrArg (fun s : S3 × (Nat → Int) => s.2) s1
      have z2 : a1 87 = _ := z
      rw [z2]
      show (lvo (a 0 0) x1 (rup (a 10) x1.toNat 0) (a 84) (a 89) (a 83 6).toNat (cnc (a 0 0) x1 (a 58 8).toNat (cvC a, a 9, 0), a 87)).2 j = 0
      rw [lvo_row _ j (by omega)]
      exact o.2.1 j hj
    exact ⟨u3.symm, ST_lv ⟨h, o, f, l⟩ cl rf kf kfr kb kbr kl klr e83 e84 er u4.symm e0 s3 u1.symm u2.symm fi⟩
  · obtain ⟨s1, s2, s3, s4, s5, s6, s7⟩ := p0 c
    obtain ⟨t1, t2, t3, t4, t5⟩ := q0 (fun z => c (cond.2 z))
    refine ⟨by omega, ST_lv (k := 0) ⟨h, o, f, l⟩ cl rf kf kfr kb kbr kl klr e83 e84 er (by rw [s4, t4, cl 181 (by decide), o.1.2.2.2.2]) (fun j hj => by rw [s4]; exact o.2.1 j hj) (fun j hj => ⟨by rw [s5], by rw [s6], by rw [← s4]; exact hj⟩) (by rw [s2, t2, cvR_cl cl, h.1]) (by rw [s3, t3, cl 153 (by decide), h.2.1]) ?_⟩
    rw [s2, s3]
    exact ⟨h.2.2.1, h.2.2.2.1, rfl, rfl, rfl⟩
def FOk (a : Nat → Nat → Int) (x1 x2 : Int) : Int := FOF (a 87) (a 88) (a 84) x1 x2 (a 83 6).toNat
def FOkr (a : Nat → Nat → Int) (x1 x2 : Int) : Int := FOF (a 181) (a 182) (a 178) x1 x2 (a 146 49).toNat
theorem ST_drop {a a1 a2 : Nat → Nat → Int} (hb : BAS a) (hs : STR a) (cl : CLS a a1) (rf : RFS a1 a2) (kf : KFD a a1) (kfr : KFDr a1 a2) (kb : KB a a1) (kbr : KBr a1 a2) (kl : KLS a a1) (klr : KLSr a1 a2) (e83 : a1 83 6 = a 83 6 ∧ a1 83 7 = a 83 7) (e84 : a1 84 = a 84 ∧ a1 85 = a 85 ∧ a1 86 = a 86) (er : a2 146 49 = a1 146 49 ∧ a2 146 55 = a1 146 55 ∧ a2 178 = a1 178 ∧ a2 179 = a1 179 ∧ a2 180 = a1 180 ∧ a2 182 = a1 182) {x1 x2 r r2 : Int}
    (p0 : FOk a x1 x2 = -1 → r = -1 ∧ cvC a1 = cvC a ∧ a1 9 = a 9 ∧ a1 87 = a 87 ∧ a1 88 = a 88 ∧ a1 89 = a 89)
    (p1 : ¬ FOk a x1 x2 = -1 → (cvC a1, a1 9, r) = wdr (a 0 0) (a 10) (a 89 (FOk a x1 x2).toNat) (cvC a, a 9, 0) ∧ a1 87 = rup (a 87) (FOk a x1 x2).toNat 2 ∧ a1 88 = rup (a 88) (FOk a x1 x2).toNat (-1) ∧ a1 89 = rup (a 89) (FOk a x1 x2).toNat (-1))
    (q2 : 0 ≤ a1 146 55 → a1 146 55 ≤ 1000 → ¬ (0 ≤ x1 ∧ x1 < a1 146 55 ∧ 0 ≤ x2 ∧ x2 < a1 146 2) → r2 = -1 ∧ cvR a2 = cvR a1 ∧ a2 153 = a1 153 ∧ a2 181 = a1 181)
    (q0 : 0 ≤ a1 146 55 → a1 146 55 ≤ 1000 → (0 ≤ x1 ∧ x1 < a1 146 55 ∧ 0 ≤ x2 ∧ x2 < a1 146 2) → FOkr a1 x1 x2 = -1 → r2 = -1 ∧ cvR a2 = cvR a1 ∧ a2 153 = a1 153 ∧ a2 181 = a1 181)
    (q1 : 0 ≤ a1 146 55 → a1 146 55 ≤ 1000 → (0 ≤ x1 ∧ x1 < a1 146 55 ∧ 0 ≤ x2 ∧ x2 < a1 146 2) → ¬ FOkr a1 x1 x2 = -1 → (cvR a2, a2 153, r2) = wdr (a1 146 0) (a1 152) (CRDF (a1 158) (a1 154) (a1 182 (FOkr a1 x1 x2).toNat) (a1 178 (FOkr a1 x1 x2).toNat) (a1 146 9).toNat) (cvR a1, a1 153, 0) ∧ a2 181 = rup (a1 181) (FOkr a1 x1 x2).toNat 2) : r = r2 ∧ STR a2 := by
  obtain ⟨h, o, f, l⟩ := hs
  have w := AL_w hb
  have nn := CI_n h.2.2.1
  have n8 : vN (cvC a) = a 58 8 := rfl
  have e10 : a 10 = a 152 := funext fun j => (hb.2.2.2.1 j).2.2.2.2
  obtain ⟨⟨o1, o2, o3, o4, o5⟩, o6, o7, o8, o9, o10, o11⟩ := o
  have r146 : a1 146 = a 146 := cl 146 (by decide)
  have b0 : 0 ≤ a1 146 55 := by rw [r146, ← o9]; exact o10.1
  have b1 : a1 146 55 ≤ 1000 := by rw [r146, ← o9]; omega
  have rg := FOF_rg (a 87) (a 88) (a 84) x1 x2 (a 83 6).toNat
  have ek : FOkr a1 x1 x2 = FOk a x1 x2 := by
    unfold FOkr FOk
    rw [cl 181 (by decide), cl 182 (by decide), cl 178 (by decide), r146, ← o1, ← o2, ← o5]
    refine FOF_congr (fun i hi => ?_)
    constructor
    · rintro ⟨z1, z2, z3⟩
      exact ⟨z1, by rw [(o8 i z1).1]; exact z2, z3⟩
    · rintro ⟨z1, z2, z3⟩
      exact ⟨z1, by rw [← (o8 i z1).1]; exact z2, z3⟩
  have no : r = -1 → cvC a1 = cvC a → a1 9 = a 9 → a1 87 = a 87 → a1 88 = a 88 → a1 89 = a 89 → r2 = -1 → cvR a2 = cvR a1 → a2 153 = a1 153 → a2 181 = a1 181 → r = r2 ∧ STR a2 := fun s1 s2 s3 s4 s5 s6 t1 t2 t3 t4 => by
    refine ⟨by omega, ST_lv (k := 0) ⟨h, ⟨⟨o1, o2, o3, o4, o5⟩, o6, o7, o8, o9, o10, o11⟩, f, l⟩ cl rf kf kfr kb kbr kl klr e83 e84 er (by rw [s4, t4, cl 181 (by decide), o5]) (fun j hj => by rw [s4]; exact o6 j hj) (fun j hj => ⟨by rw [s5], by rw [s6], by rw [← s4]; exact hj⟩) (by rw [s2, t2, cvR_cl cl, h.1]) (by rw [s3, t3, cl 153 (by decide), h.2.1]) ?_⟩
    rw [s2, s3]
    exact ⟨h.2.2.1, h.2.2.2.1, rfl, rfl, rfl⟩
  by_cases c : FOk a x1 x2 = -1
  · obtain ⟨s1, s2, s3, s4, s5, s6⟩ := p0 c
    by_cases d : 0 ≤ x1 ∧ x1 < a1 146 55 ∧ 0 ≤ x2 ∧ x2 < a1 146 2
    · obtain ⟨t1, t2, t3, t4⟩ := q0 b0 b1 d (by rw [ek]; exact c)
      exact no s1 s2 s3 s4 s5 s6 t1 t2 t3 t4
    · obtain ⟨t1, t2, t3, t4⟩ := q2 b0 b1 d
      exact no s1 s2 s3 s4 s5 s6 t1 t2 t3 t4
  · obtain ⟨s1, s2, s3, s4⟩ := p1 c
    have g := rg.resolve_left c
    change 0 ≤ FOk a x1 x2 ∧ FOk a x1 x2 < _ ∧ a 87 (FOk a x1 x2).toNat = 1 ∧ a 88 (FOk a x1 x2).toNat = x1 ∧ a 84 (FOk a x1 x2).toNat = x2 at g
    have rk := o8 _ g.2.2.1
    have mk := o7 (FOk a x1 x2).toNat (by omega)
    obtain ⟨z1, z2, z3, z4⟩ := rk
    have d : 0 ≤ x1 ∧ x1 < a1 146 55 ∧ 0 ≤ x2 ∧ x2 < a1 146 2 := by
      rw [r146, ← o9, ← hb.2.2.1]
      refine ⟨?_, ?_, ?_, ?_⟩ <;> omega
    obtain ⟨t1, t2⟩ := q1 b0 b1 d (by rw [ek]; exact c)
    have rr : CRDF (a1 158) (a1 154) (a1 182 (FOkr a1 x1 x2).toNat) (a1 178 (FOkr a1 x1 x2).toNat) (a1 146 9).toNat = a 89 (FOk a x1 x2).toNat := by
      rw [ek, cl 158 (by decide), cl 154 (by decide), cl 182 (by decide), cl 178 (by decide), r146, z4, ← z1, ← o2, h.1]
      rfl
    rw [rr, r146, cl 152 (by decide), cl 153 (by decide), cvR_cl cl, ← e10, ← h.1, ← h.2.1, ← hb.2.1, ← s1] at t1
    rw [ek, cl 181 (by decide), ← o5] at t2
    have u1 : cvR a2 = cvC a1 := congrArg (fun s : S3 => s.1) t1
    have u2 : a2 153 = a1 9 := congrArg (fun s : S3 => s.2.1) t1
    have u3 : r2 = r := congrArg (fun s : S3 => s.2.2) t1
    have fi0 : FI (cvC a) (a 4 6) (a 0 0) (cvC a, a 9, 0) := ⟨h.2.2.1, h.2.2.2.1, rfl, rfl, rfl⟩
    have fi := FI_wdr (c := a 89 (FOk a x1 x2).toNat) w.1 (th := a 10) fi0
    rw [← s1] at fi
    refine ⟨u3.symm, ST_lv ⟨h, ⟨⟨o1, o2, o3, o4, o5⟩, o6, o7, o8, o9, o10, o11⟩, f, l⟩ cl rf kf kfr kb kbr kl klr e83 e84 er (by rw [s2, t2]) (fun j hj => by rw [s2, rup_ne (by omega)]; exact o6 j hj) (fun j hj => ?_) u1.symm u2.symm fi⟩
    rw [s2] at hj
    by_cases e : j = (FOk a x1 x2).toNat
    · rw [e, rup_at] at hj; exact absurd hj (by decide)
    · rw [rup_ne e] at hj
      rw [s3, s4, rup_ne e, rup_ne e]
      exact ⟨rfl, rfl, hj⟩
/-- cards and rules stay, or the clock goes on, or members come -/
theorem ALK_mk {a a1 a2 : Nat → Nat → Int} (h : ALK a) (cl : CLS a a1) (rf : RFS a1 a2) (ev : cvC a1 = cvC a) (er : cvR a2 = cvR a1) (e9 : a1 9 = a 9) (e153 : a2 153 = a1 153) (e46 : a 4 6 ≤ a1 4 6) (e00 : a 0 0 ≤ a1 0 0) (ru : RLE a2) : ALK a2 := by
  obtain ⟨p1, p2, p3, p4, p5⟩ := h
  have c2 : cvC a2 = cvC a := (cvC_rf rf).trans ev
  refine ⟨by rw [c2, er, cvR_cl cl, p1], by rw [rf 9 (by decide), e9, e153, cl 153 (by decide), p2], ?_, ?_, ru⟩
  · unfold CIC
    rw [c2, rf 4 (by decide), rf 0 (by decide)]
    exact CI_le p3 e46 e00
  · rw [c2, rf 9 (by decide), e9, rf 4 (by decide)]
    exact ⟨p4.1, fun j hj => p4.2 j (by omega)⟩
theorem OFR_same {a a1 a2 : Nat → Nat → Int} (h : OFR a) (cl : CLS a a1) (rf : RFS a1 a2) (ko : KOF a a1) (kor : KOFr a1 a2) (ev : cvC a1 = cvC a) (e46 : a 4 6 ≤ a1 4 6) : OFR a2 := by
  obtain ⟨⟨h1, h2, h3, h4, h5⟩, h6, h7, h8, h9, h10, h11⟩ := h
  have c2 : cvC a2 = cvC a := (cvC_rf rf).trans ev
  have r83 : a2 83 = a1 83 := rf 83 (by decide)
  have e6 : a2 83 6 = a 83 6 := by rw [r83]; exact ko.1
  have e7 : a2 83 7 = a 83 7 := by rw [r83]; exact ko.2.1
  have row : ∀ k, 84 ≤ k → k ≤ 89 → a2 k = a k := fun k k1 k2 => by rw [rf k (by omega), ko.2.2 k k1 k2]
  have rowr : ∀ k, 178 ≤ k → k ≤ 182 → a2 k = a k := fun k k1 k2 => by rw [kor.2.2 k k1 k2, cl k (by omega)]
  have e49 : a2 146 49 = a 146 49 := by rw [kor.1, cl 146 (by decide)]
  have e55 : a2 146 55 = a 146 55 := by rw [kor.2.1, cl 146 (by decide)]
  have n2 : a2 58 8 = a 58 8 := congrArg vN c2
  refine ⟨⟨by rw [e6, e49, h1], by rw [row 84 (by decide) (by decide), rowr 178 (by decide) (by decide), h2], by rw [row 85 (by decide) (by decide), rowr 179 (by decide) (by decide), h3], by rw [row 86 (by decide) (by decide), rowr 180 (by decide) (by decide), h4], by rw [row 87 (by decide) (by decide), rowr 181 (by decide) (by decide), h5]⟩, fun j hj => ?_, fun j hj => ?_, fun j hj => ?_, by rw [e7, e55, h9], by rw [e7, n2]; exact h10, by rw [c2, e7]; exact h11⟩
  · rw [row 87 (by decide) (by decide)]
    exact h6 j (by rw [← e6]; exact hj)
  · have z := h7 j (by rw [← e6]; exact hj)
    rw [row 84 (by decide) (by decide), rf 4 (by decide)]
    omega
  · rw [row 87 (by decide) (by decide)] at hj
    unfold RGO
    rw [row 88 (by decide) (by decide), row 89 (by decide) (by decide), row 84 (by decide) (by decide), rowr 182 (by decide) (by decide), e7, c2]
    exact h8 j hj
theorem LST8_le {a a1 a2 : Nat → Nat → Int} (h : LST8 a) (cl : CLS a a1) (rf : RFS a1 a2) (kl : KLS a a1) (klr : KLSr a1 a2) (e46 : a 4 6 ≤ a1 4 6) : LST8 a2 := by
  have e1 : a2 0 9 = a 0 9 := by rw [rf 0 (by decide)]; exact kl.1
  have e2 : a2 76 = a 76 := by rw [rf 76 (by decide), kl.2]
  have e3 : a2 146 42 = a 146 42 := by rw [klr.1, cl 146 (by decide)]
  have e4 : a2 173 = a 173 := by rw [klr.2, cl 173 (by decide)]
  refine ⟨by rw [e1, e3]; exact h.1, fun i hi => ?_⟩
  have z := h.2 i (by rw [← e1]; exact hi)
  rw [e2, e4, rf 4 (by decide)]
  exact ⟨z.1, z.2.1, by omega⟩
/-- the clock, members, rules -/
theorem ST_on {a a1 a2 : Nat → Nat → Int} (hs : STR a) (cl : CLS a a1) (rf : RFS a1 a2) (ko : KOF a a1) (kor : KOFr a1 a2) (kf : KFD a a1) (kfr : KFDr a1 a2) (kl : KLS a a1) (klr : KLSr a1 a2) (ev : cvC a1 = cvC a) (er : cvR a2 = cvR a1) (e9 : a1 9 = a 9) (e153 : a2 153 = a1 153) (e46 : a 4 6 ≤ a1 4 6) (e00 : a 0 0 ≤ a1 0 0) (ru : RLE a2) : STR a2 :=
  ⟨ALK_mk hs.1 cl rf ev er e9 e153 e46 e00 ru, OFR_same hs.2.1 cl rf ko kor ev e46, FDR_mk hs.2.2.1 cl rf kf kfr (by rw [ko.1]; exact Int.le_refl _) (fun j _ => by rw [ko.2.2 84 (by decide) (by decide)]), LST8_le hs.2.2.2 cl rf kl klr e46⟩
/-- the list -/
theorem LSP_det {n n1 m m1 nm nm2 x r r2 : Int} {row row1 rw2 rw3 : Nat → Int} (h : LSP n n1 row row1 nm x r) (h2 : LSP m m1 rw2 rw3 nm2 x r2) (e : n = m) (en : nm = nm2) (er : ∀ i : Nat, (i : Int) < n → row i = rw2 i) (h0 : 0 ≤ n) : r = r2 ∧ n1 = m1 ∧ (∀ i : Nat, (i : Int) < n1 → row1 i = rw3 i ∧ (row1 i = x ∧ 0 ≤ x ∧ x < nm ∨ (i : Int) < n ∧ row1 i = row i)) := by
  subst e
  subst en
  have c : LOK n row nm x ↔ LOK n rw2 nm x := ⟨fun z => ⟨z.1, z.2.1, z.2.2.1, fun i hi => by rw [← er i hi]; exact z.2.2.2 i hi⟩, fun z => ⟨z.1, z.2.1, z.2.2.1, fun i hi => by rw [er i hi]; exact z.2.2.2 i hi⟩⟩
  rcases h with ⟨p1, p2, p3, p4⟩ | ⟨p1, p2, p3, p4⟩
  · rcases h2 with ⟨q1, q2, q3, q4⟩ | ⟨q1, _⟩
    · refine ⟨by omega, by omega, fun i hi => ?_⟩
      rw [p4, q4]
      by_cases d : i = n.toNat
      · rw [d, rup_at, rup_at]; exact ⟨rfl, Or.inl ⟨rfl, p1.1, p1.2.1⟩⟩
      · rw [rup_ne d, rup_ne d]; exact ⟨er i (by omega), Or.inr ⟨by omega, rfl⟩⟩
    · exact absurd (c.1 p1) q1
  · rcases h2 with ⟨q1, _⟩ | ⟨q1, q2, q3, q4⟩
    · exact absurd (c.2 q1) p1
    · refine ⟨by omega, by omega, fun i hi => ?_⟩
      rw [p4, q4]
      exact ⟨er i (by omega), Or.inr ⟨by omega, rfl⟩⟩
theorem ST_list {a a1 a2 : Nat → Nat → Int} (hb : BAS a) (hs : STR a) (fr : FRS a a1 a2) (k9 : a1 9 = a 9) (k153 : a2 153 = a1 153) (ev : cvC a1 = cvC a) (er : cvR a2 = cvR a1) {x r r2 : Int} (h1 : LSP (a 0 9) (a1 0 9) (a 76) (a1 76) (a 4 6) x r) (h2 : LSP (a1 146 42) (a2 146 42) (a1 173) (a2 173) (a1 146 2) x r2) : r = r2 ∧ STR a2 := by
  obtain ⟨cl, rf, ko, kor, kf, kfr, kb, kbr⟩ := fr
  have l := hs.2.2.2
  rw [cl 146 (by decide), cl 173 (by decide)] at h2
  have i9 := iv_get hb.1 (k := 0) (j := 9) (l := 0) (u := 8) rfl
  obtain ⟨d1, d2, d3⟩ := LSP_det h1 h2 l.1 hb.2.2.1 (fun i hi => (l.2 i hi).1) i9.1
  refine ⟨d1, ST_mk hs cl rf ko kor kf kfr kb kbr k9 k153 (by rw [ev, er, cvR_cl cl, hs.1.1]) (by rw [ev]; exact hs.1.2.2.1) (by rw [ev]) (by rw [ev]; exact NRC_rf _) ⟨by rw [rf 0 (by decide)]; exact d2, fun i hi => ?_⟩⟩
  rw [rf 0 (by decide)] at hi
  have z := d3 i hi
  rw [rf 76 (by decide), rf 4 (by decide), kb.2.1]
  refine ⟨z.1, ?_⟩
  rcases z.2 with ⟨e, e1, e2⟩ | ⟨e, e1⟩
  · rw [e]; exact ⟨e1, e2⟩
  · rw [e1]
    exact (l.2 i e).2
