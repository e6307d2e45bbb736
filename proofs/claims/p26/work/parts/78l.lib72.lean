/-! about, span: answers alike -/
theorem AL_sL {a b : Nat → Nat → Int} (hb : BAS a) (h : ALK a) (m : Int) : sL a b m = SUMN (ohF (cvR a) (a 146 0) m 2) (a 146 9).toNat := by
  unfold sL
  rw [← (AL_n h).1, ← h.1, ← hb.2.1]
  refine SUMN_congr (fun c hc => ?_)
  rw [AL_tF hb h (by omega)]
  unfold ohF
  show _ = if a 59 c = m then (if vSt (cvC a) (a 0 0) c = 2 then 1 else 0) else 0
  by_cases z : a 59 c = m
  · rw [if_pos z]
    by_cases w : vSt (cvC a) (a 0 0) c = 2
    · rw [if_pos ⟨z, w⟩, if_pos w]
    · rw [if_neg (fun u => w u.2), if_neg w]
  · rw [if_neg z, if_neg (fun u => z u.1)]
def ABC1 (a b : Nat → Nat → Int) (x1 x2 r : Int) : Prop := ∃ a1, jfr jWtk a a1 ∧ TSUM a b (a 0 0) a1 (a 58 8).toNat ∧ (x2 = 0 → r = f_X7_givenBy a1 b x1) ∧ (x2 = 1 → r = f_X7_gotBy a1 b x1) ∧ (x2 = 2 → r = f_X7_comingTo a1 b x1) ∧ (x2 = 3 → r = f_X7_outOf a1 b x1) ∧ (x2 = 4 → r = f_X3_creditOf a1 b x1) ∧ (x2 = 5 → r = f_X11_owed a1 b x1) ∧ (x2 = 6 → r = (if f_X11_mayAsk a1 b x1 = 0 then 0 else 1)) ∧ (x2 = 7 → r = f_X3_landOf a1 b x1) ∧ (x2 = 8 → r = (if f_X3_isThere a1 b x1 = 0 then 0 else 1)) ∧ (x2 = 9 → r = f_X3_cameOnOf a1 b x1) ∧ (x2 = 10 → r = f_X7_lostOf a1 b x1) ∧ (x2 < 0 ∨ 10 < x2 → r = -1)
def ABR1 (a : Nat → Nat → Int) (x1 x2 r : Int) : Prop := (x2 = 0 → r = SUMN (gvF (cvR a) (a 146 0) x1) (a 146 9).toNat) ∧ (x2 = 1 → r = SUMN (gtF (cvR a) (a 146 0) x1) (a 146 9).toNat) ∧ (x2 = 2 → r = SUMN (cmF (cvR a) (a 146 0) x1) (a 146 9).toNat) ∧ (x2 = 3 → r = SUMN (ohF (cvR a) (a 146 0) x1 0) (a 146 9).toNat) ∧ (x2 = 4 → r = a 153 x1.toNat) ∧ (x2 = 5 → r = vOwR a x1) ∧ (x2 = 6 → r = (if MYR a x1 = 0 then 0 else 1)) ∧ (x2 = 7 → r = a 148 x1.toNat) ∧ (x2 = 8 → r = (if a 152 x1.toNat = 0 then 0 else 1)) ∧ (x2 = 9 → r = a 151 x1.toNat) ∧ (x2 = 10 → r = SUMN (ohF (cvR a) (a 146 0) x1 2) (a 146 9).toNat) ∧ (x2 < 0 ∨ 10 < x2 → r = -1)
theorem ABR1_cl {a a1 : Nat → Nat → Int} (cl : CLS a a1) {x1 x2 r : Int} (h : ABR1 a1 x1 x2 r) : ABR1 a x1 x2 r := by
  have s := SAM7_cl cl
  unfold ABR1 at h
  rw [cvR_cl cl, cl 146 (by decide), cl 153 (by decide), cl 148 (by decide), cl 152 (by decide), cl 151 (by decide), SAM7_ow s, MYR_cl cl] at h
  exact h
theorem AL_about {a b : Nat → Nat → Int} (hb : BAS a) (h : ALK a) {x x2 r r2 : Int} (x0 : 0 ≤ x) (x1 : x < a 4 6) (p : ABC1 a b x x2 r) (q : ABR1 a x x2 r2) : r = r2 := by
  obtain ⟨a1, hf, ht, p0, p1, p2, p3, p4, p5, p6, p7, p8, p9, p10, p11⟩ := p
  obtain ⟨q0, q1, q2, q3, q4, q5, q6, q7, q8, q9, q10, q11⟩ := q
  have nm := AL_nm hb
  have hs := SAMC_fr hf rfl
  have ex : ((x.toNat : Nat) : Int) = x := Int.toNat_of_nonneg x0
  have t := ht x.toNat (by omega)
  rw [ex] at t
  obtain ⟨t1, t2, t3, t4, t5, t6⟩ := t
  have x40 : x < 40 := by omega
  have g0 : f_X7_givenBy a1 b x = SUMN (gvF (cvR a) (a 146 0) x) (a 146 9).toNat := (e40 x0 x40 _).trans (t1.trans (AL_sG (b := b) hb h x))
  have g1 : f_X7_gotBy a1 b x = SUMN (gtF (cvR a) (a 146 0) x) (a 146 9).toNat := (e40 x0 x40 _).trans (t2.trans (AL_sT (b := b) hb h x))
  have g2 : f_X7_comingTo a1 b x = SUMN (cmF (cvR a) (a 146 0) x) (a 146 9).toNat := (e40 x0 x40 _).trans (t3.trans (AL_sC (b := b) hb h x))
  have g3 : f_X7_outOf a1 b x = SUMN (ohF (cvR a) (a 146 0) x 0) (a 146 9).toNat := (e40 x0 x40 _).trans (t4.trans (AL_sO (b := b) hb h x))
  have g10 : f_X7_lostOf a1 b x = SUMN (ohF (cvR a) (a 146 0) x 2) (a 146 9).toNat := (e40 x0 x40 _).trans (t5.trans (AL_sL (b := b) hb h x))
  have g4 : f_X3_creditOf a1 b x = a 153 x.toNat := by
    have e : f_X3_creditOf a1 b x = f_X3_creditOf a b x := by
      unfold f_X3_creditOf f_X3_has
      rw [hs.2.1, hs.2.2.2 9 (by decide)]
    rw [e, AL_cr hb h x0]
  have g5 : f_X11_owed a1 b x = vOwR a x := by rw [OW_abs ht hs x0 x40, AL_ow hb h x0]
  have g6 : f_X11_mayAsk a1 b x = MYR a x := by rw [MY_abs ht hs, AL_my hb h x0 x1]
  have g7 : f_X3_landOf a1 b x = a 148 x.toNat := by
    rw [landOf_fr (b := b) hs.2.1 (hs.2.2.2 5 (by decide)), AL_ld hb x0 x1]; rfl
  have g8 : f_X3_isThere a1 b x = if a 152 x.toNat = 0 then 0 else 1 := by rw [isThere_fr (b := b) hs.2.1 (hs.2.2.2 10 (by decide)), AL_there hb x0 x1]
  have g9 : f_X3_cameOnOf a1 b x = a 151 x.toNat := by
    unfold f_X3_cameOnOf f_X11_entry_r8
    rw [hs.2.1, hs.2.2.2 8 (by decide), if_neg (show ¬ x < 0 by omega), if_pos x1, if_pos x40, (hb.2.2.2.1 x.toNat).2.2.2.1]
  rcases (show x2 < 0 ∨ 10 < x2 ∨ x2 = 0 ∨ x2 = 1 ∨ x2 = 2 ∨ x2 = 3 ∨ x2 = 4 ∨ x2 = 5 ∨ x2 = 6 ∨ x2 = 7 ∨ x2 = 8 ∨ x2 = 9 ∨ x2 = 10 by omega) with e | e | e | e | e | e | e | e | e | e | e | e | e
  · rw [p11 (Or.inl e), q11 (Or.inl e)]
  · rw [p11 (Or.inr e), q11 (Or.inr e)]
  · rw [p0 e, q0 e, g0]
  · rw [p1 e, q1 e, g1]
  · rw [p2 e, q2 e, g2]
  · rw [p3 e, q3 e, g3]
  · rw [p4 e, q4 e, g4]
  · rw [p5 e, q5 e, g5]
  · rw [p6 e, q6 e, g6]
  · rw [p7 e, q7 e, g7]
  · rw [p8 e, q8 e, g8]
    by_cases z : a 152 x.toNat = 0
    · rw [if_pos z, if_pos rfl]
    · rw [if_neg z, if_neg (by decide)]
  · rw [p9 e, q9 e, g9]
  · rw [p10 e, q10 e, g10]
theorem SPV_eq2 {v : CV} {nm w : Int} {ld ld2 : Int → Int} {x y : Int} (h : CI v nm w) (hw : w ≤ 1999) (he : ∀ m, 0 ≤ m → m < nm → ld m = ld2 m) : (SPV v ld x y = (0, -1, -1) ∧ (SPVr v ld2 x y).1 = 0) ∨ (1 ≤ (SPV v ld x y).1 ∧ SPV v ld x y = SPVr v ld2 x y) := by
  have s := SPV_eq (ld := ld) (ld2 := ld2) (x := x) (y := y) h hw he
  have nn := CI_n h
  by_cases c : (SPV v ld x y).1 = 0
  · left
    refine ⟨?_, by rw [← s.1]; exact c⟩
    have key := SPN_both (p := pV v ld x y) (d := dV v) (p2 := pV v ld x y) (d2 := dV v) (k := (vT v).toNat) (m := 0) (l := -1) (g := -1) (l2 := 1000000) (g2 := 0) (Int.le_refl _) (fun j hj => ⟨rfl, fun u => ⟨rfl, by
      have t := CI_t h (k := j) (by omega)
      have c := CI_c h (c := (vTc v j).toNat) (by omega)
      have q : ¬ vTd v j = -1 := by
        unfold pV at u
        by_cases z : 0 ≤ vTc v j ∧ vTc v j < vN v ∧ vTc v j < 300 ∧ vLt v (vTc v j).toNat = (j : Int) ∧ ¬ vTd v j = -1 ∧ ld (vFr v (vTc v j).toNat) = x ∧ ld (vTo v (vTc v j).toNat) = y
        · exact z.2.2.2.2.1
        · rw [if_neg z] at u; exact absurd u (by decide)
      have d := t.2.1.resolve_left q
      have s := c.2.2
      unfold dV
      rw [jxw_id (by omega) (by omega)]
      omega⟩⟩) (Or.inl ⟨rfl, rfl, rfl, rfl, rfl⟩)
    rcases key.2 with z | z
    · exact z.1
    · have z1 : 1 ≤ (SPV v ld x y).1 := z.1
      omega
  · right
    refine ⟨?_, s.2.resolve_left c⟩
    have key := SPN_both (p := pV v ld x y) (d := dV v) (p2 := pV v ld x y) (d2 := dV v) (k := (vT v).toNat) (m := 0) (l := -1) (g := -1) (l2 := 1000000) (g2 := 0) (Int.le_refl _) (fun j hj => ⟨rfl, fun u => ⟨rfl, by
      have t := CI_t h (k := j) (by omega)
      have c := CI_c h (c := (vTc v j).toNat) (by omega)
      have q : ¬ vTd v j = -1 := by
        unfold pV at u
        by_cases z : 0 ≤ vTc v j ∧ vTc v j < vN v ∧ vTc v j < 300 ∧ vLt v (vTc v j).toNat = (j : Int) ∧ ¬ vTd v j = -1 ∧ ld (vFr v (vTc v j).toNat) = x ∧ ld (vTo v (vTc v j).toNat) = y
        · exact z.2.2.2.2.1
        · rw [if_neg z] at u; exact absurd u (by decide)
      have d := t.2.1.resolve_left q
      have s := c.2.2
      unfold dV
      rw [jxw_id (by omega) (by omega)]
      omega⟩⟩) (Or.inl ⟨rfl, rfl, rfl, rfl, rfl⟩)
    have z1 : 0 ≤ (SPV v ld x y).1 := key.1.2
    omega
theorem AL_span {a b : Nat → Nat → Int} (hb : BAS a) (h : ALK a) {x y k r r2 : Int} (p1 : 0 ≤ k ∧ k ≤ 2 → r = if k = 2 then (SPC a b x y).1 else if k = 0 then (SPC a b x y).2.1 else (SPC a b x y).2.2) (p0 : ¬ (0 ≤ k ∧ k ≤ 2) → r = -1) (q : r2 = if k = 2 then (SPR a x y).1 else if (SPR a x y).1 = 0 then -1 else if k = 0 then (SPR a x y).2.1 else if k = 1 then (SPR a x y).2.2 else -1) : r = r2 := by
  have w := AL_w hb
  have e1 : SPC a b x y = SPV (cvC a) (f_X3_landOf a b) x y := by
    unfold SPC SPV
    rw [pC_pV]
    rfl
  have e2 : SPR a x y = SPVr (cvC a) (ldR a) x y := by
    rw [h.1]
    unfold SPR SPVr
    rw [pR_pVr]
    rfl
  have s := SPV_eq2 (ld := f_X3_landOf a b) (ld2 := ldR a) (x := x) (y := y) h.2.2.1 w.2 (fun m m0 m1 => AL_ld hb m0 m1)
  rw [← e1, ← e2] at s
  rw [q]
  by_cases c2 : k = 2
  · rw [p1 (by omega), if_pos c2, if_pos c2]
    rcases s with ⟨s1, s2⟩ | ⟨s1, s2⟩
    · rw [s1, s2]
    · rw [s2]
  · rw [if_neg c2]
    rcases s with ⟨s1, s2⟩ | ⟨s1, s2⟩
    · rw [if_pos s2]
      by_cases c : 0 ≤ k ∧ k ≤ 2
      · rw [p1 c, if_neg c2, s1]
        split <;> rfl
      · exact p0 c
    · rw [if_neg (by rw [← s2]; omega)]
      by_cases c0 : k = 0
      · rw [p1 (by omega), if_neg c2, if_pos c0, if_pos c0, s2]
      · rw [if_neg c0]
        by_cases c1 : k = 1
        · rw [p1 (by omega), if_neg c2, if_neg c0, if_pos c1, s2]
        · rw [if_neg c1]
          exact p0 (by omega)
theorem SPR_cl {a a1 : Nat → Nat → Int} (cl : CLS a a1) (x y : Int) : SPR a1 x y = SPR a x y := by
  have e1 : pR a1 x y = pR a x y := by rw [pR_pVr, pR_pVr, cvR_cl cl, ldR_fr (cl 148 (by decide))]
  have e2 : dR a1 = dR a := by
    show dV (cvR a1) = dV (cvR a)
    rw [cvR_cl cl]
  unfold SPR
  rw [e1, e2, cl 146 (by decide)]
theorem AL_ring {a b b2 : Nat → Nat → Int} (hb : BAS a) (hs : STR a) (x y : Int) : f_X11_ring a b x y = f_X12_ring a b2 x y := by
  have f := hs.2.2.1
  have i90 := iv_get hb.1 (k := 90) (j := 12) (l := 0) (u := 6) rfl
  unfold f_X11_ring f_X12_ring f_X5_offerAt f_X5_lengthOf f_X12_in f_X12_ring_at30 f_X12_ring_at43
  rw [← f.1, jxw_id (x := a 90 12 - 1) (by omega) (by omega)]
  by_cases c : 0 ≤ x ∧ x < a 90 12
  · obtain ⟨f1, f2, f3, f4, f5⟩ := f.2 x.toNat (by omega)
    rw [← f1, jxw_id (x := a 104 x.toNat - 1) (by omega) (by omega), if_neg (show ¬ x < 0 by omega), if_neg (show ¬ x < 0 by omega), if_pos c.2, if_pos (show x < 6 by omega), if_neg (show ¬ a 90 12 - 1 < x by omega), if_neg (show ¬ (1 : Int) = 0 by decide)]
    by_cases d1 : y < 0
    · rw [if_pos d1, if_pos d1, if_pos rfl]
    · rw [if_neg d1, if_neg d1]
      by_cases d2 : y < a 104 x.toNat
      · rw [if_pos d2, if_pos (show y < 5 by omega), if_neg (show ¬ a 104 x.toNat - 1 < y by omega), if_neg (show ¬ (1 : Int) = 0 by decide)]
        have z := (f4 y.toNat (by omega)).1
        rw [jxw_id (x := 5 * x) (by omega) (by omega), jxw_id (x := 5 * x + y) (by omega) (by omega), show (5 * x + y).toNat = 5 * x.toNat + y.toNat by omega]
        exact z
      · rw [if_neg d2, if_pos (show a 104 x.toNat - 1 < y by omega), if_pos rfl]
  · by_cases d0 : x < 0
    · rw [if_pos d0, if_pos d0, if_pos rfl]
      by_cases d1 : y < 0
      · rw [if_pos d1]
      · rw [if_neg d1, if_neg d1]
    · rw [if_neg d0, if_neg d0, if_neg (show ¬ x < a 90 12 by omega), if_pos (show a 90 12 - 1 < x by omega), if_pos rfl]
      by_cases d1 : y < 0
      · rw [if_pos d1]
      · rw [if_neg d1, if_neg d1]
