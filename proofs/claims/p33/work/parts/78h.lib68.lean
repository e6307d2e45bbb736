/-! rings, offers, asked, given: the state -/
theorem ST_rings {a a1 a2 b b2 : Nat → Nat → Int} (hb : BAS a) (hs : STR a) (cl : CLS a a1) (rf : RFS a1 a2) (ko : KOF a a1) (kor : KOFr a1 a2) (kl : KLS a a1) (klr : KLSr a1 a2) (ev : cvC a1 = cvC a) (er : cvR a2 = cvR a1) (kb : KB a a1) (kbr : KBr a1 a2) (e9 : a1 9 = a 9) (e153 : a2 153 = a1 153) {r r2 : Int} (h1 : RGC a b a1 r) (h2 : RGRr a1 b2 a2 r2) : r = r2 ∧ STR a2 := by
  have q := AL_rings hb hs.2.1 cl rf ko h1 h2
  exact ⟨q.1, ALK_mk hs.1 cl rf ev er e9 e153 (by rw [kb.2.1]; exact Int.le_refl _) (by rw [kb.1]; exact Int.le_refl _) (RLE_mk hs.1.2.2.2.2 cl rf kb.2.2 kbr.2.2), OFR_same hs.2.1 cl rf ko kor ev (by rw [kb.2.1]; exact Int.le_refl _), q.2, LST8_le hs.2.2.2 cl rf kl klr (by rw [kb.2.1]; exact Int.le_refl _)⟩
theorem ST_ask {a a1 a2 b b2 : Nat → Nat → Int} (hb : BAS a) (hs : STR a) (fr : FRS a a1 a2) (k9 : a1 9 = a 9) (k153 : a2 153 = a1 153) (kl : KLS a a1) (klr : KLSr a1 a2) {x r r2 : Int} (p1 : 0 ≤ x → x < a 4 6 → a 58 8 < 300 → ASKC a b a1 x r) (p0 : (x < 0 ∨ a 4 6 ≤ x ∨ 300 ≤ a 58 8) → cvC a1 = cvC a) (pr : (x < 0 ∨ a 4 6 ≤ x ∨ 300 ≤ a 58 8) → r = -1)
    (q1 : 0 ≤ x → x < a1 146 2 → a1 146 9 < 300 → ASKR a1 b2 a2 x r2) (q0 : (x < 0 ∨ a1 146 2 ≤ x ∨ a1 146 9 = 300) → cvR a2 = cvR a1) (qr : (x < 0 ∨ a1 146 2 ≤ x ∨ a1 146 9 = 300) → r2 = -1) : r = r2 ∧ STR a2 := by
  obtain ⟨cl, rf, ko, kor, kf, kfr, kb, kbr⟩ := fr
  have ls := LST8_mk hs.2.2.2 cl rf kl klr kb.2.1
  have i8 := iv_get hb.1 (k := 58) (j := 8) (l := 0) (u := 300) rfl
  have r146 : a1 146 = a 146 := cl 146 (by decide)
  have n := AL_n hs.1
  rw [r146, ← hb.2.2.1, ← n.1] at q1 q0 qr
  by_cases c : 0 ≤ x ∧ x < a 4 6 ∧ a 58 8 < 300
  · have e := AL_ask hb hs.1 c.1 c.2.1 (p1 c.1 c.2.1 c.2.2) (ASKR_cl cl (q1 c.1 c.2.1 c.2.2)) c.2.2
    exact ⟨e.1, ST_mk hs cl rf ko kor kf kfr kb kbr k9 k153 e.2.1 e.2.2.1 e.2.2.2.1 e.2.2.2.2 ls⟩
  · have e1 := p0 (by omega)
    have e2 := q0 (by omega)
    have e3 := pr (by omega)
    have e4 := qr (by omega)
    exact ⟨by rw [e3, e4], ST_mk hs cl rf ko kor kf kfr kb kbr k9 k153 (by rw [e1, e2, cvR_cl cl, hs.1.1]) (by rw [e1]; exact hs.1.2.2.1) (by rw [e1]) (by rw [e1]; exact NRC_rf _) ls⟩
theorem ST_give {a a1 a2 b b2 : Nat → Nat → Int} (hb : BAS a) (hs : STR a) (fr : FRS a a1 a2) (k9 : a1 9 = a 9) (k153 : a2 153 = a1 153) (k76 : a1 76 = a 76) (k173 : a2 173 = a1 173) {r r2 : Int} (p0 : f_X0_hasRoom a b (a 0 9) = 0 → r = -1 ∧ cvC a1 = cvC a ∧ a1 0 9 = a 0 9) (p1 : ¬ f_X0_hasRoom a b (a 0 9) = 0 → GIVC a b a1 r ∧ a1 0 9 = 0)
    (q0 : 300 < a1 146 9 + a1 146 42 → r2 = -1 ∧ cvR a2 = cvR a1 ∧ a2 146 42 = a1 146 42) (q1 : a1 146 9 + a1 146 42 ≤ 300 → GIVR a1 b2 a2 r2 ∧ a2 146 42 = 0) : r = r2 ∧ STR a2 := by
  obtain ⟨cl, rf, ko, kor, kf, kfr, kb, kbr⟩ := fr
  have i8 := iv_get hb.1 (k := 58) (j := 8) (l := 0) (u := 300) rfl
  have i9 := iv_get hb.1 (k := 0) (j := 9) (l := 0) (u := 8) rfl
  have r146 : a1 146 = a 146 := cl 146 (by decide)
  have n := AL_n hs.1
  have l := hs.2.2.2
  rw [r146, ← n.1, ← l.1] at q1 q0
  have hr : f_X0_hasRoom a b (a 0 9) = 0 ↔ 300 < a 58 8 + a 0 9 := by
    unfold f_X0_hasRoom
    rw [jxw_id (by omega) (by omega)]
    by_cases c : 300 - a 58 8 < a 0 9
    · rw [if_pos c]; exact ⟨fun _ => by omega, fun _ => rfl⟩
    · rw [if_neg c]; exact ⟨fun z => absurd z (by decide), fun z => by omega⟩
  by_cases c : 300 < a 58 8 + a 0 9
  · obtain ⟨s1, s2, s3⟩ := p0 (hr.2 c)
    obtain ⟨t1, t2, t3⟩ := q0 c
    refine ⟨by omega, ST_mk hs cl rf ko kor kf kfr kb kbr k9 k153 (by rw [s2, t2, cvR_cl cl, hs.1.1]) (by rw [s2]; exact hs.1.2.2.1) (by rw [s2]) (by rw [s2]; exact NRC_rf _) ?_⟩
    refine ⟨by rw [rf 0 (by decide), s3, t3], fun i hi => ?_⟩
    rw [rf 0 (by decide), s3] at hi
    rw [rf 76 (by decide), k76, k173, cl 173 (by decide), rf 4 (by decide), kb.2.1]
    exact l.2 i hi
  · obtain ⟨s1, s2⟩ := p1 (fun z => c (hr.1 z))
    obtain ⟨t1, t2⟩ := q1 (by omega)
    have e := AL_give hb hs.1 l s1 (GIVR_cl cl t1) (by omega)
    refine ⟨e.1, ST_mk hs cl rf ko kor kf kfr kb kbr k9 k153 e.2.1 e.2.2.1 e.2.2.2.1 e.2.2.2.2 ⟨by rw [rf 0 (by decide), s2, t2], fun i hi => ?_⟩⟩
    rw [rf 0 (by decide), s2] at hi
    omega
theorem ST_offer {a a1 a2 : Nat → Nat → Int} (hb : BAS a) (hs : STR a) (cl : CLS a a1) (rf : RFS a1 a2) (kf : KFD a a1) (kfr : KFDr a1 a2) (kb : KB a a1) (kbr : KBr a1 a2) (kl : KLS a a1) (klr : KLSr a1 a2) (k9 : a1 9 = a 9) (k153 : a2 153 = a1 153) (ev : cvC a1 = cvC a) (er : cvR a2 = cvR a1) (e7 : a1 83 7 = a 83 7) (e55 : a2 146 55 = a1 146 55) {x1 x2 x3 r r2 : Int} (e : r = r2)
    (c : (0 ≤ r ∧ 0 ≤ x1 ∧ x1 < a 4 6 ∧ a1 83 6 = a 83 6 + 1 ∧ a2 146 49 = a1 146 49 + 1) ∨ (r < 0 ∧ a1 83 6 = a 83 6 ∧ a2 146 49 = a1 146 49)) (p1 : 0 ≤ r → OFA a a1 x1 x2 x3) (p0 : r < 0 → OFS a a1) (q1 : 0 ≤ r2 → OFAr a1 a2 x1 x2 x3) (q0 : r2 < 0 → OFSr a1 a2) : STR a2 := by
  obtain ⟨h, o, f, l⟩ := hs
  have i20 := iv_get hb.1 (k := 83) (j := 6) (l := 0) (u := 20) rfl
  have le : a 4 6 ≤ a1 4 6 := by rw [kb.2.1]; exact Int.le_refl _
  rcases c with ⟨c1, c2, c3, c4, c5⟩ | ⟨c1, c2, c3⟩
  · obtain ⟨s1, s2, s3, s4, s5, s6⟩ := p1 c1
    obtain ⟨t1, t2, t3, t4, t5⟩ := q1 (by omega)
    have c2v : cvC a2 = cvC a := (cvC_rf rf).trans ev
    obtain ⟨⟨h1, h2, h3, h4, h5⟩, h6, h7, h8, h9, h10, h11⟩ := o
    have r146 : a1 146 = a 146 := cl 146 (by decide)
    have e6 : a2 83 6 = a 83 6 + 1 := by rw [rf 83 (by decide)]; exact c4
    have e77 : a2 83 7 = a 83 7 := by rw [rf 83 (by decide)]; exact e7
    rw [r146, ← h1] at t1 t2 t3 t5
    rw [cl 178 (by decide), ← h2] at t1
    rw [cl 179 (by decide), ← h3] at t2
    rw [cl 180 (by decide), ← h4] at t3
    rw [cl 181 (by decide), ← h5] at t4
    rw [cl 182 (by decide)] at t5
    have n87 : a 87 = a1 87 := by
      rw [s4]
      refine funext fun j => ?_
      by_cases z : j = (a 83 6).toNat
      · rw [z, rup_at]; exact h6 _ (by omega)
      · rw [rup_ne z]
    have n2 : a2 58 8 = a 58 8 := congrArg vN c2v
    refine ⟨ALK_mk h cl rf ev er k9 k153 le (by rw [kb.1]; exact Int.le_refl _) (RLE_mk h.2.2.2.2 cl rf kb.2.2 kbr.2.2), ?_, FDR_mk f cl rf kf kfr (by omega) (fun j hj => by rw [s1, rup_ne (by omega)]), LST8_le l cl rf kl klr le⟩
    refine ⟨⟨by rw [e6, c5, r146, h1], by rw [rf 84 (by decide), s1, t1], by rw [rf 85 (by decide), s2, t2], by rw [rf 86 (by decide), s3, t3], by rw [rf 87 (by decide), ← n87, t4]⟩, fun j hj => ?_, fun j hj => ?_, fun j hj => ?_, by rw [e77, e55, r146, h9], by rw [e77, n2]; exact h10, by rw [c2v, e77]; exact h11⟩
    · rw [rf 87 (by decide), ← n87]
      exact h6 j (by omega)
    · rw [rf 84 (by decide), s1, rf 4 (by decide), kb.2.1]
      by_cases z : j = (a 83 6).toNat
      · rw [z, rup_at]; exact ⟨c2, c3⟩
      · rw [rup_ne z]; exact h7 j (by omega)
    · rw [rf 87 (by decide), ← n87] at hj
      have z : ¬ j = (a 83 6).toNat := fun z => by
        have w := h6 j (by omega)
        rw [hj] at w; exact absurd w (by decide)
      obtain ⟨q1, q2, q3, q4⟩ := h8 j hj
      unfold RGO
      rw [rf 88 (by decide), rf 89 (by decide), rf 84 (by decide), s1, s5, s6, t5, rup_ne z, rup_ne z, rup_ne z, rup_ne z, e77, c2v]
      exact ⟨q1, q2, q3, q4⟩
  · obtain ⟨s1, s2, s3, s4, s5, s6⟩ := p0 c1
    obtain ⟨t1, t2, t3, t4, t5⟩ := q0 (by omega)
    have ko : KOF a a1 := ⟨c2, e7, fun k k1 k2 => by
      rcases (show k = 84 ∨ k = 85 ∨ k = 86 ∨ k = 87 ∨ k = 88 ∨ k = 89 by omega) with z | z | z | z | z | z <;> rw [z] <;> assumption⟩
    have kor : KOFr a1 a2 := ⟨c3, e55, fun k k1 k2 => by
      rcases (show k = 178 ∨ k = 179 ∨ k = 180 ∨ k = 181 ∨ k = 182 by omega) with z | z | z | z | z <;> rw [z] <;> assumption⟩
    exact ST_on ⟨h, o, f, l⟩ cl rf ko kor kf kfr kl klr ev er k9 k153 le (by rw [kb.1]; exact Int.le_refl _) (RLE_mk h.2.2.2.2 cl rf kb.2.2 kbr.2.2)
theorem ST_away {a a1 a2 : Nat → Nat → Int} (hs : STR a) (cl : CLS a a1) (rf : RFS a1 a2) (kf : KFD a a1) (kfr : KFDr a1 a2) (kb : KB a a1) (kbr : KBr a1 a2) (kl : KLS a a1) (klr : KLSr a1 a2) (k9 : a1 9 = a 9) (k153 : a2 153 = a1 153) (ev : cvC a1 = cvC a) (er : cvR a2 = cvR a1) (e83 : a1 83 6 = a 83 6 ∧ a1 83 7 = a 83 7) (e84 : a1 84 = a 84 ∧ a1 85 = a 85 ∧ a1 86 = a 86) (eo : a2 146 49 = a1 146 49 ∧ a2 146 55 = a1 146 55 ∧ a2 178 = a1 178 ∧ a2 179 = a1 179 ∧ a2 180 = a1 180 ∧ a2 182 = a1 182) {x r r2 : Int} (p : AWC a a1 x r) (q : AWR a1 a2 x r2) : r = r2 ∧ STR a2 := by
  have o := hs.2.1
  have h := hs.1
  have fi : FI (cvC a) (a 4 6) (a 0 0) (cvC a1, a1 9, 0) := by
    rw [ev, k9]
    exact ⟨h.2.2.1, h.2.2.2.1, rfl, rfl, rfl⟩
  have ec : cvC a1 = cvR a2 := by rw [ev, er, cvR_cl cl, h.1]
  have e9 : a1 9 = a2 153 := by rw [k9, k153, cl 153 (by decide), h.2.1]
  unfold AWR at q
  rw [cl 146 (by decide), cl 181 (by decide), ← o.1.1, ← o.1.2.2.2.2] at q
  rcases p with ⟨p1, p2, p3, p4, p5⟩ | ⟨p1, p2, p3, p4, p5⟩
  · rcases q with ⟨_, q2, q3⟩ | ⟨q1, _⟩
    · refine ⟨by omega, ST_lv hs cl rf kf kfr kb kbr kl klr e83 e84 eo (by rw [p3, q3]) (fun j hj => ?_) (fun j hj => ?_) ec e9 fi⟩
      · have z := p1.2.1
        have z0 := p1.1
        rw [p3, rup_ne (by omega)]
        exact o.2.1 j hj
      · rw [p3] at hj
        by_cases z : j = x.toNat
        · rw [z, rup_at] at hj; exact absurd hj (by decide)
        · rw [rup_ne z] at hj
          rw [p4, p5, rup_ne z, rup_ne z]
          exact ⟨rfl, rfl, hj⟩
    · exact absurd p1 q1
  · rcases q with ⟨q1, _⟩ | ⟨_, q2, q3⟩
    · exact absurd q1 p1
    · exact ⟨by omega, ST_lv hs cl rf kf kfr kb kbr kl klr e83 e84 eo (by rw [p3, q3]) (fun j hj => by rw [p3]; exact o.2.1 j hj) (fun j hj => ⟨by rw [p4], by rw [p5], by rw [← p3]; exact hj⟩) ec e9 fi⟩
