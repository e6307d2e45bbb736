/-! told of, taken back, left, dropped: alike -/
def FRS (a a1 a2 : Nat → Nat → Int) : Prop := CLS a a1 ∧ RFS a1 a2 ∧ KOF a a1 ∧ KOFr a1 a2 ∧ KFD a a1 ∧ KFDr a1 a2 ∧ KB a a1 ∧ KBr a1 a2
theorem OFN_same {v v2 : CV} (h : vOf v2 = vOf v) (h2 : vN v2 = vN v) : OFN v2 = OFN v := by
  unfold OFN
  rw [h2]
  refine SUMN_congr (fun c _ => ?_)
  unfold ofF
  rw [h]
theorem ST_tell {a a1 a2 : Nat → Nat → Int} (hb : BAS a) (hs : STR a) (fr : FRS a a1 a2) (k9 : a1 9 = a 9) (k153 : a2 153 = a1 153) (kl : KLS a a1) (klr : KLSr a1 a2) {x d r r2 : Int} {P Q : Prop} (c01 : r = 0 ∨ r = 1) (q01 : r2 = 0 ∨ r2 = 1) (hP : r = 1 ↔ P) (hQ : r2 = 1 ↔ Q) (hPQ : P ↔ Q)
    (hok : P → (0 ≤ x ∧ x < a 58 8) ∧ a 58 12 < 600 ∧ a 64 x.toNat = -1 ∧ (d = -1 ∨ (a 61 x.toNat ≤ d ∧ d ≤ a 0 0))) (p1 : r = 1 → cvC a1 = vTell (cvC a) x d (a 0 0)) (p0 : r = 0 → cvC a1 = cvC a) (q1 : r2 = 1 → cvR a2 = vTell (cvR a1) x d (a1 146 0)) (q0 : r2 = 0 → cvR a2 = cvR a1) : r = r2 ∧ STR a2 := by
  obtain ⟨cl, rf, ko, kor, kf, kfr, kb, kbr⟩ := fr
  have e : r = r2 := by
    rcases c01 with z | z
    · rcases q01 with z2 | z2
      · omega
      · have := hP.2 (hPQ.2 (hQ.1 z2)); omega
    · rcases q01 with z2 | z2
      · have := hQ.2 (hPQ.1 (hP.1 z)); omega
      · omega
  have h := hs.1
  have ls := LST8_mk hs.2.2.2 cl rf kl klr kb.2.1
  refine ⟨e, ?_⟩
  rcases c01 with z | z
  · have e1 := p0 z
    exact ST_mk hs cl rf ko kor kf kfr kb kbr k9 k153 (by rw [e1, q0 (by omega), cvR_cl cl, h.1]) (by rw [e1]; exact h.2.2.1) (by rw [e1]) (by rw [e1]; exact NRC_rf _) ls
  · have e1 := p1 z
    obtain ⟨o1, o2, o3, o4⟩ := hok (hP.1 z)
    have w0 : a1 146 0 = a 0 0 := by rw [cl 146 (by decide), hb.2.1]
    refine ST_mk hs cl rf ko kor kf kfr kb kbr k9 k153 (by rw [e1, q1 (by omega), cvR_cl cl, h.1, w0]) ?_ (by rw [e1]; exact OFN_same rfl rfl) (by rw [e1]; exact NRC_same rfl rfl rfl) ls
    rw [e1]
    exact CI_tell h.2.2.1 o2 o1 o3 o4
/-! folds over the cancelled -/
def FI (v : CV) (nm w : Int) (s : S3) : Prop := CI s.1 nm w ∧ CRB s.1 s.2.1 nm ∧ vRg s.1 = vRg v ∧ vFr s.1 = vFr v ∧ vN s.1 = vN v
theorem st0_of {v : CV} {nm w : Int} {c : Nat} (h : CI v nm w) (hc : (c : Int) < vN v) (hs : vSt v w c = 0) : vOf v c = -1 := by
  rcases CI_off h hc with q | q
  · exact q
  · exfalso
    unfold vSt STT at hs
    rw [if_pos ⟨by omega, q.2.1, q.2.1⟩] at hs
    exact absurd hs (by decide)
theorem OFN_off {v : CV} {k w : Int} (hn : 0 ≤ k ∧ k < vN v) (h : vOf v k.toNat = -1) (hw : 0 ≤ w) : OFN (vOff v k w) = OFN v + 1 := by
  unfold OFN
  show SUMN (ofF (vOff v k w)) (vN v).toNat = _
  rw [SUMN_take (f := ofF (vOff v k w)) (i := k.toNat) (by omega), SUMN_take (f := ofF v) (i := k.toNat) (by omega)]
  have e1 : ofF (vOff v k w) k.toNat = 1 := by
    show (if rup (vOf v) k.toNat w k.toNat = -1 then (0 : Int) else 1) = 1
    rw [rup_at, if_neg (by omega)]
  have e2 : ofF v k.toNat = 0 := by
    unfold ofF
    rw [h, if_pos rfl]
  have e3 : SUMN (fun j => if j = k.toNat then 0 else ofF (vOff v k w) j) (vN v).toNat = SUMN (fun j => if j = k.toNat then 0 else ofF v j) (vN v).toNat := SUMN_congr (fun j _ => by
    by_cases c : j = k.toNat
    · rw [if_pos c, if_pos c]
    · rw [if_neg c, if_neg c]
      show (if rup (vOf v) k.toNat w j = -1 then (0 : Int) else 1) = (if vOf v j = -1 then 0 else 1)
      rw [rup_ne c])
  rw [e1, e2, e3]
  omega
theorem CRB_up {v v2 : CV} {cr : Nat → Int} {nm i : Int} (h : CRB v cr nm) (ho : OFN v2 = OFN v + 1) (h300 : OFN v ≤ 300) (hi : 0 ≤ i ∧ i < nm) : CRB v2 (rup cr i.toNat (jxw (cr i.toNat + 1))) nm := by
  have q := h.1 i.toNat
  refine ⟨fun j => ?_, fun j hj => ?_⟩
  · by_cases c : j = i.toNat
    · rw [c, rup_at, jxw_id (by omega) (by omega), ho]; omega
    · rw [rup_ne c, ho]
      have := h.1 j
      omega
  · rw [rup_ne (by omega)]
    exact h.2 j hj
theorem CRB_le {v v2 : CV} {cr : Nat → Int} {nm : Int} (h : CRB v cr nm) (ho : OFN v2 = OFN v + 1) : CRB v2 cr nm := ⟨fun j => by have := h.1 j; omega, h.2⟩
theorem FI_cnc {v : CV} {nm w m : Int} (hw : 0 ≤ w) {s : S3} (h : FI v nm w s) : ∀ n : Nat, (n : Int) ≤ vN v → FI v nm w (cnc w m n s)
  | 0, _ => h
  | n + 1, hn => by
    have ih := FI_cnc (m := m) hw h n (by omega)
    obtain ⟨i1, i2, i3, i4, i5⟩ := ih
    by_cases c : vTo (cnc w m n s).1 n = m ∧ vSt (cnc w m n s).1 w n = 0
    · rw [cnc_yes rfl c]
      have o := st0_of i1 (c := n) (by omega) c.2
      have hk : 0 ≤ ((n : Nat) : Int) ∧ ((n : Nat) : Int) < vN (cnc w m n s).1 := ⟨by omega, by omega⟩
      have on := OFN_off (v := (cnc w m n s).1) (k := (n : Int)) hk (by rw [Int.toNat_natCast]; exact o) hw
      have fr := (CI_c i1 (c := n) (by omega)).1
      exact ⟨CI_cancel i1 hk (by rw [Int.toNat_natCast]; exact c.2) hw, CRB_up i2 on (OFN_rg i1).2 fr, i3, i4, i5⟩
    · rw [cnc_no rfl c]
      exact ⟨i1, i2, i3, i4, i5⟩
theorem FI_wdr {v : CV} {nm w c : Int} (hw : 0 ≤ w) {th : Nat → Int} {s : S3} (h : FI v nm w s) : FI v nm w (wdr w th c s) := by
  obtain ⟨i1, i2, i3, i4, i5⟩ := h
  by_cases q : 0 ≤ c ∧ c < vN s.1 ∧ vSt s.1 w c.toNat = 0
  · rw [wdr_yes q]
    have o := st0_of i1 (c := c.toNat) (by omega) q.2.2
    have on := OFN_off (v := s.1) (k := c) ⟨q.1, q.2.1⟩ o hw
    have to := (CI_c i1 (c := c.toNat) (by omega)).2.1
    refine ⟨CI_cancel i1 ⟨q.1, q.2.1⟩ q.2.2 hw, ?_, i3, i4, i5⟩
    show CRB (vOff s.1 c w) (if th (vTo s.1 c.toNat).toNat = 0 then s.2.1 else rup s.2.1 (vTo s.1 c.toNat).toNat (jxw (s.2.1 (vTo s.1 c.toNat).toNat + 1))) nm
    by_cases z : th (vTo s.1 c.toNat).toNat = 0
    · rw [if_pos z]; exact CRB_le i2 on
    · rw [if_neg z]; exact CRB_up i2 on (OFN_rg i1).2 to
  · rw [wdr_no q]
    exact ⟨i1, i2, i3, i4, i5⟩
theorem lvo_row {w m : Int} {th mem cd : Nat → Int} {s : S3 × (Nat → Int)} : ∀ n j, n ≤ j → (lvo w m th mem cd n s).2 j = s.2 j
  | 0, _, _ => rfl
  | n + 1, j, h => by
    have ih := lvo_row (w := w) (m := m) (th := th) (mem := mem) (cd := cd) (s := s) n j (by omega)
    by_cases c : mem n = m
    · rw [lvo_yes rfl c]
      show rup (lvo w m th mem cd n s).2 n 2 j = _
      rw [rup_ne (by omega), ih]
    · rw [lvo_no rfl c, ih]
theorem lvo_cg {w m : Int} {th mem cd cd2 : Nat → Int} {s : S3 × (Nat → Int)} : ∀ n : Nat, (∀ j, j < n → s.2 j = 1 → cd j = cd2 j) → lvo w m th mem cd n s = lvo w m th mem cd2 n s
  | 0, _ => rfl
  | n + 1, h => by
    have ih := lvo_cg (w := w) (m := m) (th := th) (mem := mem) (s := s) n (fun j hj => h j (by omega))
    by_cases c : mem n = m
    · rw [lvo_yes rfl c, lvo_yes rfl c, ih]
      by_cases d : (lvo w m th mem cd2 n s).2 n = 1
      · rw [if_pos d, if_pos d, h n (by omega) (by rw [← lvo_row n n (Nat.le_refl n)]; exact d)]
      · rw [if_neg d, if_neg d]
    · rw [lvo_no rfl c, lvo_no rfl c, ih]
theorem FI_lvo {v : CV} {nm w m : Int} (hw : 0 ≤ w) {th mem cd : Nat → Int} {s : S3 × (Nat → Int)} (h : FI v nm w s.1) : ∀ n : Nat, FI v nm w (lvo w m th mem cd n s).1
  | 0 => h
  | n + 1 => by
    have ih := FI_lvo (m := m) hw (th := th) (mem := mem) (cd := cd) h n
    by_cases c : mem n = m
    · rw [lvo_yes rfl c]
      show FI v nm w (if (lvo w m th mem cd n s).2 n = 1 then wdr w th (cd n) (lvo w m th mem cd n s).1 else (lvo w m th mem cd n s).1)
      by_cases d : (lvo w m th mem cd n s).2 n = 1
      · rw [if_pos d]; exact FI_wdr hw ih
      · rw [if_neg d]; exact ih
    · rw [lvo_no rfl c]; exact ih
/-- offers over, some of them no longer in a ring -/
theorem OFR_lv {a a1 a2 : Nat → Nat → Int} (h : OFR a) (cl : CLS a a1) (rf : RFS a1 a2) (e83 : a1 83 6 = a 83 6 ∧ a1 83 7 = a 83 7) (e84 : a1 84 = a 84 ∧ a1 85 = a 85 ∧ a1 86 = a 86) (er : a2 146 49 = a1 146 49 ∧ a2 146 55 = a1 146 55 ∧ a2 178 = a1 178 ∧ a2 179 = a1 179 ∧ a2 180 = a1 180 ∧ a2 182 = a1 182) (e46 : a1 4 6 = a 4 6)
    (ec : a1 87 = a2 181) (e0 : ∀ j : Nat, a 83 6 ≤ (j : Int) → a1 87 j = 0) (e1 : ∀ j : Nat, a1 87 j = 1 → a1 88 j = a 88 j ∧ a1 89 j = a 89 j ∧ a 87 j = 1) (g1 : vRg (cvC a1) = vRg (cvC a)) (g2 : vFr (cvC a1) = vFr (cvC a)) (g3 : vN (cvC a1) = vN (cvC a)) : OFR a2 := by
  obtain ⟨⟨h1, h2, h3, h4, h5⟩, h6, h7, h8, h9, h10, h11⟩ := h
  have c2 : cvC a2 = cvC a1 := cvC_rf rf
  have r83 : a2 83 = a1 83 := rf 83 (by decide)
  have e6 : a2 83 6 = a 83 6 := by rw [r83]; exact e83.1
  have e7 : a2 83 7 = a 83 7 := by rw [r83]; exact e83.2
  have nr : NRC (cvC a) (cvC a1) := NRC_same g1 g2 g3
  have n2 : a2 58 8 = vN (cvC a1) := by rw [← c2]; rfl
  have n0 : a 58 8 = vN (cvC a) := rfl
  refine ⟨⟨by rw [e6, er.1, cl 146 (by decide), h1], by rw [rf 84 (by decide), e84.1, er.2.2.1, cl 178 (by decide), h2], by rw [rf 85 (by decide), e84.2.1, er.2.2.2.1, cl 179 (by decide), h3], by rw [rf 86 (by decide), e84.2.2, er.2.2.2.2.1, cl 180 (by decide), h4], by rw [rf 87 (by decide), ec]⟩, fun j hj => ?_, fun j hj => ?_, fun j hj => ?_, by rw [e7, er.2.1, cl 146 (by decide), h9], ?_, ?_⟩
  · rw [rf 87 (by decide)]
    exact e0 j (by rw [← e6]; exact hj)
  · rw [rf 84 (by decide), e84.1, rf 4 (by decide), e46]
    exact h7 j (by rw [← e6]; exact hj)
  · rw [rf 87 (by decide)] at hj
    obtain ⟨z1, z2, z3⟩ := e1 j hj
    obtain ⟨q1, q2, q3, q4⟩ := h8 j z3
    unfold RGO
    rw [rf 88 (by decide), rf 89 (by decide), rf 84 (by decide), e84.1, er.2.2.2.2.2, cl 182 (by decide), e7, c2, z1, z2, nr.1 _ _ q2]
    exact ⟨q1, q2, q3, q4⟩
  · rw [e7, n2, g3]
    exact h10
  · rw [c2, e7, g1, g3]
    exact h11
theorem ST_lv {a a1 a2 : Nat → Nat → Int} (hs : STR a) (cl : CLS a a1) (rf : RFS a1 a2) (kf : KFD a a1) (kfr : KFDr a1 a2) (kb : KB a a1) (kbr : KBr a1 a2) (kl : KLS a a1) (klr : KLSr a1 a2) (e83 : a1 83 6 = a 83 6 ∧ a1 83 7 = a 83 7) (e84 : a1 84 = a 84 ∧ a1 85 = a 85 ∧ a1 86 = a 86) (er : a2 146 49 = a1 146 49 ∧ a2 146 55 = a1 146 55 ∧ a2 178 = a1 178 ∧ a2 179 = a1 179 ∧ a2 180 = a1 180 ∧ a2 182 = a1 182)
    (ec : a1 87 = a2 181) (e0 : ∀ j : Nat, a 83 6 ≤ (j : Int) → a1 87 j = 0) (e1 : ∀ j : Nat, a1 87 j = 1 → a1 88 j = a 88 j ∧ a1 89 j = a 89 j ∧ a 87 j = 1) (ev : cvC a1 = cvR a2) (e9 : a1 9 = a2 153) {k : Int} (fi : FI (cvC a) (a 4 6) (a 0 0) (cvC a1, a1 9, k)) : STR a2 := by
  obtain ⟨f1, f2, f3, f4, f5⟩ := fi
  have c2 : cvC a2 = cvC a1 := cvC_rf rf
  have e00 : a2 0 0 = a 0 0 := by rw [rf 0 (by decide)]; exact kb.1
  have e46 : a2 4 6 = a 4 6 := by rw [rf 4 (by decide)]; exact kb.2.1
  refine ⟨⟨by rw [c2, ev], by rw [rf 9 (by decide), e9], ?_, ?_, RLE_mk hs.1.2.2.2.2 cl rf kb.2.2 kbr.2.2⟩, OFR_lv hs.2.1 cl rf e83 e84 er kb.2.1 ec e0 e1 f3 f4 f5, FDR_mk hs.2.2.1 cl rf kf kfr (by rw [e83.1]; exact Int.le_refl _) (fun j _ => by rw [e84.1]), LST8_mk hs.2.2.2 cl rf kl klr kb.2.1⟩
  · unfold CIC
    rw [c2, e00, e46]; exact f1
  · rw [c2, rf 9 (by decide), e46]
    exact f2
