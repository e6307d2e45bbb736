/-! the bounds, who gets, asked and given: alike -/
theorem AL_ld {a b : Nat → Nat → Int} (hb : BAS a) {x : Int} (x0 : 0 ≤ x) (x1 : x < a 4 6) : f_X3_landOf a b x = ldR a x := by
  have n := AL_nm hb
  unfold f_X3_landOf f_X11_entry_r5 ldR
  rw [if_neg (show ¬ x < 0 by omega), if_pos x1, if_pos (show x < 40 by omega), (hb.2.2.2.1 x.toNat).1]
theorem SPV_eq {v : CV} {nm w : Int} {ld ld2 : Int → Int} {x y : Int} (h : CI v nm w) (hw : w ≤ 1999) (he : ∀ m, 0 ≤ m → m < nm → ld m = ld2 m) : ((SPV v ld x y).1 = (SPVr v ld2 x y).1) ∧ ((SPV v ld x y).1 = 0 ∨ SPV v ld x y = SPVr v ld2 x y) := by
  have nn := CI_n h
  have key := SPN_both (p := pV v ld x y) (d := dV v) (p2 := pVr v ld2 x y) (d2 := dV v) (k := (vT v).toNat) (m := 0) (l := -1) (g := -1) (l2 := 1000000) (g2 := 0) (Int.le_refl _) (fun j hj => ?_) (Or.inl ⟨rfl, rfl, rfl, rfl, rfl⟩)
  · refine ⟨key.1.1, ?_⟩
    rcases key.2 with z | z
    · left
      show (SPN (pV v ld x y) (dV v) 0 (vT v).toNat (0, -1, -1)).1 = 0
      rw [z.1]
    · exact Or.inr z.2
  · have t := CI_t h (k := j) (by omega)
    have c := CI_c h (c := (vTc v j).toNat) (by omega)
    have of := CI_off h (c := (vTc v j).toNat) (by omega)
    have e1 := he _ c.1.1 c.1.2
    have e2 := he _ c.2.1.1 c.2.1.2
    have p01 : pV v ld x y j = pVr v ld2 x y j := by
      unfold pV pVr
      rw [e1, e2]
      by_cases q : vLt v (vTc v j).toNat = (j : Int) ∧ ¬ vTd v j = -1
      · have ar : vArr v (vTc v j).toNat = vTd v j := by
          unfold vArr
          rw [q.1, if_neg (by omega), Int.toNat_natCast]
        have o1 : vOf v (vTc v j).toNat = -1 := by
          rcases of with z | z
          · exact z
          · rw [ar] at z; exact absurd z.2.2 q.2
        by_cases z : ld2 (vFr v (vTc v j).toNat) = x ∧ ld2 (vTo v (vTc v j).toNat) = y
        · rw [if_pos ⟨t.1.1, t.1.2, by omega, q.1, q.2, z.1, z.2⟩, if_pos ⟨q.1, q.2, o1, z.1, z.2⟩]
        · rw [if_neg (fun u => z ⟨u.2.2.2.2.2.1, u.2.2.2.2.2.2⟩), if_neg (fun u => z ⟨u.2.2.2.1, u.2.2.2.2⟩)]
      · rw [if_neg (fun u => q ⟨u.2.2.2.1, u.2.2.2.2.1⟩), if_neg (fun u => q ⟨u.1, u.2.1⟩)]
    refine ⟨p01, fun u => ⟨rfl, ?_⟩⟩
    have q : ¬ vTd v j = -1 := by
      unfold pV at u
      by_cases z : 0 ≤ vTc v j ∧ vTc v j < vN v ∧ vTc v j < 300 ∧ vLt v (vTc v j).toNat = (j : Int) ∧ ¬ vTd v j = -1 ∧ ld (vFr v (vTc v j).toNat) = x ∧ ld (vTo v (vTc v j).toNat) = y
      · exact z.2.2.2.2.1
      · rw [if_neg z] at u; exact absurd u (by decide)
    have d := t.2.1.resolve_left q
    have s := c.2.2
    unfold dV
    rw [jxw_id (by omega) (by omega)]
    omega
theorem BN_eq {v : CV} {nm w z z2 f t : Int} {ld ld2 : Int → Int} (h : CI v nm w) (hw : w ≤ 1999) (he : ∀ m, 0 ≤ m → m < nm → ld m = ld2 m) (f0 : 0 ≤ f ∧ f < nm) (t0 : 0 ≤ t ∧ t < nm) (ez : z = z2) : BNV ld z v f t = BNVr ld2 z2 v f t := by
  have s := SPV_eq (x := ld2 f) (y := ld2 t) h hw he
  unfold BNV BNVr
  rw [he f f0.1 f0.2, he t t0.1 t0.2, ez, ← s.1]
  rcases s.2 with q | q
  · rw [if_pos q, if_pos q]
  · by_cases c : (SPV v ld (ld2 f) (ld2 t)).1 = 0
    · rw [if_pos c, if_pos c]
    · rw [if_neg c, if_neg c, ← q]
      generalize jxw ((jxw (2 * (SPV v ld (ld2 f) (ld2 t)).2.2)) + 7) = u
      split <;> split <;> omega
theorem tL_eq {a b : Nat → Nat → Int} (hb : BAS a) (h : ALK a) (m : Int) : ∀ n : Nat, (n : Int) ≤ a 58 8 → tL a m n = lsF (cvR a) m n ∧ (tL a m n = -1 ∨ ∃ c : Nat, c < n ∧ tL a m n = a 61 c)
  | 0, _ => ⟨rfl, Or.inl rfl⟩
  | n + 1, hn => by
    have ih := tL_eq (b := b) hb h m n (by omega)
    have q := AL_card hb h (c := n) (by omega)
    have nm := AL_nm hb
    have v : tVl a n := by unfold tVl; omega
    have s0 := (CI_c h.2.2.1 (c := n) (by show (n : Int) < a 58 8; omega)).2.2
    have es : vSn (cvC a) n = a 61 n := rfl
    have sm : tL a m n ≤ a 61 n := by
      rcases ih.2 with z | ⟨c, hc, z⟩
      · rw [z]; omega
      · rw [z]
        exact CI_mono h.2.2.1 (c := c) (d := n) (by omega) (by show (n : Int) < a 58 8; omega)
    have e1 : vTo (cvR a) n = a 60 n := by rw [← h.1]; rfl
    have e2 : vSn (cvR a) n = a 61 n := by rw [← h.1]; rfl
    show (@ite Int (tVl a n ∧ m = a 60 n) (Classical.propDecidable _) (a 61 n) (tL a m n) = if vTo (cvR a) n = m ∧ lsF (cvR a) m n < vSn (cvR a) n then vSn (cvR a) n else lsF (cvR a) m n) ∧ (@ite Int (tVl a n ∧ m = a 60 n) (Classical.propDecidable _) (a 61 n) (tL a m n) = -1 ∨ ∃ c : Nat, c < n + 1 ∧ @ite Int (tVl a n ∧ m = a 60 n) (Classical.propDecidable _) (a 61 n) (tL a m n) = a 61 c)
    rw [e1, e2, ← ih.1]
    by_cases c : m = a 60 n
    · have z : @ite Int (tVl a n ∧ m = a 60 n) (Classical.propDecidable _) (a 61 n) (tL a m n) = a 61 n := if_pos ⟨v, c⟩
      rw [z]
      refine ⟨?_, Or.inr ⟨n, by omega, rfl⟩⟩
      by_cases d : tL a m n < a 61 n
      · rw [if_pos ⟨c.symm, d⟩]
      · rw [if_neg (fun u => d u.2)]; omega
    · have z : @ite Int (tVl a n ∧ m = a 60 n) (Classical.propDecidable _) (a 61 n) (tL a m n) = tL a m n := if_neg (fun u => c u.2)
      rw [z, if_neg (fun u => c u.1.symm)]
      refine ⟨rfl, ?_⟩
      rcases ih.2 with z2 | ⟨d, hd, z2⟩
      · exact Or.inl z2
      · exact Or.inr ⟨d, by omega, z2⟩
theorem AH_pick {o1 o2 u1 u2 l1 l2 n c : Int} (h : ¬ c < 0) : (if (if o1 = o2 then (if u1 = u2 then (if l1 < l2 then (1 : Int) else 0) else if u1 < u2 then 1 else 0) else if o2 < o1 then 1 else 0) = 0 then c else n) = if c < 0 ∨ (if ¬ o1 = o2 then o2 < o1 else if ¬ u1 = u2 then u1 < u2 else l1 < l2) then n else c := by
  by_cases z : o1 = o2
  · by_cases z2 : u1 = u2
    · by_cases w : l1 < l2 <;> simp [h, z, z2, w]
    · by_cases w : u1 < u2 <;> simp [h, z, z2, w]
  · by_cases w : o2 < o1 <;> simp [h, z, w]
/-- the class's choice is the reference's -/
theorem AL_fr {a b b2 a1 : Nat → Nat → Int} (hb : BAS a) (h : ALK a) (hs : SAMC a a1) (ht : TSUM a b (a 0 0) a1 (a 58 8).toNat) {x : Int} (x0 : 0 ≤ x) (x1 : x < a 4 6) : ∀ n : Nat, (n : Int) ≤ a 4 6 → FRC a1 b x (RBC a1 b x (a 58 8).toNat) n = BSR a b2 x n
  | 0, _ => rfl
  | n + 1, hn => by
    have ih := AL_fr (b2 := b2) hb h hs ht x0 x1 n (by omega)
    have nm := AL_nm hb
    have nn := CI_n h.2.2.1
    have n8 : vN (cvC a) = a 58 8 := rfl
    have rg := BSR_rg a b2 x n
    have mg : MGF a1 b x (n : Int) (RBC a1 b x (a 58 8).toNat) = MGR a b2 x (n : Int) := by
      rw [MG_abs ht hs, RBC_fr (b := b) hs, AL_mg (b2 := b2) hb h x0 x1 (by omega)]
    have ow : ∀ m : Int, 0 ≤ m → m < a 4 6 → f_X11_owed a1 b m = vOwR a m := fun m m0 m1 => by rw [OW_abs ht hs m0 (by omega), AL_ow hb h m0]
    have un : ∀ m : Int, 0 ≤ m → m < a 4 6 → UNC a1 b x m = UNR a b2 x m := fun m m0 m1 => by rw [UNC_fr (b := b) hs, AL_un (b2 := b2) hb x0 x1 m0 m1]
    have ls : ∀ m : Int, 0 ≤ m → m < a 4 6 → f_X7_lastSentTo a1 b m = lstR a m := fun m m0 m1 => by
      unfold f_X7_lastSentTo f_X11_entry_r75 lstR
      rw [e40 m0 (by omega), (ht m.toNat (by omega)).2.2.2.2.2, ← (AL_n h).1, Int.toNat_of_nonneg m0]
      exact (tL_eq (b := b) hb h m (a 58 8).toNat (by omega)).1
    show (if MGF a1 b x (n : Int) (RBC a1 b x (a 58 8).toNat) = 0 then FRC a1 b x (RBC a1 b x (a 58 8).toNat) n else if FRC a1 b x (RBC a1 b x (a 58 8).toNat) n = -1 then (n : Int) else if AHF a1 b x (n : Int) (FRC a1 b x (RBC a1 b x (a 58 8).toNat) n) = 0 then FRC a1 b x (RBC a1 b x (a 58 8).toNat) n else (n : Int)) = (if MGR a b2 x (n : Int) = 0 then BSR a b2 x n else if BSR a b2 x n < 0 ∨ (if ¬ vOwR a n = vOwR a (BSR a b2 x n) then vOwR a (BSR a b2 x n) < vOwR a n else if ¬ UNR a b2 x n = UNR a b2 x (BSR a b2 x n) then UNR a b2 x n < UNR a b2 x (BSR a b2 x n) else lstR a n < lstR a (BSR a b2 x n)) then (n : Int) else BSR a b2 x n)
    rw [mg, ih]
    by_cases c : MGR a b2 x (n : Int) = 0
    · rw [if_pos c, if_pos c]
    · rw [if_neg c, if_neg c]
      by_cases d : BSR a b2 x n = -1
      · rw [if_pos d, if_pos (Or.inl (by omega))]
      · rw [if_neg d]
        have r := rg.resolve_left d
        have a1e : AHF a1 b x (n : Int) (BSR a b2 x n) = (if vOwR a n = vOwR a (BSR a b2 x n) then (if UNR a b2 x n = UNR a b2 x (BSR a b2 x n) then (if lstR a n < lstR a (BSR a b2 x n) then 1 else 0) else if UNR a b2 x n < UNR a b2 x (BSR a b2 x n) then 1 else 0) else if vOwR a (BSR a b2 x n) < vOwR a n then 1 else 0) := by
          unfold AHF
          rw [ow n (by omega) (by omega), ow _ r.1 (by omega), un n (by omega) (by omega), un _ r.1 (by omega), ls n (by omega) (by omega), ls _ r.1 (by omega)]
        rw [a1e]
        exact AH_pick (by omega)
theorem AL_w {a : Nat → Nat → Int} (hb : BAS a) : 0 ≤ a 0 0 ∧ a 0 0 ≤ 1999 := iv_get hb.1 (k := 0) (j := 0) (l := 0) (u := 1999) rfl
theorem OFN_add {v : CV} {nm w f t s b r : Int} (h : CI v nm w) : OFN (vAdd v f t s b r) = OFN v := by
  have n := CI_n h
  unfold OFN
  show SUMN (ofF (vAdd v f t s b r)) (vN v + 1).toNat = _
  rw [show (vN v + 1).toNat = (vN v).toNat + 1 by omega]
  show SUMN (ofF (vAdd v f t s b r)) (vN v).toNat + (if rup (vOf v) (vN v).toNat (-1) (vN v).toNat = -1 then 0 else 1) = _
  rw [rup_at, if_pos rfl, SUMN_congr (g := ofF v) (fun k hk => by
    show (if rup (vOf v) (vN v).toNat (-1) k = -1 then 0 else 1) = (if vOf v k = -1 then (0 : Int) else 1)
    rw [rup_ne (by omega)])]
  omega
/-- cards of no ring come: the rings' cards are where they were -/
def CRD (v : CV) (x y : Int) : Int := CRDF (vRg v) (vFr v) x y (vN v).toNat
def NRC (v v2 : CV) : Prop := (∀ x y, 0 ≤ x → CRD v2 x y = CRD v x y) ∧ (∀ K, 0 ≤ K → (∀ c : Nat, (c : Int) < vN v → vRg v c < K) → ∀ c : Nat, (c : Int) < vN v2 → vRg v2 c < K) ∧ vN v ≤ vN v2
theorem NRC_rf (v : CV) : NRC v v := ⟨fun _ _ _ => rfl, fun _ _ h => h, Int.le_refl _⟩
theorem NRC_tr {v v2 v3 : CV} (h : NRC v v2) (h2 : NRC v2 v3) : NRC v v3 := ⟨fun x y hx => (h2.1 x y hx).trans (h.1 x y hx), fun K hK q => h2.2.1 K hK (h.2.1 K hK q), Int.le_trans h.2.2 h2.2.2⟩
theorem NRC_add {v : CV} {f t s b : Int} (hn : 0 ≤ vN v) : NRC v (vAdd v f t s b (-1)) := by
  refine ⟨fun x y hx => ?_, fun K hK q c hc => ?_, by show vN v ≤ vN v + 1; omega⟩
  · unfold CRD
    show CRDF (rup (vRg v) (vN v).toNat (-1)) (rup (vFr v) (vN v).toNat f) x y (vN v + 1).toNat = _
    rw [show (vN v + 1).toNat = (vN v).toNat + 1 by omega]
    have e := CRDF_congr (rg := rup (vRg v) (vN v).toNat (-1)) (fr := rup (vFr v) (vN v).toNat f) (rg2 := vRg v) (fr2 := vFr v) (x := x) (y := y) (n := (vN v).toNat) (fun i hi => ⟨rup_ne (by omega), rup_ne (by omega)⟩)
    rw [← e]
    by_cases c : CRDF (rup (vRg v) (vN v).toNat (-1)) (rup (vFr v) (vN v).toNat f) x y (vN v).toNat = -1
    · rw [CRDF_no c (fun z => by have z1 := z.1; rw [rup_at] at z1; omega), c]
    · exact CRDF_stay c (Nat.le_succ _)
  · show rup (vRg v) (vN v).toNat (-1) c < K
    have hc2 : (c : Int) < vN v + 1 := hc
    by_cases e : c = (vN v).toNat
    · rw [e, rup_at]; omega
    · rw [rup_ne e]
      exact q c (by omega)
theorem NRC_same {v v2 : CV} (h1 : vRg v2 = vRg v) (h2 : vFr v2 = vFr v) (h3 : vN v2 = vN v) : NRC v v2 := ⟨fun x y _ => by unfold CRD; rw [h1, h2, h3], fun K _ q c hc => by rw [h1]; exact q c (by rw [← h3]; exact hc), by omega⟩
/-- an ask: the answers, the cards -/
theorem AL_ask {a b b2 ac ar : Nat → Nat → Int} (hb : BAS a) (h : ALK a) {x r r2 : Int} (x0 : 0 ≤ x) (x1 : x < a 4 6) (h1 : ASKC a b ac x r) (h2 : ASKR a b2 ar x r2) (hn : a 58 8 < 300) : r = r2 ∧ cvC ac = cvR ar ∧ CI (cvC ac) (a 4 6) (a 0 0) ∧ OFN (cvC ac) = OFN (cvC a) ∧ NRC (cvC a) (cvC ac) := by
  obtain ⟨a1, hf, ht, h1⟩ := h1
  have hs := SAMC_fr hf rfl
  have ef := AL_fr (b2 := b2) hb h hs ht x0 x1 (a 4 6).toNat (by have := AL_nm hb; omega)
  rw [ef] at h1
  have em : f_X11_mayAsk a1 b x = MYR a x := by rw [MY_abs ht hs, AL_my hb h x0 x1]
  rw [em] at h1
  have rg := BSR_rg a b2 x (a 4 6).toNat
  have nm := AL_nm hb
  have w := AL_w hb
  unfold ASKR at h2
  rw [← hb.2.2.1] at h2
  change (MYR a x = 0 ∧ _) ∨ (¬ MYR a x = 0 ∧ _) at h2
  have fin : cvC ac = cvC a → cvR ar = cvR a → cvC ac = cvR ar ∧ CI (cvC ac) (a 4 6) (a 0 0) ∧ OFN (cvC ac) = OFN (cvC a) ∧ NRC (cvC a) (cvC ac) := fun e1 e2 => ⟨by rw [e1, e2, h.1], by rw [e1]; exact h.2.2.1, by rw [e1], by rw [e1]; exact NRC_rf _⟩
  rcases h1 with ⟨p1, p2, p3⟩ | ⟨p1, p2⟩
  · rcases h2 with ⟨q1, q2, q3⟩ | ⟨q1, q2⟩
    · exact ⟨by rw [p2, q2], fin p3 q3⟩
    · exact absurd p1 q1
  · rcases h2 with ⟨q1, q2, q3⟩ | ⟨q1, q2⟩
    · exact absurd q1 p1
    · rcases p2 with ⟨s1, s2, s3⟩ | ⟨s1, s2, s3⟩
      · rcases q2 with ⟨t1, t2, t3⟩ | ⟨t1, t2, t3⟩
        · exact ⟨by rw [s2, t2], fin s3 t3⟩
        · exfalso; omega
      · rcases q2 with ⟨t1, t2, t3⟩ | ⟨t1, t2, t3⟩
        · exfalso; omega
        · have rr := rg.resolve_left s1
          have e5 : f_X3_landOf a1 b = f_X3_landOf a b := landOf_fr hs.2.1 (hs.2.2.2 5 (by decide))
          have bn : BNC a1 b (f_X3_landOf a1 b x) (f_X3_landOf a1 b (BSR a b2 x (a 4 6).toNat)) (f_X6_lost a1 b) = BNR a (a 148 x.toNat) (a 148 (BSR a b2 x (a 4 6).toNat).toNat) := by
            rw [BNC_BNV, BNR_BNVr, e5, cvC_fr hf rfl, ← h.1]
            exact BN_eq h.2.2.1 w.2 (fun m m0 m1 => AL_ld hb m0 m1) ⟨x0, x1⟩ ⟨rr.1, by omega⟩ (by
              show a1 56 3 = a 171 3
              rw [hs.2.2.2 56 (by decide), h.2.2.2.2.1 3 (by decide)])
          rw [bn, h.1, hb.2.1] at s3
          refine ⟨by rw [s2, t2, (AL_n h).1], by rw [s3, t3], ?_, ?_, ?_⟩
          · rw [s3, ← h.1, ← hb.2.1]
            exact CI_add h.2.2.1 hn ⟨x0, x1⟩ ⟨rr.1, by omega⟩ w.1
          · rw [s3, ← h.1]
            exact OFN_add h.2.2.1
          · rw [s3, ← h.1]
            exact NRC_add (CI_n h.2.2.1).1
