/-! a ring closed: the state -/
section
variable {w r : Int} {mem : Nat → Int} {B : CV → Int → Int → Int} {o : Nat → Int} {L : Nat} {s : S4c}
theorem clo_off {j : Nat} : ∀ n : Nat, (∀ i, i < n → ¬ (o i).toNat = j) → (clo w r mem B o L n s).2.1 j = s.2.1 j ∧ (clo w r mem B o L n s).2.2.1 j = s.2.2.1 j ∧ (clo w r mem B o L n s).2.2.2 j = s.2.2.2 j
  | 0, _ => ⟨rfl, rfl, rfl⟩
  | n + 1, h => by
    obtain ⟨i1, i2, i3⟩ := clo_off (j := j) n (fun i hi => h i (by omega))
    have q := h n (Nat.lt_succ_self n)
    show rup (clo w r mem B o L n s).2.1 (o n).toNat 1 j = _ ∧ rup (clo w r mem B o L n s).2.2.1 (o n).toNat r j = _ ∧ rup (clo w r mem B o L n s).2.2.2 (o n).toNat (vN (clo w r mem B o L n s).1) j = _
    rw [rup_ne (fun z => q z.symm), rup_ne (fun z => q z.symm), rup_ne (fun z => q z.symm)]
    exact ⟨i1, i2, i3⟩
theorem clo_on (hd : ∀ i j, i < j → j < L → ¬ (o i).toNat = (o j).toNat) {i : Nat} : ∀ n : Nat, n ≤ L → i < n → (clo w r mem B o L n s).2.1 (o i).toNat = 1 ∧ (clo w r mem B o L n s).2.2.1 (o i).toNat = r ∧ (clo w r mem B o L n s).2.2.2 (o i).toNat = vN s.1 + i
  | 0, _, h => absurd h (Nat.not_lt_zero i)
  | n + 1, hn, h => by
    show rup (clo w r mem B o L n s).2.1 (o n).toNat 1 (o i).toNat = _ ∧ rup (clo w r mem B o L n s).2.2.1 (o n).toNat r (o i).toNat = _ ∧ rup (clo w r mem B o L n s).2.2.2 (o n).toNat (vN (clo w r mem B o L n s).1) (o i).toNat = _
    by_cases e : i = n
    · rw [e, rup_at, rup_at, rup_at, clo_n]
      exact ⟨rfl, rfl, rfl⟩
    · have q := hd i n (by omega) (by omega)
      rw [rup_ne q, rup_ne q, rup_ne q]
      exact clo_on hd n (by omega) (by omega)
theorem clo_cards (h0 : 0 ≤ vN s.1) : ∀ n : Nat, (∀ c : Nat, (c : Int) < vN s.1 → vRg (clo w r mem B o L n s).1 c = vRg s.1 c ∧ vFr (clo w r mem B o L n s).1 c = vFr s.1 c) ∧ ∀ i, i < n → vRg (clo w r mem B o L n s).1 ((vN s.1).toNat + i) = r ∧ vFr (clo w r mem B o L n s).1 ((vN s.1).toNat + i) = mem (o i).toNat
  | 0 => ⟨fun _ _ => ⟨rfl, rfl⟩, fun i hi => absurd hi (Nat.not_lt_zero i)⟩
  | n + 1 => by
    obtain ⟨i1, i2⟩ := clo_cards h0 n
    have en := clo_n (w := w) (r := r) (mem := mem) (B := B) (o := o) (L := L) (s := s) n
    have e : (vN (clo w r mem B o L n s).1).toNat = (vN s.1).toNat + n := by omega
    refine ⟨fun c hc => ?_, fun i hi => ?_⟩
    · show rup (vRg (clo w r mem B o L n s).1) (vN (clo w r mem B o L n s).1).toNat r c = _ ∧ rup (vFr (clo w r mem B o L n s).1) (vN (clo w r mem B o L n s).1).toNat (mem (o n).toNat) c = _
      rw [rup_ne (by omega), rup_ne (by omega)]
      exact i1 c hc
    · show rup (vRg (clo w r mem B o L n s).1) (vN (clo w r mem B o L n s).1).toNat r ((vN s.1).toNat + i) = _ ∧ rup (vFr (clo w r mem B o L n s).1) (vN (clo w r mem B o L n s).1).toNat (mem (o n).toNat) ((vN s.1).toNat + i) = _
      rw [e]
      by_cases d : i = n
      · rw [d, rup_at, rup_at]; exact ⟨rfl, rfl⟩
      · rw [rup_ne (by omega), rup_ne (by omega)]
        exact i2 i (by omega)
end
theorem clo_cv {w r nm : Int} {mem : Nat → Int} {B B2 : CV → Int → Int → Int} {o o2 : Nat → Int} {L : Nat} {v : CV} {c x y x2 y2 : Nat → Int} (h : CI v nm w) (w0 : 0 ≤ w) (hB : ∀ u f t, CI u nm w → 0 ≤ f ∧ f < nm → 0 ≤ t ∧ t < nm → B u f t = B2 u f t) (ho : ∀ i, i < L → o i = o2 i ∧ 0 ≤ mem (o i).toNat ∧ mem (o i).toNat < nm) : ∀ n : Nat, n ≤ L → vN v + n ≤ 300 → (clo w r mem B o L n (v, c, x, y)).1 = (clo w r mem B2 o2 L n (v, c, x2, y2)).1 ∧ (clo w r mem B o L n (v, c, x, y)).2.1 = (clo w r mem B2 o2 L n (v, c, x2, y2)).2.1 ∧ CI (clo w r mem B o L n (v, c, x, y)).1 nm w ∧ OFN (clo w r mem B o L n (v, c, x, y)).1 = OFN v
  | 0, _, _ => ⟨rfl, rfl, h, rfl⟩
  | n + 1, hn, h3 => by
    obtain ⟨i1, i2, i3, i4⟩ := clo_cv (r := r) (x := x) (y := y) (x2 := x2) (y2 := y2) h w0 hB ho n (by omega) (by omega)
    have a1 := ho n (by omega)
    have a2 := ho (nxt L n) (nxt_lt (by omega))
    have en := clo_n (w := w) (r := r) (mem := mem) (B := B) (o := o) (L := L) (s := (v, c, x, y)) n
    have en2 : vN (clo w r mem B o L n (v, c, x, y)).1 = vN v + n := en
    refine ⟨?_, ?_, ?_, ?_⟩
    · show vAdd (clo w r mem B o L n (v, c, x, y)).1 (mem (o n).toNat) (mem (o (nxt L n)).toNat) w (B (clo w r mem B o L n (v, c, x, y)).1 (mem (o n).toNat) (mem (o (nxt L n)).toNat)) r = vAdd (clo w r mem B2 o2 L n (v, c, x2, y2)).1 (mem (o2 n).toNat) (mem (o2 (nxt L n)).toNat) w (B2 (clo w r mem B2 o2 L n (v, c, x2, y2)).1 (mem (o2 n).toNat) (mem (o2 (nxt L n)).toNat)) r
      rw [hB _ _ _ i3 a1.2 a2.2, i1, a1.1, a2.1]
    · show rup (clo w r mem B o L n (v, c, x, y)).2.1 (o n).toNat 1 = rup (clo w r mem B2 o2 L n (v, c, x2, y2)).2.1 (o2 n).toNat 1
      rw [i2, a1.1]
    · exact CI_add i3 (by omega) a1.2 a2.2 w0
    · show OFN (vAdd (clo w r mem B o L n (v, c, x, y)).1 _ _ w _ r) = OFN v
      rw [OFN_add i3, i4]
theorem CRDF_none {rg fr : Nat → Int} {x y : Int} : ∀ {n}, (∀ c, c < n → ¬ (rg c = x ∧ fr c = y)) → CRDF rg fr x y n = -1
  | 0, _ => rfl
  | n + 1, h => CRDF_no (CRDF_none (fun c hc => h c (by omega))) (h n (Nat.lt_succ_self n))
theorem CRDF_ext {rg fr : Nat → Int} {x y : Int} {m : Nat} : ∀ {n}, m ≤ n → (∀ c, m ≤ c → c < n → ¬ (rg c = x ∧ fr c = y)) → CRDF rg fr x y n = CRDF rg fr x y m
  | 0, h, _ => by rw [show m = 0 by omega]
  | n + 1, h, q => by
    by_cases e : m = n + 1
    · rw [e]
    · have ih := CRDF_ext (rg := rg) (fr := fr) (x := x) (y := y) (m := m) (n := n) (by omega) (fun c h1 h2 => q c h1 (by omega))
      rw [← ih]
      show (if CRDF rg fr x y n = -1 then (if rg n = x ∧ fr n = y then (n : Int) else -1) else CRDF rg fr x y n) = _
      by_cases d : CRDF rg fr x y n = -1
      · rw [if_pos d, if_neg (q n (by omega) (Nat.lt_succ_self n)), d]
      · rw [if_neg d]
theorem ST_close {a a1 a2 b b2 : Nat → Nat → Int} (hb : BAS a) (hs : STR a) (cl : CLS a a1) (rf : RFS a1 a2) (kf : KFD a a1) (kfr : KFDr a1 a2) (kb : KB a a1) (kbr : KBr a1 a2) (kl : KLS a a1) (klr : KLSr a1 a2) (k9 : a1 9 = a 9) (k153 : a2 153 = a1 153) (e6 : a1 83 6 = a 83 6) (e84 : a1 84 = a 84 ∧ a1 85 = a 85 ∧ a1 86 = a 86) (er : a2 146 49 = a1 146 49 ∧ a2 178 = a1 178 ∧ a2 179 = a1 179 ∧ a2 180 = a1 180) {x r r2 : Int} (p : CLC a b a1 x r) (q : CLR a1 b2 a2 x r2) : r = r2 ∧ STR a2 := by
  have hs0 := hs
  obtain ⟨h, o, f, l⟩ := hs
  have w := AL_w hb
  have nn := CI_n h.2.2.1
  have n8 : vN (cvC a) = a 58 8 := rfl
  have nal := AL_n h
  have r146 : a1 146 = a 146 := cl 146 (by decide)
  have i83 := iv_get hb.1 (k := 83) (j := 6) (l := 0) (u := 20) rfl
  have i90 := iv_get hb.1 (k := 90) (j := 12) (l := 0) (u := 6) rfl
  obtain ⟨⟨o1, o2, o3, o4, o5⟩, o6, o7, o8, o9, o10, o11⟩ := o
  -- the ring's offers
  have len : f_X5_lengthOf a b x = if 0 ≤ x ∧ x < a 90 12 then a 104 x.toNat else 0 := by
    unfold f_X5_lengthOf
    by_cases c1 : x < 0
    · rw [if_pos c1, if_neg (by omega)]
    · by_cases c2 : x < a 90 12
      · rw [if_neg c1, if_pos c2, if_pos (by omega), if_pos (by omega)]
      · rw [if_neg c1, if_neg c2, if_neg (by omega)]
  have inr : f_X12_in a1 b2 x 0 (jxw (a1 146 64 - 1)) = 0 ↔ ¬ (0 ≤ x ∧ x < a 90 12) := by
    rw [r146, ← f.1, jxw_id (by omega) (by omega)]
    unfold f_X12_in
    by_cases c1 : x < 0
    · rw [if_pos c1]; exact ⟨fun _ => by omega, fun _ => rfl⟩
    · by_cases c2 : a 90 12 - 1 < x
      · rw [if_neg c1, if_pos c2]; exact ⟨fun _ => by omega, fun _ => rfl⟩
      · rw [if_neg c1, if_neg c2]; exact ⟨fun z => absurd z (by decide), fun z => by omega⟩
  have no : r = -1 → (cvC a1, a1 87, a1 88, a1 89) = (cvC a, a 87, a 88, a 89) → a1 83 7 = a 83 7 → r2 = -1 → cvR a2 = cvR a1 → a2 181 = a1 181 → a2 182 = a1 182 → a2 146 55 = a1 146 55 → r = r2 ∧ STR a2 := fun s1 s2 s3 t1 t2 t3 t4 t5 => by
    have z1 : cvC a1 = cvC a := congrArg (fun s : S4c => s.1) s2
    have z2 : a1 87 = a 87 := congrArg (fun s : S4c => s.2.1) s2
    have z3 : a1 88 = a 88 := congrArg (fun s : S4c => s.2.2.1) s2
    have z4 : a1 89 = a 89 := congrArg (fun s : S4c => s.2.2.2) s2
    refine ⟨by omega, ST_lv (k := 0) hs0 cl rf kf kfr kb kbr kl klr ⟨e6, s3⟩ e84 ⟨er.1, t5, er.2.1, er.2.2.1, er.2.2.2, t4⟩ (by rw [z2, t3, cl 181 (by decide), o5]) (fun j hj => by rw [z2]; exact o6 j hj) (fun j hj => ⟨by rw [z3], by rw [z4], by rw [← z2]; exact hj⟩) (by rw [z1, t2, cvR_cl cl, h.1]) (by rw [k9, k153, cl 153 (by decide), h.2.1]) ?_⟩
    rw [z1, k9]
    exact ⟨h.2.2.1, h.2.2.2.1, rfl, rfl, rfl⟩
  by_cases cx : 0 ≤ x ∧ x < a 90 12
  · rw [if_pos cx] at len
    obtain ⟨f1, f2, f3, f4, f5⟩ := f.2 x.toNat (by omega)
    have e190 : a1 190 x.toNat = a 104 x.toNat := by rw [cl 190 (by decide), ← f1]
    have oc : ∀ i : Nat, (i : Int) < a 104 x.toNat → oC a b x i = a 97 (x.toNat * 5 + i) ∧ oR a1 x i = oC a b x i ∧ 0 ≤ oC a b x i ∧ oC a b x i < a 83 6 := fun i hi => by
      have z := f4 i hi
      have e : oC a b x i = a 97 (x.toNat * 5 + i) := by
        unfold oC f_X5_offerAt
        rw [len, if_neg (show ¬ (i : Int) < 0 by omega), if_pos hi, if_pos (show (i : Int) < 5 by omega), Int.toNat_natCast]
      refine ⟨e, ?_, by rw [e]; exact z.2.1, by rw [e]; exact z.2.2⟩
      unfold oR
      rw [cl 189 (by decide), e, z.1]
    have rm : f_X0_hasRoom a b (a 104 x.toNat) = 0 ↔ 300 < jxw (a1 146 9 + a1 190 x.toNat) := by
      rw [r146, e190, ← nal.1, jxw_id (x := a 58 8 + a 104 x.toNat) (by omega) (by omega)]
      unfold f_X0_hasRoom
      rw [jxw_id (by omega) (by omega)]
      by_cases c : 300 - a 58 8 < a 104 x.toNat
      · rw [if_pos c]; exact ⟨fun _ => by omega, fun _ => rfl⟩
      · rw [if_neg c]; exact ⟨fun z => absurd z (by decide), fun z => by omega⟩
    have op : ∀ i : Nat, (i : Int) < a 104 x.toNat → (f_X4_isOpen a b (oC a b x i) = 0 ↔ ¬ a1 181 (oR a1 x i).toNat = 0) := fun i hi => by
      have z := oc i hi
      have e := AWO_c (a := a) (b := b) (x := oC a b x i) i83.2
      rw [z.2.1, cl 181 (by decide), ← o5]
      constructor
      · intro q1 q2
        exact (e.2 ⟨z.2.2.1, z.2.2.2, q2⟩) q1
      · intro q1
        exact Classical.not_not.1 (fun q2 => q1 (e.1 q2).2.2)
    have nc : CLN a b x ↔ CRN a1 b2 x := by
      unfold CLN CRN
      rw [len, rm, inr, e190]
      constructor
      · rintro (z | z | ⟨i, z1, z2⟩)
        · omega
        · exact Or.inr (Or.inl z)
        · exact Or.inr (Or.inr ⟨i, z1, (op i z1).1 z2⟩)
      · rintro (z | z | ⟨i, z1, z2⟩)
        · exact absurd cx z
        · exact Or.inr (Or.inl z)
        · exact Or.inr (Or.inr ⟨i, z1, (op i z1).2 z2⟩)
    rcases p with ⟨p1, p2, p3, p4⟩ | ⟨p1, p2, p3, p4⟩
    · rcases q with ⟨q1, q2, q3, q4, q5, q6⟩ | ⟨q1, _⟩
      · exact no p2 p3 p4 q2 q3 q4 q5 q6
      · exact absurd (nc.1 p1) q1
    · rcases q with ⟨q1, _⟩ | ⟨q1, q2, q3, q4⟩
      · exact absurd (nc.2 q1) p1
      · have room : ¬ 300 < a 58 8 + a 104 x.toNat := fun z => p1 (Or.inr (Or.inl (by
          rw [len, rm, r146, e190, ← nal.1, jxw_id (by omega) (by omega)]; exact z)))
        have K : jxw (a 83 7 + 1) = a 83 7 + 1 := jxw_id (by omega) (by omega)
        rw [len] at p4
        obtain ⟨q5, q6, q7⟩ := q4 (a 89)
        unfold CROs at q5 q6 q7
        rw [e190, r146, cl 178 (by decide), cvR_cl cl, cl 181 (by decide), cl 182 (by decide), cl 171 (by decide), ldR_fr (cl 148 (by decide))] at q5 q6 q7
        rw [← o2, ← o9, ← h.1, ← hb.2.1] at q5 q6 q7
        rw [← o5] at q5 q6 q7
        unfold CLO CLOs at p4
        rw [len] at p4
        generalize hL : (a 104 x.toNat).toNat = L at p4 q5 q6 q7
        have hLn : (L : Int) = a 104 x.toNat := by omega
        have memr : ∀ i, i < L → oC a b x i = oR a1 x i ∧ 0 ≤ a 84 (oC a b x i).toNat ∧ a 84 (oC a b x i).toNat < a 4 6 := fun i hi => by
          have z := oc i (by omega)
          exact ⟨z.2.1.symm, o7 _ (by omega)⟩
        have dist : ∀ i j, i < j → j < L → ¬ a 84 (oC a b x i).toNat = a 84 (oC a b x j).toNat := fun i j hij hj => by
          rw [(oc i (by omega)).1, (oc j (by omega)).1]
          exact f5 i j hij (by omega)
        have disto : ∀ i j, i < j → j < L → ¬ (oC a b x i).toNat = (oC a b x j).toNat := fun i j hij hj e => dist i j hij hj (by rw [e])
        have distr : ∀ i j, i < j → j < L → ¬ (oR a1 x i).toNat = (oR a1 x j).toNat := fun i j hij hj => by
          rw [← (memr i (by omega)).1, ← (memr j hj).1]
          exact disto i j hij hj
        have cv := clo_cv (w := a 0 0) (r := a 83 7) (mem := a 84) (B := BNV (f_X3_landOf a b) (a 56 3)) (B2 := BNVr (ldR a) (a 171 3)) (o := oC a b x) (o2 := oR a1 x) (L := L) (v := cvC a) (c := a 87) (x := a 88) (y := a 89) (x2 := a 182) (y2 := a 89) h.2.2.1 w.1 (fun u f t hu f0 t0 => BN_eq hu w.2 (fun m m0 m1 => AL_ld hb m0 m1) f0 t0 (h.2.2.2.2.1 3 (by decide))) memr L (Nat.le_refl L) (by omega)
        obtain ⟨c1, c2, c3, c4⟩ := cv
        have v1 : cvC a1 = (clo (a 0 0) (a 83 7) (a 84) (BNV (f_X3_landOf a b) (a 56 3)) (oC a b x) L L (cvC a, a 87, a 88, a 89)).1 := congrArg (fun s : S4c => s.1) p4
        have v2 : a1 87 = (clo (a 0 0) (a 83 7) (a 84) (BNV (f_X3_landOf a b) (a 56 3)) (oC a b x) L L (cvC a, a 87, a 88, a 89)).2.1 := congrArg (fun s : S4c => s.2.1) p4
        have v3 : a1 88 = (clo (a 0 0) (a 83 7) (a 84) (BNV (f_X3_landOf a b) (a 56 3)) (oC a b x) L L (cvC a, a 87, a 88, a 89)).2.2.1 := congrArg (fun s : S4c => s.2.2.1) p4
        have v4 : a1 89 = (clo (a 0 0) (a 83 7) (a 84) (BNV (f_X3_landOf a b) (a 56 3)) (oC a b x) L L (cvC a, a 87, a 88, a 89)).2.2.2 := congrArg (fun s : S4c => s.2.2.2) p4
        have cards := clo_cards (w := a 0 0) (r := a 83 7) (mem := a 84) (B := BNV (f_X3_landOf a b) (a 56 3)) (o := oC a b x) (L := L) (s := (cvC a, a 87, a 88, a 89)) nn.1 L
        have cn := clo_n (w := a 0 0) (r := a 83 7) (mem := a 84) (B := BNV (f_X3_landOf a b) (a 56 3)) (o := oC a b x) (L := L) (s := (cvC a, a 87, a 88, a 89)) L
        rw [← v1] at c1 c3 c4 cards cn
        rw [← v2] at c2
        have cn2 : vN (cvC a1) = a 58 8 + L := cn
        have cvv : cvC a2 = cvC a1 := cvC_rf rf
        have e83 : a2 83 7 = a 83 7 + 1 := by rw [rf 83 (by decide), p3, K]
        refine ⟨by rw [p2, q2, r146, ← o9, K, jxw_id (by omega) (by omega)]; omega, ⟨⟨by rw [cvv, c1, q5], by rw [rf 9 (by decide), k9, k153, cl 153 (by decide), h.2.1], ?_, ?_, RLE_mk h.2.2.2.2 cl rf kb.2.2 kbr.2.2⟩, ?_, FDR_mk f cl rf kf kfr (by rw [e6]; exact Int.le_refl _) (fun j _ => by rw [e84.1]), LST8_mk l cl rf kl klr kb.2.1⟩⟩
        · unfold CIC
          rw [cvv, rf 4 (by decide), rf 0 (by decide), kb.1, kb.2.1]; exact c3
        · unfold CRB
          rw [cvv, rf 9 (by decide), k9, c4, rf 4 (by decide), kb.2.1]
          exact h.2.2.2.1
        · refine ⟨⟨by rw [rf 83 (by decide), e6, er.1, r146, o1], by rw [rf 84 (by decide), e84.1, er.2.1, cl 178 (by decide), o2], by rw [rf 85 (by decide), e84.2.1, er.2.2.1, cl 179 (by decide), o3], by rw [rf 86 (by decide), e84.2.2, er.2.2.2, cl 180 (by decide), o4], by rw [rf 87 (by decide), c2, q6]⟩, fun j hj => ?_, fun j hj => ?_, fun j hj => ?_, by rw [e83, q3, r146, ← o9, K], ?_, ?_⟩
          · rw [rf 83 (by decide), e6] at hj
            rw [rf 87 (by decide), v2, (clo_off L (fun i hi => by have z := (oc i (by omega)).2.2; omega)).1]
            exact o6 j hj
          · rw [rf 83 (by decide), e6] at hj
            rw [rf 84 (by decide), e84.1, rf 4 (by decide), kb.2.1]
            exact o7 j hj
          · rw [rf 87 (by decide), v2] at hj
            unfold RGO
            rw [rf 88 (by decide), rf 89 (by decide), rf 84 (by decide), e84.1, v3, v4, q7, e83, cvv]
            by_cases ex : ∃ i, i < L ∧ (oC a b x i).toNat = j
            · obtain ⟨i, i1, i2⟩ := ex
              have on := clo_on (w := a 0 0) (r := a 83 7) (mem := a 84) (B := BNV (f_X3_landOf a b) (a 56 3)) (s := (cvC a, a 87, a 88, a 89)) disto L (Nat.le_refl L) i1
              have onr := clo_on (w := a 0 0) (r := a 83 7) (mem := a 84) (B := BNVr (ldR a) (a 171 3)) (s := (cvC a, a 87, a 182, a 89)) distr L (Nat.le_refl L) i1
              rw [← (memr i i1).1] at onr
              rw [← i2, on.2.1, on.2.2, onr.2.1]
              refine ⟨rfl, o10.1, by omega, ?_⟩
              have nv : (vN (cvC a)).toNat + i < (vN (cvC a1)).toNat := by omega
              have hit := cards.2 i i1
              have none : CRDF (vRg (cvC a1)) (vFr (cvC a1)) (a 83 7) (a 84 (oC a b x i).toNat) ((vN (cvC a)).toNat + i) = -1 := CRDF_none (fun c hc z => by
                by_cases lt : c < (vN (cvC a)).toNat
                · have z1 := (cards.1 c (by show (c : Int) < vN (cvC a); omega)).1
                  have z2 := o11 c (by omega)
                  have z3 : vRg (cvC a1) c = vRg (cvC a) c := z1
                  rw [z3] at z
                  omega
                · obtain ⟨k, rfl⟩ : ∃ k, c = (vN (cvC a)).toNat + k := ⟨c - (vN (cvC a)).toNat, by omega⟩
                  have z1 := (cards.2 k (by omega)).2
                  have z2 : vFr (cvC a1) ((vN (cvC a)).toNat + k) = a 84 (oC a b x k).toNat := z1
                  rw [z2] at z
                  exact dist k i (by omega) i1 z.2)
              have at_ := CRDF_at none hit nv
              unfold CRD
              rw [at_]
              show vN (cvC a) + (i : Int) = _
              omega
            · have off : ∀ i, i < L → ¬ (oC a b x i).toNat = j := fun i hi z => ex ⟨i, hi, z⟩
              have offr : ∀ i, i < L → ¬ (oR a1 x i).toNat = j := fun i hi => by rw [← (memr i hi).1]; exact off i hi
              have o0 := clo_off (w := a 0 0) (r := a 83 7) (mem := a 84) (B := BNV (f_X3_landOf a b) (a 56 3)) (L := L) (s := (cvC a, a 87, a 88, a 89)) L off
              have o0r := clo_off (w := a 0 0) (r := a 83 7) (mem := a 84) (B := BNVr (ldR a) (a 171 3)) (L := L) (s := (cvC a, a 87, a 182, a 89)) L offr
              rw [o0.1] at hj
              rw [o0.2.1, o0.2.2, o0r.2.1]
              obtain ⟨g1, g2, g3, g4⟩ := o8 j hj
              refine ⟨g1, g2, by show a 88 j < _; omega, ?_⟩
              show a 89 j = CRD (cvC a1) (a 88 j) (a 84 j)
              rw [g4]
              unfold CRD
              have ext := CRDF_ext (rg := vRg (cvC a1)) (fr := vFr (cvC a1)) (x := a 88 j) (y := a 84 j) (m := (vN (cvC a)).toNat) (n := (vN (cvC a1)).toNat) (by omega) (fun c h1 h2 z => by
                obtain ⟨k, rfl⟩ : ∃ k, c = (vN (cvC a)).toNat + k := ⟨c - (vN (cvC a)).toNat, by omega⟩
                have z1 := (cards.2 k (by omega)).1
                have z2 : vRg (cvC a1) ((vN (cvC a)).toNat + k) = a 83 7 := z1
                have z3 := z.1
                rw [z2] at z3
                omega)
              rw [ext]
              exact CRDF_congr (fun c hc => by
                have z := cards.1 c (by show (c : Int) < vN (cvC a); omega)
                exact ⟨z.1.symm, z.2.symm⟩)
          · have e58 : a2 58 8 = vN (cvC a1) := by rw [← cvv]; rfl
            rw [e83, e58]
            omega
          · rw [cvv, e83]
            intro c hc
            by_cases lt : c < (vN (cvC a)).toNat
            · have z1 : vRg (cvC a1) c = vRg (cvC a) c := (cards.1 c (by show (c : Int) < vN (cvC a); omega)).1
              have z2 := o11 c (by omega)
              rw [z1]; omega
            · obtain ⟨k, rfl⟩ : ∃ k, c = (vN (cvC a)).toNat + k := ⟨c - (vN (cvC a)).toNat, by omega⟩
              have z1 : vRg (cvC a1) ((vN (cvC a)).toNat + k) = a 83 7 := (cards.2 k (by omega)).1
              rw [z1]; omega
  · rw [if_neg cx] at len
    have pn : CLN a b x := Or.inl len
    have qn : CRN a1 b2 x := Or.inl (inr.2 cx)
    rcases p with ⟨p1, p2, p3, p4⟩ | ⟨p1, _⟩
    · rcases q with ⟨q1, q2, q3, q4, q5, q6⟩ | ⟨q1, _⟩
      · exact no p2 p3 p4 q2 q3 q4 q5 q6
      · exact absurd qn q1
    · exact absurd pn p1
