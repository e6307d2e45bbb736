/-! cards cancelled, credits: state (cards, credits, how many) -/
abbrev S3 : Type := CV × (Nat → Int) × Int
def c1s (w m : Int) (c : Nat) (s : S3) : S3 := if vTo s.1 c = m ∧ vSt s.1 w c = 0 then (vOff s.1 c w, rup s.2.1 (vFr s.1 c).toNat (jxw (s.2.1 (vFr s.1 c).toNat + 1)), s.2.2 + 1) else s
def cnc (w m : Int) : Nat → S3 → S3
  | 0, s => s
  | n + 1, s => c1s w m n (cnc w m n s)
def wdr (w : Int) (th : Nat → Int) (c : Int) (s : S3) : S3 := if 0 ≤ c ∧ c < vN s.1 ∧ vSt s.1 w c.toNat = 0 then (vOff s.1 c w, (if th (vTo s.1 c.toNat).toNat = 0 then s.2.1 else rup s.2.1 (vTo s.1 c.toNat).toNat (jxw (s.2.1 (vTo s.1 c.toNat).toNat + 1))), s.2.2 + 1) else s
def lvo (w m : Int) (th mem cd : Nat → Int) : Nat → S3 × (Nat → Int) → S3 × (Nat → Int)
  | 0, s => s
  | n + 1, s => if mem n = m then ((if (lvo w m th mem cd n s).2 n = 1 then wdr w th (cd n) (lvo w m th mem cd n s).1 else (lvo w m th mem cd n s).1), rup (lvo w m th mem cd n s).2 n 2) else lvo w m th mem cd n s
theorem wdr_none (w : Int) (th : Nat → Int) (s : S3) : wdr w th (-1) s = s := if_neg (fun h => by have := h.1; omega)
theorem wdr_no {w : Int} {th : Nat → Int} {c : Int} {s : S3} (h : ¬ (0 ≤ c ∧ c < vN s.1 ∧ vSt s.1 w c.toNat = 0)) : wdr w th c s = s := if_neg h
theorem wdr_yes {w : Int} {th : Nat → Int} {c : Int} {s : S3} (h : 0 ≤ c ∧ c < vN s.1 ∧ vSt s.1 w c.toNat = 0) : wdr w th c s = (vOff s.1 c w, (if th (vTo s.1 c.toNat).toNat = 0 then s.2.1 else rup s.2.1 (vTo s.1 c.toNat).toNat (jxw (s.2.1 (vTo s.1 c.toNat).toNat + 1))), s.2.2 + 1) := if_pos h
theorem wdr_cnt (w : Int) (th : Nat → Int) (c : Int) (v : CV) (cr : Nat → Int) (y : Int) : wdr w th c (v, cr, y) = ((wdr w th c (v, cr, 0)).1, (wdr w th c (v, cr, 0)).2.1, y + (wdr w th c (v, cr, 0)).2.2) ∧ 0 ≤ (wdr w th c (v, cr, 0)).2.2 ∧ (wdr w th c (v, cr, 0)).2.2 ≤ 1 := by
  by_cases h : 0 ≤ c ∧ c < vN v ∧ vSt v w c.toNat = 0
  · rw [wdr_yes (s := (v, cr, y)) h, wdr_yes (s := (v, cr, 0)) h]
    refine ⟨?_, show (0 : Int) ≤ 0 + 1 from by decide, show (0 : Int) + 1 ≤ 1 from by decide⟩
    show (_, _, y + 1) = (_, _, y + (0 + 1))
    rw [show (0 : Int) + 1 = 1 from rfl]
  · rw [wdr_no (s := (v, cr, y)) h, wdr_no (s := (v, cr, 0)) h]
    refine ⟨?_, show (0 : Int) ≤ 0 from by decide, show (0 : Int) ≤ 1 from by decide⟩
    show (v, cr, y) = (v, cr, y + 0)
    rw [Int.add_zero]
theorem vOff_To (v : CV) (k w : Int) : vTo (vOff v k w) = vTo v := rfl
theorem vOff_N (v : CV) (k w : Int) : vN (vOff v k w) = vN v := rfl
/-- first of a row that has both -/
def CRDF (rg fr : Nat → Int) (x y : Int) : Nat → Int
  | 0 => -1
  | n + 1 => if CRDF rg fr x y n = -1 then (if rg n = x ∧ fr n = y then (n : Int) else -1) else CRDF rg fr x y n
theorem CRDF_stay {rg fr : Nat → Int} {x y : Int} {k : Nat} (h : ¬ CRDF rg fr x y k = -1) : ∀ {n}, k ≤ n → CRDF rg fr x y n = CRDF rg fr x y k
  | 0, e => by rw [show k = 0 from by omega]
  | n + 1, e => by
    by_cases c : k = n + 1
    · rw [c]
    · have ih := CRDF_stay h (n := n) (by omega)
      show (if CRDF rg fr x y n = -1 then _ else CRDF rg fr x y n) = _
      rw [if_neg (by rw [ih]; exact h), ih]
theorem CRDF_no {rg fr : Nat → Int} {x y : Int} {n : Nat} (h : CRDF rg fr x y n = -1) (c : ¬ (rg n = x ∧ fr n = y)) : CRDF rg fr x y (n + 1) = -1 := by
  show (if CRDF rg fr x y n = -1 then (if rg n = x ∧ fr n = y then (n : Int) else -1) else CRDF rg fr x y n) = _
  rw [if_pos h, if_neg c]
theorem CRDF_yes {rg fr : Nat → Int} {x y : Int} {n : Nat} (h : CRDF rg fr x y n = -1) (c : rg n = x ∧ fr n = y) : CRDF rg fr x y (n + 1) = (n : Int) := by
  show (if CRDF rg fr x y n = -1 then (if rg n = x ∧ fr n = y then (n : Int) else -1) else CRDF rg fr x y n) = _
  rw [if_pos h, if_pos c]
theorem CRDF_at {rg fr : Nat → Int} {x y : Int} {k n : Nat} (h : CRDF rg fr x y k = -1) (c : rg k = x ∧ fr k = y) (e : k < n) : CRDF rg fr x y n = (k : Int) := by
  have q := CRDF_yes h c
  rw [CRDF_stay (k := k + 1) (by rw [q]; omega) (by omega), q]
theorem CRDF_rg (rg fr : Nat → Int) (x y : Int) : ∀ n, CRDF rg fr x y n = -1 ∨ (0 ≤ CRDF rg fr x y n ∧ CRDF rg fr x y n < n ∧ rg (CRDF rg fr x y n).toNat = x ∧ fr (CRDF rg fr x y n).toNat = y)
  | 0 => Or.inl rfl
  | n + 1 => by
    have ih := CRDF_rg rg fr x y n
    by_cases c : CRDF rg fr x y n = -1
    · by_cases d : rg n = x ∧ fr n = y
      · rw [CRDF_yes c d]
        right
        rw [Int.toNat_natCast]
        exact ⟨by omega, by omega, d⟩
      · rw [CRDF_no c d]; exact Or.inl rfl
    · have e : CRDF rg fr x y (n + 1) = CRDF rg fr x y n := if_neg c
      rw [e]
      rcases ih with q | q
      · exact absurd q c
      · exact Or.inr ⟨q.1, by omega, q.2.2⟩
theorem CRDF_congr {rg fr rg2 fr2 : Nat → Int} {x y : Int} : ∀ {n}, (∀ i, i < n → rg i = rg2 i ∧ fr i = fr2 i) → CRDF rg fr x y n = CRDF rg2 fr2 x y n
  | 0, _ => rfl
  | n + 1, h => by
    have e := CRDF_congr (x := x) (y := y) (n := n) (fun i hi => h i (by omega))
    obtain ⟨h1, h2⟩ := h n (by omega)
    show (if CRDF rg fr x y n = -1 then (if rg n = x ∧ fr n = y then (n : Int) else -1) else CRDF rg fr x y n) = (if CRDF rg2 fr2 x y n = -1 then (if rg2 n = x ∧ fr2 n = y then (n : Int) else -1) else CRDF rg2 fr2 x y n)
    rw [e, h1, h2]
def FOF (cd rg mem : Nat → Int) (x y : Int) : Nat → Int
  | 0 => -1
  | n + 1 => if FOF cd rg mem x y n = -1 then (if cd n = 1 ∧ rg n = x ∧ mem n = y then (n : Int) else -1) else FOF cd rg mem x y n
theorem FOF_stay {cd rg mem : Nat → Int} {x y : Int} {k : Nat} (h : ¬ FOF cd rg mem x y k = -1) : ∀ {n}, k ≤ n → FOF cd rg mem x y n = FOF cd rg mem x y k
  | 0, e => by rw [show k = 0 from by omega]
  | n + 1, e => by
    by_cases c : k = n + 1
    · rw [c]
    · have ih := FOF_stay h (n := n) (by omega)
      show (if FOF cd rg mem x y n = -1 then _ else FOF cd rg mem x y n) = _
      rw [if_neg (by rw [ih]; exact h), ih]
theorem FOF_no {cd rg mem : Nat → Int} {x y : Int} {n : Nat} (h : FOF cd rg mem x y n = -1) (c : ¬ (cd n = 1 ∧ rg n = x ∧ mem n = y)) : FOF cd rg mem x y (n + 1) = -1 := by
  show (if FOF cd rg mem x y n = -1 then (if cd n = 1 ∧ rg n = x ∧ mem n = y then (n : Int) else -1) else FOF cd rg mem x y n) = _
  rw [if_pos h, if_neg c]
theorem FOF_at {cd rg mem : Nat → Int} {x y : Int} {k n : Nat} (h : FOF cd rg mem x y k = -1) (c : cd k = 1 ∧ rg k = x ∧ mem k = y) (e : k < n) : FOF cd rg mem x y n = (k : Int) := by
  have q : FOF cd rg mem x y (k + 1) = (k : Int) := by
    show (if FOF cd rg mem x y k = -1 then (if cd k = 1 ∧ rg k = x ∧ mem k = y then (k : Int) else -1) else FOF cd rg mem x y k) = _
    rw [if_pos h, if_pos c]
  rw [FOF_stay (k := k + 1) (by rw [q]; omega) (by omega), q]
theorem FOF_rg (cd rg mem : Nat → Int) (x y : Int) : ∀ n, FOF cd rg mem x y n = -1 ∨ (0 ≤ FOF cd rg mem x y n ∧ FOF cd rg mem x y n < n ∧ cd (FOF cd rg mem x y n).toNat = 1 ∧ rg (FOF cd rg mem x y n).toNat = x ∧ mem (FOF cd rg mem x y n).toNat = y)
  | 0 => Or.inl rfl
  | n + 1 => by
    have ih := FOF_rg cd rg mem x y n
    by_cases c : FOF cd rg mem x y n = -1
    · by_cases d : cd n = 1 ∧ rg n = x ∧ mem n = y
      · rw [FOF_at c d (Nat.lt_succ_self n)]
        right
        rw [Int.toNat_natCast]
        exact ⟨by omega, by omega, d⟩
      · rw [FOF_no c d]; exact Or.inl rfl
    · have e : FOF cd rg mem x y (n + 1) = FOF cd rg mem x y n := if_neg c
      rw [e]
      rcases ih with q | q
      · exact absurd q c
      · exact Or.inr ⟨q.1, by omega, q.2.2⟩
theorem FOF_congr {cd rg mem cd2 rg2 mem2 : Nat → Int} {x y : Int} : ∀ {n}, (∀ i, i < n → (cd i = 1 ∧ rg i = x ∧ mem i = y ↔ cd2 i = 1 ∧ rg2 i = x ∧ mem2 i = y)) → FOF cd rg mem x y n = FOF cd2 rg2 mem2 x y n
  | 0, _ => rfl
  | n + 1, h => by
    have e := FOF_congr (x := x) (y := y) (n := n) (fun i hi => h i (by omega))
    have h1 := h n (by omega)
    show (if FOF cd rg mem x y n = -1 then (if cd n = 1 ∧ rg n = x ∧ mem n = y then (n : Int) else -1) else FOF cd rg mem x y n) = (if FOF cd2 rg2 mem2 x y n = -1 then (if cd2 n = 1 ∧ rg2 n = x ∧ mem2 n = y then (n : Int) else -1) else FOF cd2 rg2 mem2 x y n)
    rw [e]
    by_cases c : cd n = 1 ∧ rg n = x ∧ mem n = y
    · rw [if_pos c, if_pos (h1.1 c)]
    · rw [if_neg c, if_neg (fun z => c (h1.2 z))]
/-! what the class's cards keep -/
def CIC (a : Nat → Nat → Int) : Prop := CI (cvC a) (a 4 6) (a 0 0)
theorem CIC_fr {W : List (Nat × Nat)} {a a1 : Nat → Nat → Int} (h : CIC a) (hf : jfr W a a1) (h00 : jfin W 0 0 = false) (h46 : jfin W 4 6 = false) (h8 : jfin W 58 8 = false) (h12 : jfin W 58 12 = false) (k59 : ∀ j, jfin W 59 j = false) (k60 : ∀ j, jfin W 60 j = false) (k61 : ∀ j, jfin W 61 j = false) (k62 : ∀ j, jfin W 62 j = false) (k63 : ∀ j, jfin W 63 j = false) (k64 : ∀ j, jfin W 64 j = false) (k65 : ∀ j, jfin W 65 j = false) (k66 : ∀ j, jfin W 66 j = false) (k67 : ∀ j, jfin W 67 j = false) (k68 : ∀ j, jfin W 68 j = false) : CIC a1 := by
  unfold CIC
  have e : cvC a1 = cvC a := mkCV_eq (hf 58 8 h8) (hf 58 12 h12) (funext fun j => hf 59 j (k59 j)) (funext fun j => hf 60 j (k60 j)) (funext fun j => hf 61 j (k61 j)) (funext fun j => hf 62 j (k62 j)) (funext fun j => hf 63 j (k63 j)) (funext fun j => hf 64 j (k64 j)) (funext fun j => hf 65 j (k65 j)) (funext fun j => hf 66 j (k66 j)) (funext fun j => hf 67 j (k67 j)) (funext fun j => hf 68 j (k68 j))
  rw [e, hf 0 0 h00, hf 4 6 h46]
  exact h
theorem ARO_eq {a b : Nat → Nat → Int} (h : CIC a) {c : Nat} (hc : (c : Int) < a 58 8) : f_X0_arrivedOnOf a b (c : Int) = vArr (cvC a) c := by
  have n := CI_n h
  have e8 : vN (cvC a) = a 58 8 := rfl
  have e12 : vT (cvC a) = a 58 12 := rfl
  have l := CI_lt h (c := c) hc
  have el : vLt (cvC a) c = a 65 c := rfl
  have ed : vTd (cvC a) = a 67 := rfl
  unfold f_X0_arrivedOnOf f_X11_entry_r65 f_X11_entry_r67 vArr
  rw [if_neg (show ¬ (c : Int) < 0 by omega), if_pos hc, if_pos (show (c : Int) < 300 by omega), Int.toNat_natCast, el, ed]
  rw [el] at l
  rcases l with q | q
  · rw [if_pos (by omega), if_pos (by omega)]
  · rw [if_neg (by omega), if_pos (by omega), if_pos (by omega), if_neg (by omega)]
theorem at55_0 (a b : Nat → Nat → Int) (y1 y2 y4 : Int) : f_X0_stateOn_at55 a b y1 y2 y4 0 = if ¬ y4 = -1 ∧ y4 ≤ y2 then (if jxw (y4 - a 61 y1.toNat) < a 62 y1.toNat then 1 else 3) else (if jxw (y2 - a 61 y1.toNat) < a 62 y1.toNat then 0 else 2) := by
  unfold f_X0_stateOn_at55 f_X0_stateOn_at100 f_X0_stateOn_at98 f_X0_stateOn_at94
  rw [if_pos (show (0 : Int) = 0 from rfl)]
  by_cases c2 : y4 = -1
  · rw [if_pos c2, if_neg (show ¬ (¬ y4 = -1 ∧ y4 ≤ y2) from fun z => z.1 c2)]
  · rw [if_neg c2]
    by_cases c3 : y2 < y4
    · rw [if_pos c3, if_neg (show ¬ (¬ y4 = -1 ∧ y4 ≤ y2) from fun z => by have := z.2; omega)]
    · rw [if_neg c3, if_pos (show ¬ y4 = -1 ∧ y4 ≤ y2 from ⟨c2, by omega⟩)]
theorem at55_1 (a b : Nat → Nat → Int) (y1 y2 y4 : Int) : f_X0_stateOn_at55 a b y1 y2 y4 1 = 4 := rfl
theorem stOn_eq {a b : Nat → Nat → Int} {c : Nat} {d k ar : Int} (hc : (c : Int) < a 58 8) (h300 : a 58 8 ≤ 300) (hd : a 61 c ≤ d) : f_X0_stateOn a b (c : Int) d k ar = STT (a 64 c) (a 61 c) (a 62 c) ar d k := by
  have hh : f_X0_has a b (c : Int) = 1 := by
    unfold f_X0_has
    rw [if_neg (show ¬ (c : Int) < 0 by omega), if_pos hc, if_pos (show (c : Int) < 300 by omega)]
  unfold f_X0_stateOn f_X0_stateOn_at54 f_X0_stateOn_at30 f_X0_stateOn_at54
  rw [hh, at55_0, at55_1, if_neg (show ¬ (1 : Int) = 0 by decide), Int.toNat_natCast, if_neg (show ¬ d < a 61 c by omega)]
  unfold STT
  by_cases c1 : a 64 c = -1
  · rw [if_pos c1, if_neg (show ¬ (¬ a 64 c = -1 ∧ a 64 c ≤ d ∧ a 64 c ≤ k) from fun z => z.1 c1)]
  · rw [if_neg c1]
    by_cases c4 : d < a 64 c
    · rw [if_pos c4, if_neg (show ¬ (¬ a 64 c = -1 ∧ a 64 c ≤ d ∧ a 64 c ≤ k) from fun z => by have := z.2.1; omega)]
    · rw [if_neg c4]
      by_cases c5 : k < a 64 c
      · rw [if_pos c5, if_neg (show ¬ (¬ a 64 c = -1 ∧ a 64 c ≤ d ∧ a 64 c ≤ k) from fun z => by have := z.2.2; omega)]
      · rw [if_neg c5, if_pos (show ¬ a 64 c = -1 ∧ a 64 c ≤ d ∧ a 64 c ≤ k from ⟨c1, by omega, by omega⟩)]
theorem stNow_eq {a b : Nat → Nat → Int} (h : CIC a) {c : Nat} (hc : (c : Int) < a 58 8) : f_X0_stateNow a b (c : Int) (a 0 0) = vSt (cvC a) (a 0 0) c := by
  have n := CI_n h
  have e8 : vN (cvC a) = a 58 8 := rfl
  have s := (CI_c h (c := c) hc).2.2.2
  have es : vSn (cvC a) c = a 61 c := rfl
  show f_X0_stateOn a b (c : Int) (a 0 0) (a 0 0) (f_X0_arrivedOnOf a b (c : Int)) = _
  rw [ARO_eq h hc, stOn_eq hc (by omega) (by omega)]
  rfl
theorem stNow_eqI {a b : Nat → Nat → Int} (h : CIC a) {x w : Int} (hw : w = a 0 0) (h0 : 0 ≤ x) (hc : x < a 58 8) : f_X0_stateNow a b x w = vSt (cvC a) w x.toNat := by
  have e := stNow_eq (b := b) h (c := x.toNat) (by omega)
  rw [Int.toNat_of_nonneg h0, ← hw] at e
  exact e
theorem jfr_nil {a a1 : Nat → Nat → Int} (h : jfr [] a a1) : a1 = a := funext fun k => funext fun j => h k j rfl
theorem CIC_off {a a1 : Nat → Nat → Int} {k : Int} (h : CIC a) (hc : cvC a1 = vOff (cvC a) k (a 0 0)) (e46 : a1 4 6 = a 4 6) (e00 : a1 0 0 = a 0 0) (h00 : 0 ≤ a 0 0) (hk : 0 ≤ k ∧ k < a 58 8) (hs : vSt (cvC a) (a 0 0) k.toNat = 0) : CIC a1 := by
  unfold CIC
  rw [hc, e46, e00]
  exact CI_cancel h hk hs h00
theorem LV_step {w : Int} {th : Nat → Int} {c cond : Int} {v v1 : CV} {cr cr1 : Nat → Int} {r y : Int} (h : (v1, cr1, r) = wdr w th (if cond = 1 then c else -1) (v, cr, 0)) : (v1, cr1, y + r) = (if cond = 1 then wdr w th c (v, cr, y) else (v, cr, y)) ∧ 0 ≤ r ∧ r ≤ 1 := by
  by_cases e : cond = 1
  · rw [if_pos e] at h
    rw [if_pos e]
    obtain ⟨q1, q2, q3⟩ := wdr_cnt w th c v cr y
    rw [q1, ← h]
    rw [← h] at q2 q3
    exact ⟨rfl, q2, q3⟩
  · rw [if_neg e, wdr_none] at h
    rw [if_neg e]
    simp only [Prod.mk.injEq] at h
    obtain ⟨h1, h2, h3⟩ := h
    rw [h1, h2, h3, Int.add_zero]
    exact ⟨rfl, by decide, by decide⟩
theorem memOf_at {a b : Nat → Nat → Int} {x : Int} (h0 : 0 ≤ x) (h1 : x < a 83 6) (h2 : a 83 6 ≤ 20) : f_X4_memberOf a b x = a 84 x.toNat := by
  show (if x < 0 then (-1) else (if x < a 83 6 then (if x < 20 then a 84 x.toNat else (-1)) else (-1))) = _
  rw [if_neg (by omega), if_pos h1, if_pos (by omega)]
theorem lvo_yes {w m : Int} {th mem cd : Nat → Int} {n : Nat} {s t : S3 × (Nat → Int)} (h : t = lvo w m th mem cd n s) (e : mem n = m) : lvo w m th mem cd (n + 1) s = ((if t.2 n = 1 then wdr w th (cd n) t.1 else t.1), rup t.2 n 2) := by
  rw [h]
  exact if_pos e
theorem lvo_no {w m : Int} {th mem cd : Nat → Int} {n : Nat} {s t : S3 × (Nat → Int)} (h : t = lvo w m th mem cd n s) (e : ¬ mem n = m) : lvo w m th mem cd (n + 1) s = t := by
  rw [h]
  exact if_neg e
theorem cnc_yes {w m : Int} {n : Nat} {s t : S3} (h : t = cnc w m n s) (e : vTo t.1 n = m ∧ vSt t.1 w n = 0) : cnc w m (n + 1) s = (vOff t.1 n w, rup t.2.1 (vFr t.1 n).toNat (jxw (t.2.1 (vFr t.1 n).toNat + 1)), t.2.2 + 1) := by
  show c1s w m n (cnc w m n s) = _
  rw [← h]
  exact if_pos e
theorem cnc_no {w m : Int} {n : Nat} {s t : S3} (h : t = cnc w m n s) (e : ¬ (vTo t.1 n = m ∧ vSt t.1 w n = 0)) : cnc w m (n + 1) s = t := by
  show c1s w m n (cnc w m n s) = _
  rw [← h]
  exact if_neg e
theorem rup_rup (f : Nat → Int) (i : Nat) (v : Int) : rup (rup f i v) i v = rup f i v := funext fun j => by
  by_cases c : j = i
  · rw [c, rup_at, rup_at]
  · rw [rup_ne c, rup_ne c]
theorem cvR_off {a : Nat → Nat → Int} {k w : Int} : cvR (jxu a 159 k.toNat w) = vOff (cvR a) k w := mkCV_eq rfl rfl rfl rfl rfl rfl rfl (jxu_rup _ _ _ _) rfl rfl rfl rfl
theorem LV_one {w : Int} {th : Nat → Int} {c : Int} {v v1 : CV} {cr cr1 : Nat → Int} {r y : Int} (h : (v1, cr1, r) = wdr w th c (v, cr, 0)) : (v1, cr1, y + r) = wdr w th c (v, cr, y) ∧ 0 ≤ r ∧ r ≤ 1 := by
  obtain ⟨q1, q2, q3⟩ := wdr_cnt w th c v cr y
  rw [q1, ← h]
  rw [← h] at q2 q3
  exact ⟨rfl, q2, q3⟩
