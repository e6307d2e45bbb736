/-! the questions: answers alike -/
theorem ent_in {n x v : Int} (h0 : 0 ≤ x) (h1 : x < n) (h2 : n ≤ 300) : (if x < 0 then (-1 : Int) else (if x < n then (if x < 300 then v else (-1)) else (-1))) = v := by
  rw [if_neg (show ¬ x < 0 by omega), if_pos h1, if_pos (show x < 300 by omega)]
theorem ent_out {n x v : Int} (h : ¬ (0 ≤ x ∧ x < n)) : (if x < 0 then (-1 : Int) else (if x < n then (if x < 300 then v else (-1)) else (-1))) = -1 := by
  by_cases c : x < 0
  · rw [if_pos c]
  · rw [if_neg c, if_neg (show ¬ x < n by omega)]
theorem AL_card1 {a b : Nat → Nat → Int} (h : ALK a) {x1 x2 : Int} (c : 0 ≤ x1 ∧ x1 < a 58 8) : f_X11_card a b x1 x2 = if x2 = 0 then a 154 x1.toNat else if x2 = 1 then a 155 x1.toNat else if x2 = 2 then a 156 x1.toNat else if x2 = 3 then a 157 x1.toNat else if x2 = 4 then vArr (cvR a) x1.toNat else if x2 = 5 then a 158 x1.toNat else if x2 = 6 then a 159 x1.toNat else -1 := by
  have nn := CI_n h.2.2.1
  have n8 : vN (cvC a) = a 58 8 := rfl
  have e0 : f_X0_fromOf a b x1 = a 154 x1.toNat := (ent_in c.1 c.2 (by omega)).trans (congrFun (congrArg vFr h.1) _)
  have e1 : f_X0_toOf a b x1 = a 155 x1.toNat := (ent_in c.1 c.2 (by omega)).trans (congrFun (congrArg vTo h.1) _)
  have e2 : f_X0_sentOnOf a b x1 = a 156 x1.toNat := (ent_in c.1 c.2 (by omega)).trans (congrFun (congrArg vSn h.1) _)
  have e3 : f_X0_boundOf a b x1 = a 157 x1.toNat := (ent_in c.1 c.2 (by omega)).trans (congrFun (congrArg vBd h.1) _)
  have e4 : f_X0_arrivedOnOf a b x1 = vArr (cvR a) x1.toNat := by
    have e := ARO_eq (b := b) h.2.2.1 (c := x1.toNat) (by omega)
    rw [Int.toNat_of_nonneg c.1] at e
    rw [e, h.1]
  have e5 : f_X0_ringOf a b x1 = a 158 x1.toNat := (ent_in c.1 c.2 (by omega)).trans (congrFun (congrArg vRg h.1) _)
  have e6 : f_X0_cancelledOnOf a b x1 = a 159 x1.toNat := (ent_in c.1 c.2 (by omega)).trans (congrFun (congrArg vOf h.1) _)
  unfold f_X11_card
  rw [e0, e1, e2, e3, e4, e5, e6]
  by_cases d : x2 < 0 ∨ 6 < x2
  · rw [if_pos d, if_neg (by omega), if_neg (by omega), if_neg (by omega), if_neg (by omega), if_neg (by omega), if_neg (by omega), if_neg (by omega)]
  · rw [if_neg d]
    rcases (show x2 = 0 ∨ x2 = 1 ∨ x2 = 2 ∨ x2 = 3 ∨ x2 = 4 ∨ x2 = 5 ∨ x2 = 6 by omega) with e | e | e | e | e | e | e <;> (subst e; simp)
theorem AL_card0 {a b : Nat → Nat → Int} {x1 x2 : Int} (c : ¬ (0 ≤ x1 ∧ x1 < a 58 8)) : f_X11_card a b x1 x2 = -1 := by
  have e0 : f_X0_fromOf a b x1 = -1 := ent_out c
  have e1 : f_X0_toOf a b x1 = -1 := ent_out c
  have e2 : f_X0_sentOnOf a b x1 = -1 := ent_out c
  have e3 : f_X0_boundOf a b x1 = -1 := ent_out c
  have e4 : f_X0_arrivedOnOf a b x1 = -1 := by
    have q : f_X11_entry_r65 a b (a 58 8) x1 = -1 := ent_out c
    unfold f_X0_arrivedOnOf
    rw [q]
    rfl
  have e5 : f_X0_ringOf a b x1 = -1 := ent_out c
  have e6 : f_X0_cancelledOnOf a b x1 = -1 := ent_out c
  unfold f_X11_card
  rw [e0, e1, e2, e3, e4, e5, e6]
  by_cases d : x2 < 0 ∨ 6 < x2
  · rw [if_pos d]
  · rw [if_neg d]
    rcases (show x2 = 0 ∨ x2 = 1 ∨ x2 = 2 ∨ x2 = 3 ∨ x2 = 4 ∨ x2 = 5 ∨ x2 = 6 by omega) with e | e | e | e | e | e | e <;> (subst e; simp)
theorem AL_may {a a1 b b2 : Nat → Nat → Int} (hb : BAS a) (h : ALK a) (cl : CLS a a1) {x y r r2 : Int} (x0 : 0 ≤ x) (x1 : x < a 4 6) (y0 : 0 ≤ y) (y1 : y < a 4 6) (p : MAYC a b x y r) (q : r2 = MGR a1 b2 x y) : r = r2 := by
  obtain ⟨a2, hf, ht, e⟩ := p
  have hs := SAMC_fr hf rfl
  have m := AL_mg (b := b) (b2 := b2) hb h x0 x1 (y := y.toNat) (by omega)
  rw [Int.toNat_of_nonneg y0] at m
  rw [e, q, MG_abs ht hs, RBC_fr (b := b) hs, m, SAM7_mg (SAM7_cl cl)]
theorem AL_alb {a b : Nat → Nat → Int} (hb : BAS a) (h : ALK a) (x : Int) : ∀ n : Nat, (n : Int) ≤ a 58 8 → ALC a b x (a 0 0) n = ALR (cvR a) (fun c => a 148 c) x (a 146 0) n
  | 0, _ => rfl
  | n + 1, hn => by
    have ih := AL_alb (b := b) hb h x n (by omega)
    have q := AL_card hb h (c := n) (by omega)
    have st := stNow_eq (b := b) h.2.2.1 (c := n) (by omega)
    have e1 : vTo (cvR a) n = a 60 n := by rw [← h.1]; rfl
    have e2 : vFr (cvR a) n = a 59 n := by rw [← h.1]; rfl
    have hp := HAS_P (vSt (cvC a) (a 0 0) n)
    have ld := AL_ld (b := b) hb q.1.1 q.1.2
    show (if a 60 n = x ∧ (f_X0_stateNow a b (n : Int) (a 0 0) = 1 ∨ f_X0_stateNow a b (n : Int) (a 0 0) = 3) then jxor (ALC a b x (a 0 0) n) (jxshl 1 (f_X3_landOf a b (a 59 n))) else ALC a b x (a 0 0) n) = (if vTo (cvR a) n = x ∧ HAS (vSt (cvR a) (a 146 0) n) = 1 then jxor (ALR (cvR a) (fun c => a 148 c) x (a 146 0) n) (jxshl 1 (a 148 (vFr (cvR a) n).toNat)) else ALR (cvR a) (fun c => a 148 c) x (a 146 0) n)
    rw [ih, st, e1, e2, ← h.1, ← hb.2.1, ld]
    unfold ldR
    unfold hasP at hp
    by_cases c : a 60 n = x ∧ (vSt (cvC a) (a 0 0) n = 1 ∨ vSt (cvC a) (a 0 0) n = 3)
    · rw [if_pos c, if_pos ⟨c.1, hp.2 c.2⟩]
    · rw [if_neg c, if_neg (fun z => c ⟨z.1, hp.1 z.2⟩)]
theorem stOn_early {a b : Nat → Nat → Int} {c : Nat} {d k ar : Int} (hc : (c : Int) < a 58 8) (h300 : a 58 8 ≤ 300) (hd : d < a 61 c) : f_X0_stateOn a b (c : Int) d k ar = -1 := by
  have hh : f_X0_has a b (c : Int) = 1 := by
    unfold f_X0_has
    rw [if_neg (show ¬ (c : Int) < 0 by omega), if_pos hc, if_pos (show (c : Int) < 300 by omega)]
  unfold f_X0_stateOn
  rw [hh, if_neg (show ¬ (1 : Int) = 0 by decide), Int.toNat_natCast, if_pos hd]
theorem AL_state {a b : Nat → Nat → Int} (hb : BAS a) (h : ALK a) {x d k : Int} (x0 : 0 ≤ x) (x1 : x < a 58 8) : f_X0_stateOn a b x d k (lastd (a 66) (a 67) (a 68) x k (a 58 12).toNat) = if a 156 x.toNat ≤ d then vStk (cvR a) (a 146 0) x.toNat d k else -1 := by
  have nn := CI_n h.2.2.1
  have n8 : vN (cvC a) = a 58 8 := rfl
  have e61 : a 61 x.toNat = a 156 x.toNat := congrFun (congrArg vSn h.1) _
  have ex : ((x.toNat : Nat) : Int) = x := Int.toNat_of_nonneg x0
  rw [← e61]
  by_cases c : a 61 x.toNat ≤ d
  · rw [if_pos c]
    have e := stOn_eq (a := a) (b := b) (c := x.toNat) (d := d) (k := k) (ar := lastd (a 66) (a 67) (a 68) x k (a 58 12).toNat) (by omega) (by omega) c
    rw [ex] at e
    rw [e, ← h.1, ← hb.2.1]
    show _ = STT (a 64 x.toNat) (a 61 x.toNat) (a 62 x.toNat) (if a 0 0 ≤ k then vArr (cvC a) x.toNat else vKn (cvC a) x.toNat k) d k
    have kn : vKn (cvC a) x.toNat k = lastd (a 66) (a 67) (a 68) x k (a 58 12).toNat := by
      show lastd (a 66) (a 67) (a 68) ((x.toNat : Nat) : Int) k (a 58 12).toNat = _
      rw [ex]
    by_cases w : a 0 0 ≤ k
    · rw [if_pos w, ← CI_kn h.2.2.1 (c := x.toNat) (by omega) w, kn]
    · rw [if_neg w, kn]
  · rw [if_neg c]
    have e := stOn_early (a := a) (b := b) (c := x.toNat) (d := d) (k := k) (ar := lastd (a 66) (a 67) (a 68) x k (a 58 12).toNat) (by omega) (by omega) (by omega)
    rw [ex] at e
    exact e
