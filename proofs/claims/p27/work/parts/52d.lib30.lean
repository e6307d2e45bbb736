/-! the cards, as either side keeps them: how many, rows of senders, receivers, days, bounds, rings, cancelled, latest tellings; how many tellings, rows of their cards, days, known days -/
abbrev CV : Type := Int × Int × (Nat → Int) × (Nat → Int) × (Nat → Int) × (Nat → Int) × (Nat → Int) × (Nat → Int) × (Nat → Int) × (Nat → Int) × (Nat → Int) × (Nat → Int)
def mkCV (n t : Int) (fr to sn bd rg ff lt tc td tk : Nat → Int) : CV := (n, t, fr, to, sn, bd, rg, ff, lt, tc, td, tk)
def vN (v : CV) : Int := v.1
def vT (v : CV) : Int := v.2.1
def vFr (v : CV) : Nat → Int := v.2.2.1
def vTo (v : CV) : Nat → Int := v.2.2.2.1
def vSn (v : CV) : Nat → Int := v.2.2.2.2.1
def vBd (v : CV) : Nat → Int := v.2.2.2.2.2.1
def vRg (v : CV) : Nat → Int := v.2.2.2.2.2.2.1
def vOf (v : CV) : Nat → Int := v.2.2.2.2.2.2.2.1
def vLt (v : CV) : Nat → Int := v.2.2.2.2.2.2.2.2.1
def vTc (v : CV) : Nat → Int := v.2.2.2.2.2.2.2.2.2.1
def vTd (v : CV) : Nat → Int := v.2.2.2.2.2.2.2.2.2.2.1
def vTk (v : CV) : Nat → Int := v.2.2.2.2.2.2.2.2.2.2.2
def cvC (a : Nat → Nat → Int) : CV := mkCV (a 58 8) (a 58 12) (a 59) (a 60) (a 61) (a 62) (a 63) (a 64) (a 65) (a 66) (a 67) (a 68)
def cvR (a : Nat → Nat → Int) : CV := mkCV (a 146 9) (a 146 17) (a 154) (a 155) (a 156) (a 157) (a 158) (a 159) (a 160) (a 161) (a 162) (a 163)
theorem mkCV_eq {n n2 t t2 : Int} {a a2 b b2 c c2 d d2 e e2 f f2 g g2 h h2 i i2 j j2 : Nat → Int} (e0 : n = n2) (e1 : t = t2) (r1 : a = a2) (r2 : b = b2) (r3 : c = c2) (r4 : d = d2) (r5 : e = e2) (r6 : f = f2) (r7 : g = g2) (r8 : h = h2) (r9 : i = i2) (r10 : j = j2) : mkCV n t a b c d e f g h i j = mkCV n2 t2 a2 b2 c2 d2 e2 f2 g2 h2 i2 j2 := by
  rw [e0, e1, r1, r2, r3, r4, r5, r6, r7, r8, r9, r10]
/-- a row written at a place -/
def rup (f : Nat → Int) (i : Nat) (v : Int) : Nat → Int := fun j => if j = i then v else f j
theorem rup_at (f : Nat → Int) (i : Nat) (v : Int) : rup f i v i = v := if_pos rfl
theorem rup_ne {f : Nat → Int} {i j : Nat} {v : Int} (h : ¬ j = i) : rup f i v j = f j := if_neg h
theorem UP_rup {f g : Nat → Int} {i : Nat} {v : Int} (h : UP f g i v) : g = rup f i v := funext fun j => h j
theorem jxu_rup (a : Nat → Nat → Int) (k i : Nat) (v : Int) : jxu a k i v k = rup (a k) i v := funext fun j => by
  show (if k = k then (if j = i then v else a k j) else a k j) = _
  rw [if_pos rfl]; rfl
theorem jxu_off {a : Nat → Nat → Int} {k i k2 : Nat} {v : Int} (h : ¬ k2 = k) : jxu a k i v k2 = a k2 := funext fun j => by
  show (if k2 = k then (if j = i then v else a k2 j) else a k2 j) = _
  rw [if_neg h]
/-- what the cards' rows are kept by -/
def cvW (W : List (Nat × Nat)) (k : Nat) (s t lo hi : Nat) : Bool := W.all (fun p => !(Nat.ble lo p.1 && Nat.ble p.1 hi) && !(Nat.beq p.1 k && (Nat.beq p.2 s || Nat.beq p.2 t || Nat.beq p.2 9999)))
theorem jfin_lo {W : List (Nat × Nat)} {k s t lo hi : Nat} (h : cvW W k s t lo hi = true) {r j : Nat} (h1 : lo ≤ r) (h2 : r ≤ hi) : jfin W r j = false := by
  induction W with
  | nil => rfl
  | cons p W ih =>
    obtain ⟨k1, s1⟩ := p
    unfold cvW at h
    simp only [List.all_cons, Bool.and_eq_true, Bool.not_eq_true'] at h
    have h3 := ih (by unfold cvW; exact h.2)
    unfold jfin
    have e : Nat.beq k1 r = false := by
      cases c : Nat.beq k1 r
      · rfl
      · have e := Nat.eq_of_beq_eq_true c
        have := h.1.1
        rw [e, Nat.ble_eq_true_of_le h1, Nat.ble_eq_true_of_le h2] at this
        cases this
    rw [e]
    exact h3
theorem jfin_sl {W : List (Nat × Nat)} {k s t lo hi : Nat} (h : cvW W k s t lo hi = true) {j : Nat} (hj : j = s ∨ j = t) : jfin W k j = false := by
  induction W with
  | nil => rfl
  | cons p W ih =>
    obtain ⟨k1, s1⟩ := p
    unfold cvW at h
    simp only [List.all_cons, Bool.and_eq_true, Bool.not_eq_true'] at h
    have h3 := ih (by unfold cvW; exact h.2)
    have h4 := h.1.2
    unfold jfin
    cases c : Nat.beq k1 k
    · exact h3
    · rw [c] at h4
      simp only [Bool.true_and, Bool.or_eq_false_iff] at h4
      rw [h4.2]
      have e : Nat.beq s1 j = false := by
        rcases hj with e | e
        · rw [e]; exact h4.1.1
        · rw [e]; exact h4.1.2
      rw [e]
      exact h3
theorem cvC_fr {W : List (Nat × Nat)} {a a1 : Nat → Nat → Int} (hf : jfr W a a1) (h : cvW W 58 8 12 59 68 = true) : cvC a1 = cvC a := by
  unfold cvC
  have r : ∀ k, 59 ≤ k → k ≤ 68 → a1 k = a k := fun k h1 h2 => funext fun j => hf k j (jfin_lo h h1 h2)
  rw [hf 58 8 (jfin_sl h (Or.inl rfl)), hf 58 12 (jfin_sl h (Or.inr rfl)), r 59 (by decide) (by decide), r 60 (by decide) (by decide), r 61 (by decide) (by decide), r 62 (by decide) (by decide), r 63 (by decide) (by decide), r 64 (by decide) (by decide), r 65 (by decide) (by decide), r 66 (by decide) (by decide), r 67 (by decide) (by decide), r 68 (by decide) (by decide)]
theorem cvR_fr {W : List (Nat × Nat)} {a a1 : Nat → Nat → Int} (hf : jfr W a a1) (h : cvW W 146 9 17 154 163 = true) : cvR a1 = cvR a := by
  unfold cvR
  have r : ∀ k, 154 ≤ k → k ≤ 163 → a1 k = a k := fun k h1 h2 => funext fun j => hf k j (jfin_lo h h1 h2)
  rw [hf 146 9 (jfin_sl h (Or.inl rfl)), hf 146 17 (jfin_sl h (Or.inr rfl)), r 154 (by decide) (by decide), r 155 (by decide) (by decide), r 156 (by decide) (by decide), r 157 (by decide) (by decide), r 158 (by decide) (by decide), r 159 (by decide) (by decide), r 160 (by decide) (by decide), r 161 (by decide) (by decide), r 162 (by decide) (by decide), r 163 (by decide) (by decide)]
/-! what becomes of the cards -/
def vAdd (v : CV) (f t s b r : Int) : CV := mkCV (vN v + 1) (vT v) (rup (vFr v) (vN v).toNat f) (rup (vTo v) (vN v).toNat t) (rup (vSn v) (vN v).toNat s) (rup (vBd v) (vN v).toNat b) (rup (vRg v) (vN v).toNat r) (rup (vOf v) (vN v).toNat (-1)) (rup (vLt v) (vN v).toNat (-1)) (vTc v) (vTd v) (vTk v)
def vTell (v : CV) (k d w : Int) : CV := mkCV (vN v) (vT v + 1) (vFr v) (vTo v) (vSn v) (vBd v) (vRg v) (vOf v) (rup (vLt v) k.toNat (vT v)) (rup (vTc v) (vT v).toNat k) (rup (vTd v) (vT v).toNat d) (rup (vTk v) (vT v).toNat w)
def vOff (v : CV) (k w : Int) : CV := mkCV (vN v) (vT v) (vFr v) (vTo v) (vSn v) (vBd v) (vRg v) (rup (vOf v) k.toNat w) (vLt v) (vTc v) (vTd v) (vTk v)
/-! what is known of a card -/
def vArr (v : CV) (c : Nat) : Int := if vLt v c < 0 then -1 else vTd v (vLt v c).toNat
def lastd (tc td tk : Nat → Int) (c k : Int) : Nat → Int
  | 0 => -1
  | n + 1 => if tc n = c ∧ tk n ≤ k then td n else lastd tc td tk c k n
def vKn (v : CV) (c : Nat) (k : Int) : Int := lastd (vTc v) (vTd v) (vTk v) c k (vT v).toNat
def STT (ff sn bd ar d k : Int) : Int := if ¬ ff = -1 ∧ ff ≤ d ∧ ff ≤ k then 4 else if ¬ ar = -1 ∧ ar ≤ d then (if jxw (ar - sn) < bd then 1 else 3) else (if jxw (d - sn) < bd then 0 else 2)
def vSt (v : CV) (w : Int) (c : Nat) : Int := STT (vOf v c) (vSn v c) (vBd v c) (vArr v c) w w
def vStk (v : CV) (w : Int) (c : Nat) (d k : Int) : Int := STT (vOf v c) (vSn v c) (vBd v c) (if w ≤ k then vArr v c else vKn v c k) d k
theorem STT_rg (ff sn bd ar d k : Int) : 0 ≤ STT ff sn bd ar d k ∧ STT ff sn bd ar d k ≤ 4 := by
  unfold STT
  split
  · omega
  · split
    · split <;> omega
    · split <;> omega
/-- what the cards keep: nm members, day w -/
def CI (v : CV) (nm w : Int) : Prop :=
  (0 ≤ vN v ∧ vN v ≤ 300 ∧ 0 ≤ vT v ∧ vT v ≤ 600) ∧
  (∀ c : Nat, (c : Int) < vN v → (0 ≤ vFr v c ∧ vFr v c < nm) ∧ (0 ≤ vTo v c ∧ vTo v c < nm) ∧ (0 ≤ vSn v c ∧ vSn v c ≤ w)) ∧
  (∀ c d : Nat, c ≤ d → (d : Int) < vN v → vSn v c ≤ vSn v d) ∧
  (∀ c : Nat, (c : Int) < vN v → vOf v c = -1 ∨ (0 ≤ vOf v c ∧ vOf v c ≤ w ∧ vArr v c = -1)) ∧
  (∀ c : Nat, (c : Int) < vN v → vLt v c = -1 ∨ (0 ≤ vLt v c ∧ vLt v c < vT v ∧ vTc v (vLt v c).toNat = c)) ∧
  (∀ k : Nat, (k : Int) < vT v → (0 ≤ vTc v k ∧ vTc v k < vN v) ∧ (vTd v k = -1 ∨ (vSn v (vTc v k).toNat ≤ vTd v k ∧ vTd v k ≤ w)) ∧ vTk v k ≤ w) ∧
  (∀ c : Nat, (c : Int) < vN v → ∀ K, w ≤ K → vKn v c K = vArr v c)
theorem CI_n {v : CV} {nm w : Int} (h : CI v nm w) : 0 ≤ vN v ∧ vN v ≤ 300 ∧ 0 ≤ vT v ∧ vT v ≤ 600 := h.1
theorem CI_c {v : CV} {nm w : Int} (h : CI v nm w) {c : Nat} (hc : (c : Int) < vN v) : (0 ≤ vFr v c ∧ vFr v c < nm) ∧ (0 ≤ vTo v c ∧ vTo v c < nm) ∧ (0 ≤ vSn v c ∧ vSn v c ≤ w) := h.2.1 c hc
theorem CI_mono {v : CV} {nm w : Int} (h : CI v nm w) {c d : Nat} (hcd : c ≤ d) (hd : (d : Int) < vN v) : vSn v c ≤ vSn v d := h.2.2.1 c d hcd hd
theorem CI_off {v : CV} {nm w : Int} (h : CI v nm w) {c : Nat} (hc : (c : Int) < vN v) : vOf v c = -1 ∨ (0 ≤ vOf v c ∧ vOf v c ≤ w ∧ vArr v c = -1) := h.2.2.2.1 c hc
theorem CI_lt {v : CV} {nm w : Int} (h : CI v nm w) {c : Nat} (hc : (c : Int) < vN v) : vLt v c = -1 ∨ (0 ≤ vLt v c ∧ vLt v c < vT v ∧ vTc v (vLt v c).toNat = c) := h.2.2.2.2.1 c hc
theorem CI_t {v : CV} {nm w : Int} (h : CI v nm w) {k : Nat} (hk : (k : Int) < vT v) : (0 ≤ vTc v k ∧ vTc v k < vN v) ∧ (vTd v k = -1 ∨ (vSn v (vTc v k).toNat ≤ vTd v k ∧ vTd v k ≤ w)) ∧ vTk v k ≤ w := h.2.2.2.2.2.1 k hk
theorem CI_kn {v : CV} {nm w : Int} (h : CI v nm w) {c : Nat} (hc : (c : Int) < vN v) {K : Int} (hK : w ≤ K) : vKn v c K = vArr v c := h.2.2.2.2.2.2 c hc K hK
theorem CI_arr {v : CV} {nm w : Int} (h : CI v nm w) {c : Nat} (hc : (c : Int) < vN v) : vArr v c = -1 ∨ (vSn v c ≤ vArr v c ∧ vArr v c ≤ w ∧ 0 ≤ vArr v c) := by
  unfold vArr
  rcases CI_lt h hc with e | ⟨e1, e2, e3⟩
  · rw [if_pos (by omega)]; exact Or.inl rfl
  · rw [if_neg (by omega)]
    have q := CI_t h (k := (vLt v c).toNat) (by omega)
    have s := (CI_c h hc).2.2
    rw [e3, Int.toNat_natCast] at q
    rcases q.2.1 with g | g
    · exact Or.inl g
    · exact Or.inr ⟨g.1, g.2, by omega⟩
theorem CI_le {v : CV} {nm nm2 w w2 : Int} (h : CI v nm w) (h1 : nm ≤ nm2) (h2 : w ≤ w2) : CI v nm2 w2 := by
  refine ⟨h.1, fun c hc => ?_, h.2.2.1, fun c hc => ?_, h.2.2.2.2.1, fun k hk => ?_, fun c hc K hK => CI_kn h hc (by omega)⟩
  · have q := CI_c h hc
    exact ⟨⟨q.1.1, by omega⟩, ⟨q.2.1.1, by omega⟩, q.2.2.1, by omega⟩
  · rcases CI_off h hc with q | q
    · exact Or.inl q
    · exact Or.inr ⟨q.1, by omega, q.2.2⟩
  · have q := CI_t h hk
    refine ⟨q.1, ?_, by omega⟩
    rcases q.2.1 with g | g
    · exact Or.inl g
    · exact Or.inr ⟨g.1, by omega⟩
theorem lastd_congr {tc td tk tc2 td2 tk2 : Nat → Int} {c K : Int} : ∀ {n : Nat}, (∀ k, k < n → tc k = tc2 k ∧ td k = td2 k ∧ tk k = tk2 k) → lastd tc td tk c K n = lastd tc2 td2 tk2 c K n
  | 0, _ => rfl
  | n + 1, h => by
    have e := lastd_congr (c := c) (K := K) (fun k hk => h k (Nat.lt_succ_of_lt hk))
    obtain ⟨a, b, d⟩ := h n (Nat.lt_succ_self n)
    show (if tc n = c ∧ tk n ≤ K then td n else lastd tc td tk c K n) = (if tc2 n = c ∧ tk2 n ≤ K then td2 n else lastd tc2 td2 tk2 c K n)
    rw [a, b, d, e]
theorem lastd_none {tc td tk : Nat → Int} {c K : Int} : ∀ {n : Nat}, (∀ k, k < n → ¬ tc k = c) → lastd tc td tk c K n = -1
  | 0, _ => rfl
  | n + 1, h => by
    show (if tc n = c ∧ tk n ≤ K then td n else lastd tc td tk c K n) = -1
    rw [if_neg (fun q => h n (Nat.lt_succ_self n) q.1)]
    exact lastd_none (fun k hk => h k (Nat.lt_succ_of_lt hk))
/-- a card comes -/
theorem CI_add {v : CV} {nm w f t b r : Int} (h : CI v nm w) (hn : vN v < 300) (hf : 0 ≤ f ∧ f < nm) (ht : 0 ≤ t ∧ t < nm) (hw : 0 ≤ w) : CI (vAdd v f t w b r) nm w := by
  have n0 := CI_n h
  have eN : vN (vAdd v f t w b r) = vN v + 1 := rfl
  have eT : vT (vAdd v f t w b r) = vT v := rfl
  have ne : ∀ c : Nat, (c : Int) < vN v → ¬ c = (vN v).toNat := fun c hc => by omega
  have cas : ∀ c : Nat, (c : Int) < vN v + 1 → (c : Int) < vN v ∨ c = (vN v).toNat := fun c hc => by omega
  have ar : ∀ c : Nat, (c : Int) < vN v → vArr (vAdd v f t w b r) c = vArr v c := fun c hc => by
    show (if rup (vLt v) (vN v).toNat (-1) c < 0 then -1 else vTd v (rup (vLt v) (vN v).toNat (-1) c).toNat) = _
    rw [rup_ne (ne c hc)]; rfl
  have ar2 : vArr (vAdd v f t w b r) (vN v).toNat = -1 := by
    show (if rup (vLt v) (vN v).toNat (-1) (vN v).toNat < 0 then -1 else _) = _
    rw [rup_at, if_pos (by decide)]
  refine ⟨?_, ?_, ?_, ?_, ?_, ?_, ?_⟩
  · rw [eN, eT]; omega
  · intro c hc
    rw [eN] at hc
    show (0 ≤ rup (vFr v) (vN v).toNat f c ∧ rup (vFr v) (vN v).toNat f c < nm) ∧ (0 ≤ rup (vTo v) (vN v).toNat t c ∧ rup (vTo v) (vN v).toNat t c < nm) ∧ (0 ≤ rup (vSn v) (vN v).toNat w c ∧ rup (vSn v) (vN v).toNat w c ≤ w)
    rcases cas c hc with q | q
    · rw [rup_ne (ne c q), rup_ne (ne c q), rup_ne (ne c q)]; exact CI_c h q
    · rw [q, rup_at, rup_at, rup_at]; exact ⟨hf, ht, hw, Int.le_refl _⟩
  · intro c d hcd hd
    rw [eN] at hd
    show rup (vSn v) (vN v).toNat w c ≤ rup (vSn v) (vN v).toNat w d
    rcases cas d hd with q | q
    · rw [rup_ne (ne d q), rup_ne (ne c (by omega))]; exact CI_mono h hcd q
    · rw [q, rup_at]
      by_cases e : c = (vN v).toNat
      · rw [e, rup_at]; exact Int.le_refl _
      · rw [rup_ne e]; exact (CI_c h (c := c) (by omega)).2.2.2
  · intro c hc
    rw [eN] at hc
    show rup (vOf v) (vN v).toNat (-1) c = -1 ∨ (0 ≤ rup (vOf v) (vN v).toNat (-1) c ∧ rup (vOf v) (vN v).toNat (-1) c ≤ w ∧ _)
    rcases cas c hc with q | q
    · rw [rup_ne (ne c q), ar c q]; exact CI_off h q
    · rw [q, rup_at]; exact Or.inl rfl
  · intro c hc
    rw [eN] at hc
    show rup (vLt v) (vN v).toNat (-1) c = -1 ∨ (0 ≤ rup (vLt v) (vN v).toNat (-1) c ∧ rup (vLt v) (vN v).toNat (-1) c < vT v ∧ vTc v (rup (vLt v) (vN v).toNat (-1) c).toNat = c)
    rcases cas c hc with q | q
    · rw [rup_ne (ne c q)]; exact CI_lt h q
    · rw [q, rup_at]; exact Or.inl rfl
  · intro k hk
    have q := CI_t h hk
    show (0 ≤ vTc v k ∧ vTc v k < vN v + 1) ∧ (vTd v k = -1 ∨ (rup (vSn v) (vN v).toNat w (vTc v k).toNat ≤ vTd v k ∧ vTd v k ≤ w)) ∧ vTk v k ≤ w
    rw [rup_ne (by omega)]
    exact ⟨⟨q.1.1, by omega⟩, q.2⟩
  · intro c hc K hK
    rw [eN] at hc
    show lastd (vTc v) (vTd v) (vTk v) c K (vT v).toNat = _
    rcases cas c hc with q | q
    · rw [ar c q]; exact CI_kn h q hK
    · rw [q, ar2]
      refine lastd_none (fun k hk e => ?_)
      have := (CI_t h (k := k) (by omega)).1
      omega
/-- a telling -/
theorem CI_tell {v : CV} {nm w k d : Int} (h : CI v nm w) (ht : vT v < 600) (hk : 0 ≤ k ∧ k < vN v) (ho : vOf v k.toNat = -1) (hd : d = -1 ∨ (vSn v k.toNat ≤ d ∧ d ≤ w)) : CI (vTell v k d w) nm w := by
  have n0 := CI_n h
  have ne : ∀ c : Nat, (c : Int) < vT v → ¬ c = (vT v).toNat := fun c hc => by omega
  have cas : ∀ c : Nat, (c : Int) < vT v + 1 → (c : Int) < vT v ∨ c = (vT v).toNat := fun c hc => by omega
  have ar : ∀ c : Nat, (c : Int) < vN v → ¬ c = k.toNat → vArr (vTell v k d w) c = vArr v c := fun c hc hck => by
    show (if rup (vLt v) k.toNat (vT v) c < 0 then -1 else rup (vTd v) (vT v).toNat d (rup (vLt v) k.toNat (vT v) c).toNat) = _
    rw [rup_ne hck]
    unfold vArr
    rcases CI_lt h hc with e | e
    · rw [if_pos (by omega), if_pos (by omega)]
    · rw [if_neg (by omega), if_neg (by omega), rup_ne (by omega)]
  have ar2 : vArr (vTell v k d w) k.toNat = d := by
    show (if rup (vLt v) k.toNat (vT v) k.toNat < 0 then -1 else rup (vTd v) (vT v).toNat d (rup (vLt v) k.toNat (vT v) k.toNat).toNat) = _
    rw [rup_at, if_neg (by omega), rup_at]
  refine ⟨?_, h.2.1, h.2.2.1, ?_, ?_, ?_, ?_⟩
  · show 0 ≤ vN v ∧ vN v ≤ 300 ∧ 0 ≤ vT v + 1 ∧ vT v + 1 ≤ 600
    omega
  · intro c hc
    show vOf v c = -1 ∨ (0 ≤ vOf v c ∧ vOf v c ≤ w ∧ _)
    by_cases e : c = k.toNat
    · rw [e]; exact Or.inl ho
    · rw [ar c hc e]; exact CI_off h hc
  · intro c hc
    show rup (vLt v) k.toNat (vT v) c = -1 ∨ (0 ≤ rup (vLt v) k.toNat (vT v) c ∧ rup (vLt v) k.toNat (vT v) c < vT v + 1 ∧ rup (vTc v) (vT v).toNat k (rup (vLt v) k.toNat (vT v) c).toNat = c)
    by_cases e : c = k.toNat
    · rw [e, rup_at, rup_at]; right; omega
    · rw [rup_ne e]
      rcases CI_lt h hc with q | q
      · exact Or.inl q
      · right
        rw [rup_ne (by omega)]
        exact ⟨q.1, by omega, q.2.2⟩
  · intro j hj
    show (0 ≤ rup (vTc v) (vT v).toNat k j ∧ rup (vTc v) (vT v).toNat k j < vN v) ∧ (rup (vTd v) (vT v).toNat d j = -1 ∨ (vSn v (rup (vTc v) (vT v).toNat k j).toNat ≤ rup (vTd v) (vT v).toNat d j ∧ rup (vTd v) (vT v).toNat d j ≤ w)) ∧ rup (vTk v) (vT v).toNat w j ≤ w
    rcases cas j hj with q | q
    · rw [rup_ne (ne j q), rup_ne (ne j q), rup_ne (ne j q)]; exact CI_t h q
    · rw [q, rup_at, rup_at, rup_at]; exact ⟨hk, hd, Int.le_refl _⟩
  · intro c hc K hK
    show lastd (rup (vTc v) (vT v).toNat k) (rup (vTd v) (vT v).toNat d) (rup (vTk v) (vT v).toNat w) c K (vT v + 1).toNat = _
    rw [show (vT v + 1).toNat = (vT v).toNat + 1 by omega]
    show (if rup (vTc v) (vT v).toNat k (vT v).toNat = c ∧ rup (vTk v) (vT v).toNat w (vT v).toNat ≤ K then rup (vTd v) (vT v).toNat d (vT v).toNat else lastd (rup (vTc v) (vT v).toNat k) (rup (vTd v) (vT v).toNat d) (rup (vTk v) (vT v).toNat w) c K (vT v).toNat) = _
    rw [rup_at, rup_at, rup_at]
    by_cases e : c = k.toNat
    · rw [if_pos ⟨by omega, hK⟩, e, ar2]
    · rw [if_neg (fun q => e (by omega)), ar c hc e, lastd_congr (tc2 := vTc v) (td2 := vTd v) (tk2 := vTk v) (fun j hj => ?_)]
      · exact CI_kn h hc hK
      · rw [rup_ne (by omega), rup_ne (by omega), rup_ne (by omega)]; exact ⟨rfl, rfl, rfl⟩
/-- a card under way is cancelled -/
theorem CI_cancel {v : CV} {nm w k : Int} (h : CI v nm w) (hk : 0 ≤ k ∧ k < vN v) (hs : vSt v w k.toNat = 0) (hw : 0 ≤ w) : CI (vOff v k w) nm w := by
  refine ⟨h.1, h.2.1, h.2.2.1, ?_, h.2.2.2.2.1, h.2.2.2.2.2.1, h.2.2.2.2.2.2⟩
  intro c hc
  show rup (vOf v) k.toNat w c = -1 ∨ (0 ≤ rup (vOf v) k.toNat w c ∧ rup (vOf v) k.toNat w c ≤ w ∧ vArr v c = -1)
  by_cases e : c = k.toNat
  · rw [e, rup_at]
    refine Or.inr ⟨hw, Int.le_refl _, ?_⟩
    rcases CI_arr h (c := k.toNat) (by omega) with q | q
    · exact q
    · exfalso
      unfold vSt STT at hs
      split at hs
      · omega
      · rw [if_pos (by omega)] at hs
        split at hs <;> omega
  · rw [rup_ne e]; exact CI_off h hc
/-! sums -/
def SUMN (f : Nat → Int) : Nat → Int
  | 0 => 0
  | n + 1 => SUMN f n + f n
theorem SUMN_congr {f g : Nat → Int} : ∀ {n : Nat}, (∀ k, k < n → f k = g k) → SUMN f n = SUMN g n
  | 0, _ => rfl
  | n + 1, h => by
    show SUMN f n + f n = SUMN g n + g n
    rw [SUMN_congr (fun k hk => h k (Nat.lt_succ_of_lt hk)), h n (Nat.lt_succ_self n)]
theorem SUMN_bd {f : Nat → Int} : ∀ {n : Nat}, (∀ k, k < n → 0 ≤ f k ∧ f k ≤ 1) → 0 ≤ SUMN f n ∧ SUMN f n ≤ n
  | 0, _ => ⟨Int.le_refl _, Int.le_refl _⟩
  | n + 1, h => by
    have a := SUMN_bd (fun k hk => h k (Nat.lt_succ_of_lt hk))
    have b := h n (Nat.lt_succ_self n)
    show 0 ≤ SUMN f n + f n ∧ SUMN f n + f n ≤ ((n + 1 : Nat) : Int)
    omega
/-- the last of a row that counts -/
def LASTN (p : Nat → Prop) (d : ∀ k, Decidable (p k)) (g : Nat → Int) : Nat → Int
  | 0 => -1
  | n + 1 => @ite Int (p n) (d n) (g n) (LASTN p d g n)
/-! the last ten arrivals: p tells which tellings count (1), d their days -/
def SPN (p d : Nat → Int) (c : Int) : Nat → Int × Int × Int → Int × Int × Int
  | 0, s => s
  | k + 1, (m, l, g) => if m < 10 then (if p k = 1 then SPN p d c k (m + 1, (if m = 0 ∧ c = 0 then d k else if d k < l then d k else l), if g < d k then d k else g) else SPN p d c k (m, l, g)) else (m, l, g)
theorem SPN_stop {p d : Nat → Int} {c : Int} {k : Nat} {m l g : Int} (h : ¬ m < 10) : SPN p d c k (m, l, g) = (m, l, g) := by
  cases k with
  | zero => rfl
  | succ k =>
    show (if m < 10 then _ else _) = _
    rw [if_neg h]
theorem SPN_no {p d : Nat → Int} {c : Int} {k : Nat} {m l g : Int} (h : m < 10) (hp : ¬ p k = 1) : SPN p d c (k + 1) (m, l, g) = SPN p d c k (m, l, g) := by
  show (if m < 10 then _ else _) = _
  rw [if_pos h, if_neg hp]
theorem SPN_yes {p d : Nat → Int} {c : Int} {k : Nat} {m l g : Int} (h : m < 10) (hp : p k = 1) : SPN p d c (k + 1) (m, l, g) = SPN p d c k (m + 1, (if m = 0 ∧ c = 0 then d k else if d k < l then d k else l), if g < d k then d k else g) := by
  show (if m < 10 then _ else _) = _
  rw [if_pos h, if_pos hp]
/-- how the two sides begin makes no difference once there is one -/
theorem SPN_both {p d p2 d2 : Nat → Int} : ∀ {k : Nat} {m l g l2 g2 : Int}, 0 ≤ m → (∀ j, j < k → p j = p2 j ∧ (p j = 1 → d j = d2 j ∧ 0 ≤ d j ∧ d j ≤ 1999)) → ((m = 0 ∧ l = -1 ∧ g = -1 ∧ l2 = 1000000 ∧ g2 = 0) ∨ (1 ≤ m ∧ l = l2 ∧ g = g2)) →
    ((SPN p d 0 k (m, l, g)).1 = (SPN p2 d2 1 k (m, l2, g2)).1 ∧ 0 ≤ (SPN p d 0 k (m, l, g)).1) ∧ ((SPN p d 0 k (m, l, g) = (0, -1, -1) ∧ SPN p2 d2 1 k (m, l2, g2) = (0, 1000000, 0)) ∨ (1 ≤ (SPN p d 0 k (m, l, g)).1 ∧ SPN p d 0 k (m, l, g) = SPN p2 d2 1 k (m, l2, g2)))
  | 0, m, l, g, l2, g2, hm, _, h => by
    refine ⟨⟨rfl, hm⟩, ?_⟩
    rcases h with ⟨a, b, c, e, f⟩ | ⟨a, b, c⟩
    · left; rw [a, b, c, e, f]; exact ⟨rfl, rfl⟩
    · right; rw [b, c]; exact ⟨a, rfl⟩
  | k + 1, m, l, g, l2, g2, hm, hp, h => by
    by_cases c10 : m < 10
    · obtain ⟨e, q⟩ := hp k (Nat.lt_succ_self k)
      by_cases c : p k = 1
      · obtain ⟨q1, q2, q3⟩ := q c
        rw [SPN_yes c10 c, SPN_yes c10 (by rw [← e]; exact c)]
        have z : ((if m = 0 ∧ (0 : Int) = 0 then d k else if d k < l then d k else l) = (if m = 0 ∧ (1 : Int) = 0 then d2 k else if d2 k < l2 then d2 k else l2)) ∧ (if g < d k then d k else g) = (if g2 < d2 k then d2 k else g2) := by
          rw [← q1]
          rcases h with ⟨a, b, c, e, f⟩ | ⟨a, b, c⟩
          · rw [if_pos ⟨a, rfl⟩, if_neg (fun q => by omega), if_pos (by omega), c, f, if_pos (by omega)]
            refine ⟨rfl, ?_⟩
            split <;> omega
          · rw [if_neg (show ¬ (m = 0 ∧ (0 : Int) = 0) from fun q => by omega), if_neg (show ¬ (m = 0 ∧ (1 : Int) = 0) from fun q => by omega), b, c]; exact ⟨rfl, rfl⟩
        rw [z.1, z.2]
        exact SPN_both (by omega) (fun j hj => hp j (Nat.lt_succ_of_lt hj)) (Or.inr ⟨by omega, rfl, rfl⟩)
      · rw [SPN_no c10 c, SPN_no c10 (by rw [← e]; exact c)]
        exact SPN_both hm (fun j hj => hp j (Nat.lt_succ_of_lt hj)) h
    · rw [SPN_stop c10, SPN_stop c10]
      refine ⟨⟨rfl, hm⟩, ?_⟩
      rcases h with ⟨a, b, c, e, f⟩ | ⟨a, b, c⟩
      · omega
      · right; rw [b, c]; exact ⟨a, rfl⟩

def HAS (s : Int) : Int := if s = 1 then 1 else if s = 3 then 1 else 0
theorem HAS_rg (s : Int) : 0 ≤ HAS s ∧ HAS s ≤ 1 := by
  unfold HAS
  split
  · omega
  · split <;> omega
theorem vStk_off {v : CV} {w : Int} {c : Nat} {d k : Int} (h : ¬ vOf v c = -1 ∧ vOf v c ≤ d ∧ vOf v c ≤ k) : vStk v w c d k = 4 := by
  unfold vStk STT
  rw [if_pos h]
theorem vStk_on {v : CV} {w : Int} {c : Nat} {d k r : Int} (h : ¬ (¬ vOf v c = -1 ∧ vOf v c ≤ d ∧ vOf v c ≤ k)) (hr : r = if w ≤ k then vArr v c else vKn v c k) : vStk v w c d k = if ¬ r = -1 ∧ r ≤ d then (if jxw (r - vSn v c) < vBd v c then 1 else 3) else (if jxw (d - vSn v c) < vBd v c then 0 else 2) := by
  unfold vStk STT
  rw [if_neg h, ← hr]
theorem vStk_now (v : CV) (w : Int) (c : Nat) : vStk v w c w w = vSt v w c := by
  unfold vStk vSt
  rw [if_pos (Int.le_refl _)]
theorem vSt_rg (v : CV) (w : Int) (c : Nat) : 0 ≤ vSt v w c ∧ vSt v w c ≤ 4 := STT_rg _ _ _ _ _ _
def gvF (v : CV) (w m : Int) (c : Nat) : Int := if vFr v c = m then HAS (vSt v w c) else 0
def gtF (v : CV) (w m : Int) (c : Nat) : Int := if vTo v c = m then HAS (vSt v w c) else 0
def cmF (v : CV) (w m : Int) (c : Nat) : Int := if vTo v c = m then (if vSt v w c = 0 then 1 else 0) else 0
def ohF (v : CV) (w m s : Int) (c : Nat) : Int := if vFr v c = m then (if vSt v w c = s then 1 else 0) else 0
def lsF (v : CV) (m : Int) : Nat → Int
  | 0 => -1
  | n + 1 => if vTo v n = m ∧ lsF v m n < vSn v n then vSn v n else lsF v m n
theorem gvF_rg (v : CV) (w m : Int) (c : Nat) : 0 ≤ gvF v w m c ∧ gvF v w m c ≤ 1 := by
  unfold gvF
  split
  · exact HAS_rg _
  · omega
theorem gtF_rg (v : CV) (w m : Int) (c : Nat) : 0 ≤ gtF v w m c ∧ gtF v w m c ≤ 1 := by
  unfold gtF
  split
  · exact HAS_rg _
  · omega
theorem cmF_rg (v : CV) (w m : Int) (c : Nat) : 0 ≤ cmF v w m c ∧ cmF v w m c ≤ 1 := by
  unfold cmF
  split
  · split <;> omega
  · omega
theorem ohF_rg (v : CV) (w m s : Int) (c : Nat) : 0 ≤ ohF v w m s c ∧ ohF v w m s c ≤ 1 := by
  unfold ohF
  split
  · split <;> omega
  · omega
/-- what is owed to a member: crd his credit -/
def vOwed (v : CV) (w crd m : Int) : Int := jxw (jxw (jxw (SUMN (gvF v w m) (vN v).toNat + crd) - SUMN (gtF v w m) (vN v).toNat) - SUMN (cmF v w m) (vN v).toNat)
/-- may he ask: is he there, his under way, his given, the rules -/
def vMay (th out giv r0 r1 : Int) : Int := if th = 0 then 0 else if out < jxw (r0 + (if r1 = 0 then 0 else jxw (Int.tdiv giv r1))) then 1 else 0
