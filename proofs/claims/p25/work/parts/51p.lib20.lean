/-! wishes: steps that the machine puts out may stand -/
def hgl : List Int → Nat
  | [] => 0
  | x :: r => if x = 7000 then hgl r else if x = 8000 ∨ x = 9000 then hgl r - 1 else hgl r + 1
def nal : List Int → Nat
  | [] => 0
  | x :: r => if x = 7000 then nal r else if x = 8000 ∨ x = 9000 then nal r else nal r + 1
def GOL : List Int → Prop
  | [] => True
  | x :: r => GOL r ∧ (x = 7000 → 1 ≤ hgl r) ∧ (x = 8000 ∨ x = 9000 → 2 ≤ hgl r) ∧ (¬ x = 7000 → ¬ x = 8000 → ¬ x = 9000 → 0 ≤ x ∧ x < 7000 ∧ hgl r ≤ 11)
def bns : List Int → Nat
  | [] => 0
  | x :: st => if x = 0 ∨ x = 1 then bns st + 1 else bns st
def WGD (c : WC) : Prop := GOL c.2.2.2.1 ∧ hgl c.2.2.2.1 ≤ nal c.2.2.2.1 ∧ (nal c.2.2.2.1 : Int) ≤ c.2.2.2.2.1 ∧ c.2.2.2.2.1 ≤ 12 ∧ (c.1 = 0 → hgl c.2.2.2.1 = bns c.2.2.1) ∧ (c.1 = 1 ∨ c.1 = 3 → hgl c.2.2.2.1 = bns c.2.2.1 + 1)
theorem hgl_at {x : Int} {r : List Int} (h0 : 0 ≤ x) (h : x < 7000) : hgl (x :: r) = hgl r + 1 := by
  show (if x = 7000 then hgl r else if x = 8000 ∨ x = 9000 then hgl r - 1 else hgl r + 1) = _
  rw [if_neg (by omega), if_neg (by omega)]
theorem nal_at {x : Int} {r : List Int} (h0 : 0 ≤ x) (h : x < 7000) : nal (x :: r) = nal r + 1 := by
  show (if x = 7000 then nal r else if x = 8000 ∨ x = 9000 then nal r else nal r + 1) = _
  rw [if_neg (by omega), if_neg (by omega)]
theorem AKx (f : Nat → Int) (n p : Nat) (h : ¬ AK f n p = -1) : 0 ≤ AK f n p ∧ AK f n p ≤ 6 := by
  rcases AK_sp f n p with q | q
  · exact absurd q.1 h
  · exact ⟨q.1, q.2.1⟩
/-- an atom is put out -/
theorem WGD_at {p : Nat} {st out : List Int} {at_ v x : Int} {p2 : Nat} (h : WGD (0, p, st, out, at_, v)) (hx0 : 0 ≤ x) (hx : x < 7000) (h12 : ¬ at_ = 12) : WGD (1, p2, st, x :: out, at_ + 1, 0) := by
  obtain ⟨h1, h2, h3, h4, h5, _⟩ := h
  have h2' : hgl out ≤ nal out := h2
  have h3' : (nal out : Int) ≤ at_ := h3
  have h4' : at_ ≤ 12 := h4
  have h5' : hgl out = bns st := h5 rfl
  refine ⟨⟨h1, fun e => by omega, fun e => by omega, fun _ _ _ => ⟨hx0, hx, by omega⟩⟩, ?_, ?_, ?_, ?_, ?_⟩
  · show hgl (x :: out) ≤ nal (x :: out)
    rw [hgl_at hx0 hx, nal_at hx0 hx]; omega
  · show (nal (x :: out) : Int) ≤ at_ + 1
    rw [nal_at hx0 hx]; omega
  · show at_ + 1 ≤ 12
    omega
  · intro e; exact absurd e (by decide : ¬ (1 = 0))
  · intro _
    show hgl (x :: out) = bns st + 1
    rw [hgl_at hx0 hx]; omega
theorem WGD_keep {m m2 p p2 : Nat} {st st2 out : List Int} {at_ v v2 : Int} (h : WGD (m, p, st, out, at_, v)) (hm : (m = 0 → m2 = 1 ∨ m2 = 3 → False) ∧ (m = 1 → m2 = 0 → bns st2 = bns st + 1) ∧ (m = 0 → m2 = 0 → bns st2 = bns st) ∧ (m = 1 → m2 = 1 ∨ m2 = 3 → bns st2 = bns st)) (h01 : m = 0 ∨ m = 1) : WGD (m2, p2, st2, out, at_, v2) := by
  obtain ⟨h1, h2, h3, h4, h5, h6⟩ := h
  refine ⟨h1, h2, h3, h4, fun e => ?_, fun e => ?_⟩
  · show hgl out = bns st2
    rcases h01 with q | q
    · have a : hgl out = bns st := h5 q
      rw [hm.2.2.1 q e]; exact a
    · have a : hgl out = bns st + 1 := h6 (Or.inl q)
      rw [hm.2.1 q e]; exact a
  · show hgl out = bns st2 + 1
    rcases h01 with q | q
    · exact absurd (hm.1 q e) id
    · have a : hgl out = bns st + 1 := h6 (Or.inl q)
      rw [hm.2.2.2 q e]; exact a
theorem WGD_0 {f : Nat → Int} {n p : Nat} {st out : List Int} {at_ v : Int} (h : WGD (0, p, st, out, at_, v)) : WGD (wst0 f n p st out at_) := by
  have ft : ∀ (p2 : Nat) (v2 : Int), WGD (2, p2, st, out, at_, v2) := fun p2 v2 => WGD_keep h ⟨fun _ e => by omega, fun e => by omega, fun _ e => by omega, fun e => by omega⟩ (Or.inl rfl)
  have pu : ∀ (p2 : Nat) (x : Int), ¬ x = 0 → ¬ x = 1 → WGD (0, p2, x :: st, out, at_, 0) := fun p2 x x0 x1 => WGD_keep h ⟨fun _ e => by omega, fun e => by omega, fun _ e => by
    show (if x = 0 ∨ x = 1 then bns st + 1 else bns st) = _
    rw [if_neg (by omega)], fun e => by omega⟩ (Or.inl rfl)
  unfold wst0
  by_cases t2 : TW f n p 2
  · rw [if_pos t2]
    by_cases d : dep st = 10
    · rw [if_pos d]; exact ft _ _
    · rw [if_neg d]; exact pu _ _ (by decide) (by decide)
  rw [if_neg t2]
  by_cases b : p < n ∧ f p = 40
  · rw [if_pos b]
    by_cases d : dep st = 10
    · rw [if_pos d]; exact ft _ _
    · rw [if_neg d]; exact pu _ _ (by decide) (by decide)
  rw [if_neg b]
  by_cases ha : AK f n p = -1
  · rw [if_pos ha]; exact ft _ _
  rw [if_neg ha]
  have hk := AKx f n p ha
  by_cases h12 : at_ = 12
  · rw [if_pos h12]; exact ft _ _
  rw [if_neg h12]
  by_cases hh : HIk (AK f n p) = -1
  · rw [if_pos hh]; exact WGD_at h (by omega) (by omega) h12
  rw [if_neg hh]
  by_cases hn : ¬ NF f n (AQ f n p) 0 (HIk (AK f n p)) = 0
  · rw [if_pos hn]; exact ft _ _
  rw [if_neg hn]
  have hb := NV_bd f n (AQ f n p)
  have h6 : ¬ AK f n p = 6 := fun e => hh (by rw [e]; rfl)
  exact WGD_at h (by omega) (by omega) h12
theorem WGD_1 {f : Nat → Int} {n p : Nat} {st out : List Int} {at_ v : Int} (h : WGD (1, p, st, out, at_, v)) : WGD (wst1 f n p st out at_) := by
  have ft : ∀ (p2 : Nat) (v2 : Int), WGD (2, p2, st, out, at_, v2) := fun p2 v2 => WGD_keep h ⟨fun _ e => by omega, fun _ e => by omega, fun _ e => by omega, fun _ e => by omega⟩ (Or.inr rfl)
  have fe : ∀ (p2 : Nat) (v2 : Int), WGD (3, p2, st, out, at_, v2) := fun p2 v2 => WGD_keep h ⟨fun e => by omega, fun _ e => by omega, fun _ e => by omega, fun _ e => rfl⟩ (Or.inr rfl)
  have pu : ∀ (p2 : Nat) (x : Int), x = 0 ∨ x = 1 → WGD (0, p2, x :: st, out, at_, 0) := fun p2 x hx => WGD_keep h ⟨fun e => by omega, fun _ e => by
    show (if x = 0 ∨ x = 1 then bns st + 1 else bns st) = _
    rw [if_pos hx], fun e => by omega, fun _ e => by omega⟩ (Or.inr rfl)
  obtain ⟨h1, h2, h3, h4, h5, h6⟩ := h
  have h2' : hgl out ≤ nal out := h2
  have h3' : (nal out : Int) ≤ at_ := h3
  have h6' : hgl out = bns st + 1 := h6 (Or.inl rfl)
  have popn : thd st = 2 → WGD (1, p, st.tail, 7000 :: out, at_, 0) := fun t => by
    have e := thd_c t (by decide)
    have eb : bns st = bns st.tail := by
      have e0 : bns st = bns (2 :: st.tail) := congrArg bns e
      rw [e0]; rfl
    refine ⟨⟨h1, fun _ => by omega, fun q => by omega, fun q => absurd rfl q⟩, h2', h3', h4, fun q => absurd q (by decide : ¬ (1 = 0)), fun _ => ?_⟩
    show hgl out = bns st.tail + 1
    omega
  have popb : ∀ x y : Int, thd st = x → x = 0 ∨ x = 1 → y = 8000 ∨ y = 9000 → WGD (1, p, st.tail, y :: out, at_, 0) := fun x y t hx hy => by
    have e := thd_c t (by omega)
    have eb : bns st = bns st.tail + 1 := by
      have e0 : bns st = bns (x :: st.tail) := congrArg bns e
      rw [e0]
      show (if x = 0 ∨ x = 1 then bns st.tail + 1 else bns st.tail) = _
      rw [if_pos hx]
    have eh : hgl (y :: out) = hgl out - 1 := by
      show (if y = 7000 then hgl out else if y = 8000 ∨ y = 9000 then hgl out - 1 else hgl out + 1) = _
      rw [if_neg (by omega), if_pos hy]
    have en : nal (y :: out) = nal out := by
      show (if y = 7000 then nal out else if y = 8000 ∨ y = 9000 then nal out else nal out + 1) = _
      rw [if_neg (by omega), if_pos hy]
    refine ⟨⟨h1, fun q => by omega, fun _ => by omega, fun _ q8 q9 => by omega⟩, ?_, ?_, h4, fun q => absurd q (by decide : ¬ (1 = 0)), fun _ => ?_⟩
    · show hgl (y :: out) ≤ nal (y :: out)
      omega
    · show (nal (y :: out) : Int) ≤ at_
      omega
    · show hgl (y :: out) = bns st.tail + 1
      omega
  unfold wst1
  by_cases t2 : thd st = 2
  · rw [if_pos t2]; exact popn t2
  rw [if_neg t2]
  by_cases w1 : TW f n p 1
  · rw [if_pos w1]
    by_cases t1 : thd st = 1
    · rw [if_pos t1]; exact popb 1 _ t1 (Or.inr rfl) (Or.inl rfl)
    · rw [if_neg t1]; exact pu _ _ (Or.inr rfl)
  rw [if_neg w1]
  by_cases w0 : TW f n p 0
  · rw [if_pos w0]
    by_cases t1 : thd st = 1
    · rw [if_pos t1]; exact popb 1 _ t1 (Or.inr rfl) (Or.inl rfl)
    rw [if_neg t1]
    by_cases t0 : thd st = 0
    · rw [if_pos t0]; exact popb 0 _ t0 (Or.inl rfl) (Or.inr rfl)
    · rw [if_neg t0]; exact pu _ _ (Or.inl rfl)
  rw [if_neg w0]
  by_cases t1 : thd st = 1
  · rw [if_pos t1]; exact popb 1 _ t1 (Or.inr rfl) (Or.inl rfl)
  rw [if_neg t1]
  by_cases t0 : thd st = 0
  · rw [if_pos t0]; exact popb 0 _ t0 (Or.inl rfl) (Or.inr rfl)
  rw [if_neg t0]
  by_cases b : p < n ∧ f p = 41
  · rw [if_pos b]
    by_cases t100 : thd st = 100
    · rw [if_pos t100]
      have e := thd_c t100 (by decide)
      have eb : bns st = bns st.tail := by
        have e0 : bns st = bns (100 :: st.tail) := congrArg bns e
        rw [e0]; rfl
      refine ⟨h1, h2, h3, h4, fun q => absurd q (by decide : ¬ (1 = 0)), fun _ => ?_⟩
      show hgl out = bns st.tail + 1
      omega
    · rw [if_neg t100]; exact ft _ _
  · rw [if_neg b]
    by_cases e : thd st = -5 ∧ n ≤ p
    · rw [if_pos e]; exact fe _ _
    · rw [if_neg e]; exact ft _ _
theorem WGD_all (f : Nat → Int) (n : Nat) : ∀ k, WGD (wit f n k)
  | 0 => ⟨trivial, Nat.le_refl _, Int.le_refl 0, show (0 : Int) ≤ 12 by decide, fun _ => rfl, fun e => e.elim (fun q => absurd q (show ¬ (0 = 1) by decide)) (fun q => absurd q (show ¬ (0 = 3) by decide))⟩
  | k + 1 => by
    have h := WGD_all f n k
    show WGD (wst f n (wit f n k))
    unfold wst
    by_cases m0 : (wit f n k).1 = 0
    · rw [if_pos m0]
      refine WGD_0 (v := 0) ?_
      obtain ⟨h1, h2, h3, h4, h5, h6⟩ := h
      exact ⟨h1, h2, h3, h4, fun _ => h5 m0, fun e => e.elim (fun q => absurd q (show ¬ (0 = 1) by decide)) (fun q => absurd q (show ¬ (0 = 3) by decide))⟩
    · rw [if_neg m0]
      by_cases m1 : (wit f n k).1 = 1
      · rw [if_pos m1]
        refine WGD_1 (v := 0) ?_
        obtain ⟨h1, h2, h3, h4, h5, h6⟩ := h
        exact ⟨h1, h2, h3, h4, fun e => absurd e (by decide : ¬ (1 = 0)), fun _ => h6 (Or.inl m1)⟩
      · rw [if_neg m1]; exact h
theorem RCH_GOL {f : Nat → Int} {n p : Nat} {out : List Int} {at_ v : Int} (h : RCH f n (3, p, [], out, at_, v)) : GOL out ∧ hgl out = 1 := by
  obtain ⟨k, hk⟩ := h
  have q := WGD_all f n k
  rw [hk] at q
  exact ⟨q.1, q.2.2.2.2.2 (Or.inr rfl)⟩
theorem GOL_WFS {f : Nat → Int} : ∀ {m : Nat}, GOL (OUL f m) → WFS f m ∧ HGT f m = hgl (OUL f m)
  | 0, _ => ⟨fun k hk => absurd hk (Nat.not_lt_zero k), rfl⟩
  | m + 1, h => by
    obtain ⟨h1, h2, h3, h4⟩ := h
    obtain ⟨q1, q2⟩ := GOL_WFS h1
    constructor
    · intro k hk
      rcases Nat.lt_or_ge k m with c | c
      · exact q1 k c
      · have e : k = m := by omega
        rw [e, q2]
        exact ⟨h2, h3, h4⟩
    · show (if f m = 7000 then HGT f m else if f m = 8000 ∨ f m = 9000 then HGT f m - 1 else HGT f m + 1) = (if f m = 7000 then hgl (OUL f m) else if f m = 8000 ∨ f m = 9000 then hgl (OUL f m) - 1 else hgl (OUL f m) + 1)
      rw [q2]
/-- what a reading without a fault comes to -/
def WOUT (f : Nat → Int) (n : Nat) (r : Int) (out : List Int) : Prop := (n ≤ SK f n 0 ∧ out = [] ∧ r = 0) ∨ (SK f n 0 < n ∧ ∃ p : Nat, RCH f n (3, p, [], out, r, 0))
theorem WOUT_det {f : Nat → Int} {n : Nat} {r r2 : Int} {out out2 : List Int} (h : WOUT f n r out) (h2 : WOUT f n r2 out2) : out = out2 := by
  rcases h with ⟨a1, a2, a3⟩ | ⟨a1, p, a2⟩ <;> rcases h2 with ⟨b1, b2, b3⟩ | ⟨b1, p2, b2⟩
  · rw [a2, b2]
  · omega
  · omega
  · have e := RCH_end a2 b2 (show 2 ≤ 3 by decide) (show 2 ≤ 3 by decide)
    exact congrArg (fun c : WC => c.2.2.2.1) e
theorem WOUT_ok {f : Nat → Int} {n : Nat} {r : Int} {out : List Int} (h : WOUT f n r out) : GOL out ∧ (out = [] ∨ hgl out = 1) := by
  rcases h with ⟨a1, a2, a3⟩ | ⟨a1, p, a2⟩
  · rw [a2]; exact ⟨trivial, Or.inl rfl⟩
  · have q := RCH_GOL a2
    exact ⟨q.1, Or.inr q.2⟩
/-- what a call of a reader leaves: the rows of the members' wishes (k: steps, kn: how many, w: of a row, d: their codes) -/
def WSAME (a a1 : Nat → Nat → Int) (k kn : Nat) : Prop := (∀ j, a1 k j = a k j) ∧ ∀ j, a1 kn j = a kn j
def WKEP (a a1 : Nat → Nat → Int) (k kn w : Nat) (d : Int → Int) (x : Nat) (out : List Int) : Prop := OUL (fun i => d (a1 k (x * w + i))) (a1 kn x).toNat = out ∧ (∀ j, ¬ j = x → a1 kn j = a kn j) ∧ (∀ j, j < x * w ∨ x * w + w ≤ j → a1 k j = a k j)
def WCALL (f : Nat → Int) (n : Nat) (a a1 : Nat → Nat → Int) (k kn w : Nat) (d : Int → Int) (x : Nat) : Prop := ((SK f n 0 < n ∧ ∃ (p : Nat) (st out : List Int) (at_ v : Int), RCH f n (2, p, st, out, at_, v)) ∧ WSAME a a1 k kn) ∨ ∃ (r : Int) (out : List Int), WOUT f n r out ∧ WKEP a a1 k kn w d x out
theorem WOUT_no {f : Nat → Int} {n : Nat} {r : Int} {out : List Int} (h : WOUT f n r out) (h2 : SK f n 0 < n ∧ ∃ (p : Nat) (st out : List Int) (at_ v : Int), RCH f n (2, p, st, out, at_, v)) : False := by
  obtain ⟨q1, p2, st, out2, at_, v, q2⟩ := h2
  rcases h with ⟨a1, a2, a3⟩ | ⟨a1, p, a2⟩
  · omega
  · have e := RCH_end a2 q2 (show 2 ≤ 3 by decide) (show 2 ≤ 2 by decide)
    exact absurd (congrArg (fun c : WC => c.1) e) (by decide : ¬ (3 = 2))
/-- the wishes kept, both sides alike -/
def idz (x : Int) : Int := x
def WISHR (a : Nat → Nat → Int) : Prop := ∀ m, m < 40 → OUL (fun i => idz (a 12 (m * 40 + i))) (a 53 m).toNat = OUL (fun i => DEC (a 166 (m * 64 + i))) (a 167 m).toNat ∧ GOL (OUL (fun i => idz (a 12 (m * 40 + i))) (a 53 m).toNat) ∧ ((a 53 m).toNat = 0 ∨ hgl (OUL (fun i => idz (a 12 (m * 40 + i))) (a 53 m).toNat) = 1)
theorem OUL_nil {f : Nat → Int} {m : Nat} (h : OUL f m = []) : m = 0 := by
  have q := OUL_len f m
  rw [h] at q
  exact q.symm
theorem WISHR_fr {W : List (Nat × Nat)} {a a1 : Nat → Nat → Int} (h : WISHR a) (hf : jfr W a a1) (h1 : ∀ j, jfin W 12 j = false) (h2 : ∀ j, jfin W 53 j = false) (h3 : ∀ j, jfin W 166 j = false) (h4 : ∀ j, jfin W 167 j = false) : WISHR a1 := by
  have e1 : a1 12 = a 12 := funext fun j => hf 12 j (h1 j)
  have e2 : a1 53 = a 53 := funext fun j => hf 53 j (h2 j)
  have e3 : a1 166 = a 166 := funext fun j => hf 166 j (h3 j)
  have e4 : a1 167 = a 167 := funext fun j => hf 167 j (h4 j)
  intro m hm
  rw [e1, e2, e3, e4]
  exact h m hm
theorem WISHR_calls {f : Nat → Int} {n : Nat} {a a1 a2 : Nat → Nat → Int} {x : Nat} (h : WISHR a) (hx : x < 40) (c1 : WCALL f n a a1 12 53 40 idz x) (s1 : WSAME a a1 166 167) (c2 : WCALL f n a1 a2 166 167 64 DEC x) (s2 : WSAME a1 a2 12 53) (hb1 : ∀ j, a 53 j ≤ 40) (hb2 : ∀ j, a 167 j ≤ 64) : WISHR a2 := by
  have e1 : a2 12 = a1 12 := funext fun j => s2.1 j
  have e2 : a2 53 = a1 53 := funext fun j => s2.2 j
  have e3 : a1 166 = a 166 := funext fun j => s1.1 j
  have e4 : a1 167 = a 167 := funext fun j => s1.2 j
  intro m hm
  rw [e1, e2]
  rcases c1 with ⟨b1, b2⟩ | ⟨r, out, b1, b2, b3, b4⟩ <;> rcases c2 with ⟨d1, d2⟩ | ⟨r2, out2, d1, d2, d3, d4⟩
  · have g1 : a1 12 = a 12 := funext fun j => b2.1 j
    have g2 : a1 53 = a 53 := funext fun j => b2.2 j
    have g3 : a2 166 = a1 166 := funext fun j => d2.1 j
    have g4 : a2 167 = a1 167 := funext fun j => d2.2 j
    rw [g1, g2, g3, g4, e3, e4]
    exact h m hm
  · exact absurd (WOUT_no d1 b1) id
  · exact absurd (WOUT_no b1 d1) id
  · by_cases c : m = x
    · subst c
      have ho := WOUT_ok b1
      rw [b2, d2]
      refine ⟨WOUT_det b1 d1, ho.1, ?_⟩
      rcases ho.2 with q | q
      · rw [q] at b2; exact Or.inl (OUL_nil b2)
      · exact Or.inr q
    · have q := h m hm
      rw [b3 m c, d3 m c, e4]
      have o1 : ∀ N : Nat, N ≤ 40 → OUL (fun i => idz (a1 12 (m * 40 + i))) N = OUL (fun i => idz (a 12 (m * 40 + i))) N := fun N hN => OUL_eq (fun i hi => by
        show idz (a1 12 (m * 40 + i)) = idz (a 12 (m * 40 + i))
        rw [b4 (m * 40 + i) (by omega)])
      have o2 : ∀ N : Nat, N ≤ 64 → OUL (fun i => DEC (a2 166 (m * 64 + i))) N = OUL (fun i => DEC (a 166 (m * 64 + i))) N := fun N hN => OUL_eq (fun i hi => by
        show DEC (a2 166 (m * 64 + i)) = DEC (a 166 (m * 64 + i))
        rw [d4 (m * 64 + i) (by omega), e3])
      have n1 := hb1 m
      have n2 := hb2 m
      rw [o1 _ (by omega), o2 _ (by omega)]
      exact q
theorem WCALL_r {f : Nat → Int} {n : Nat} {a a1 a2 : Nat → Nat → Int} {k kn w : Nat} {d : Int → Int} {x : Nat} (h : WCALL f n a a1 k kn w d x) (e1 : ∀ j, a2 k j = a1 k j) (e2 : ∀ j, a2 kn j = a1 kn j) : WCALL f n a a2 k kn w d x := by
  rcases h with ⟨b1, b2⟩ | ⟨r, out, b1, b2, b3, b4⟩
  · exact Or.inl ⟨b1, fun j => (e1 j).trans (b2.1 j), fun j => (e2 j).trans (b2.2 j)⟩
  · refine Or.inr ⟨r, out, b1, ?_, fun j hj => (e2 j).trans (b3 j hj), fun j hj => (e1 j).trans (b4 j hj)⟩
    rw [e2 x, OUL_eq (f := fun i => d (a2 k (x * w + i))) (g := fun i => d (a1 k (x * w + i))) (fun i _ => congrArg d (e1 _))]
    exact b2
theorem WCALL_f {a0 a : Nat → Nat → Int} {x : Nat} (h : WOK a0 a) (h0 : ¬ a 2 3 = 0) (s1 : ∀ j, a 12 j = a0 12 j) (s2 : ∀ j, a 53 j = a0 53 j) : WCALL (a0 3) (a0 2 1).toNat a0 a 12 53 40 idz x := by
  rcases h with ⟨q1, q2, q3⟩ | ⟨q1, q2 | q2⟩
  · exact absurd q2 h0
  · exact absurd q2.1 h0
  · obtain ⟨_, p, st, out, at_, q⟩ := q2
    exact Or.inl ⟨⟨q1, p, st, out, at_, _, q⟩, s1, s2⟩
theorem WCALL_g {a0 a a1 : Nat → Nat → Int} {r x : Int} (h : WOUT (a0 3) (a0 2 1).toNat r (OUL (a 54) (a 11 6).toNat)) (h6 : 0 ≤ a 11 6) (s1 : ∀ j, a 12 j = a0 12 j) (s2 : ∀ j, a 53 j = a0 53 j) (u : UP (a 53) (a1 53) x.toNat (a 11 6)) (k : ∀ k : Nat, (k : Int) < a 11 6 → a1 12 (x.toNat * 40 + k) = a 54 k) (o : ∀ j : Nat, (j < x.toNat * 40 ∨ x.toNat * 40 + 40 ≤ j) → a1 12 j = a 12 j) : WCALL (a0 3) (a0 2 1).toNat a0 a1 12 53 40 idz x.toNat := by
  refine Or.inr ⟨r, _, h, ?_, fun j hj => ?_, fun j hj => (o j hj).trans (s1 j)⟩
  · have e := u x.toNat
    rw [if_pos rfl] at e
    rw [e]
    exact OUL_eq (fun i hi => k i (by omega))
  · have e := u j
    rw [if_neg hj] at e
    exact e.trans (s2 j)
theorem WCALL_q {a0 a : Nat → Nat → Int} {x : Nat} (h : QF a0 a) (h0 : SK (UB (a0 164)) (a0 146 22).toNat 0 < (a0 146 22).toNat) {a1 : Nat → Nat → Int} (s1 : ∀ j, a1 166 j = a0 166 j) (s2 : ∀ j, a1 167 j = a0 167 j) : WCALL (UB (a0 164)) (a0 146 22).toNat a0 a1 166 167 64 DEC x := by
  obtain ⟨_, p, st, out, at_, q⟩ := h
  exact Or.inl ⟨⟨h0, p, st, out, at_, _, q⟩, s1, s2⟩
theorem WCALL_k {a0 a : Nat → Nat → Int} {r x : Int} (h : WOUT (UB (a0 164)) (a0 146 22).toNat r (OUL (fun i => DEC (a 168 i)) (a 146 32).toNat)) (h6 : 0 ≤ a 146 32) (u : UP (a0 167) (a 167) x.toNat (a 146 32)) (k : ∀ k : Nat, (k : Int) < a 146 32 → a 166 (x.toNat * 64 + k) = a 168 k) (o : ∀ j : Nat, (j < x.toNat * 64 ∨ x.toNat * 64 + 64 ≤ j) → a 166 j = a0 166 j) : WCALL (UB (a0 164)) (a0 146 22).toNat a0 a 166 167 64 DEC x.toNat := by
  refine Or.inr ⟨r, _, h, ?_, fun j hj => ?_, o⟩
  · have e := u x.toNat
    rw [if_pos rfl] at e
    rw [e]
    exact OUL_eq (fun i hi => congrArg DEC (k i (by omega)))
  · have e := u j
    rw [if_neg hj] at e
    exact e
/-- a call of wish, class and reference -/
def WCX (a a1 : Nat → Nat → Int) (x : Int) : Prop := (0 ≤ x → x < a 4 6 → a 2 1 ≤ 100 → WCALL (a 3) (a 2 1).toNat a a1 12 53 40 idz x.toNat) ∧ (x < 0 ∨ a 4 6 ≤ x ∨ 100 < a 2 1 → WSAME a a1 12 53)
def WRX (a a1 : Nat → Nat → Int) (x : Int) : Prop := (0 ≤ x → x < a 146 2 → a 146 22 ≤ 100 → WCALL (UB (a 164)) (a 146 22).toNat a a1 166 167 64 DEC x.toNat) ∧ (x < 0 ∨ a 146 2 ≤ x ∨ 100 < a 146 22 → WSAME a a1 166 167)
theorem WISH_law {a a1 a2 : Nat → Nat → Int} {x : Int} (h : WISHR a) (hT : TAPE a) (hn : a 2 1 = a 146 22) (hm : a 4 6 = a 146 2) (h40 : a 4 6 ≤ 40) (c1 : WCX a a1 x) (c2 : WRX a1 a2 x) (s1 : WSAME a a1 166 167) (e1 : ∀ j, a1 164 j = a 164 j) (e22 : a1 146 22 = a 146 22) (e2 : a1 146 2 = a 146 2) (s2 : WSAME a1 a2 12 53) (hb1 : ∀ j, a 53 j ≤ 40) (hb2 : ∀ j, a 167 j ≤ 64) : WISHR a2 := by
  by_cases c : 0 ≤ x ∧ x < a 4 6 ∧ a 2 1 ≤ 100
  · have d1 := c1.1 c.1 c.2.1 c.2.2
    have d2 := c2.1 c.1 (by omega) (by omega)
    rw [e22, ← hn, show UB (a1 164) = a 3 from funext fun j => by rw [UB_same e1 j, hT j]] at d2
    exact WISHR_calls h (by omega) d1 s1 d2 s2 hb1 hb2
  · have d1 := c1.2 (by omega)
    have d2 := c2.2 (by omega)
    have g1 : a2 12 = a 12 := funext fun j => (s2.1 j).trans (d1.1 j)
    have g2 : a2 53 = a 53 := funext fun j => (s2.2 j).trans (d1.2 j)
    have g3 : a2 166 = a 166 := funext fun j => (d2.1 j).trans (s1.1 j)
    have g4 : a2 167 = a 167 := funext fun j => (d2.2 j).trans (s1.2 j)
    intro m hm
    rw [g1, g2, g3, g4]
    exact h m hm
