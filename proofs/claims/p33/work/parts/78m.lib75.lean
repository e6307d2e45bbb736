/-! the drawer, both sides alike -/
theorem WAYS_cg {c c2 : Nat → Nat} {v v2 : Nat → Int} {k : Nat} {s : Int} {n : Nat → Nat} (hc : ∀ i, i < 8 → c i = c2 i) (hv : ∀ i, i < 8 → v i = v2 i) (h : WAYS c v k s n) : WAYS c2 v2 k s n :=
  ⟨fun i hi => by rw [← hc i hi]; exact h.1 i hi, h.2.1, by rw [← h.2.2]; exact SUMN_congr (fun i hi => by rw [hv i hi])⟩
theorem PAYX_cg {c c2 : Nat → Nat} {v v2 : Nat → Int} {x : Int} (hc : ∀ i, i < 8 → c i = c2 i) (hv : ∀ i, i < 8 → v i = v2 i) (h : PAYX c v x) : PAYX c2 v2 x :=
  fun s h1 h2 n hn => h s h1 h2 n (WAYS_cg (fun i hi => (hc i hi).symm) (fun i hi => (hv i hi).symm) hn)
theorem PAYC_cg {c c2 : Nat → Nat} {v v2 : Nat → Int} {x r : Int} {q : Nat → Nat} (hc : ∀ i, i < 8 → c i = c2 i) (hv : ∀ i, i < 8 → v i = v2 i) (h : PAYC c v x r q) : PAYC c2 v2 x r q :=
  ⟨h.1, h.2.1, fun s h1 h2 n hn => h.2.2.1 s h1 h2 n (WAYS_cg (fun i hi => (hc i hi).symm) (fun i hi => (hv i hi).symm) hn), WAYS_cg hc hv h.2.2.2.1, h.2.2.2.2.1, fun m hm => h.2.2.2.2.2 m (WAYS_cg (fun i hi => (hc i hi).symm) (fun i hi => (hv i hi).symm) hm)⟩
def DRW (a : Nat → Nat → Int) : Prop := (∀ i : Nat, i < 8 → a 142 i = a 196 i ∧ a 143 i = a 197 i) ∧ ((a 146 75 = 0 ∧ ∀ i : Nat, i < 8 → a 144 i = -1) ∨ (¬ a 146 75 = 0 ∧ ∀ i : Nat, i < 8 → a 144 i = a 198 i))
theorem DRW_fr {W : List (Nat × Nat)} {a a1 : Nat → Nat → Int} (h : DRW a) (hf : jfr W a a1) (h1 : ∀ j, jfin W 142 j = false) (h2 : ∀ j, jfin W 143 j = false) (h3 : ∀ j, jfin W 144 j = false) (h4 : jfin W 146 75 = false) (h5 : ∀ j, jfin W 196 j = false) (h6 : ∀ j, jfin W 197 j = false) (h7 : ∀ j, jfin W 198 j = false) : DRW a1 := by
  refine ⟨fun i hi => ?_, ?_⟩
  · rw [hf 142 i (h1 i), hf 143 i (h2 i), hf 196 i (h5 i), hf 197 i (h6 i)]
    exact h.1 i hi
  · rcases h.2 with z | z
    · exact Or.inl ⟨by rw [hf 146 75 h4]; exact z.1, fun i hi => by rw [hf 144 i (h3 i)]; exact z.2 i hi⟩
    · exact Or.inr ⟨by rw [hf 146 75 h4]; exact z.1, fun i hi => by rw [hf 144 i (h3 i), hf 198 i (h7 i)]; exact z.2 i hi⟩
theorem DRH_eq {v n v2 n2 : Nat → Int} (h : DRH v n) (e : ∀ i : Nat, i < 8 → v2 i = v i ∧ n2 i = n i) : DRH v2 n2 := fun i hi => by
  rw [(e i hi).1, (e i hi).2]; exact h i hi
/-- what a call of the class leaves of the reference's drawer, and the other way round -/
def KDR (a a1 : Nat → Nat → Int) : Prop := a1 196 = a 196 ∧ a1 197 = a 197 ∧ a1 198 = a 198 ∧ a1 146 75 = a 146 75
def KDC (a a1 : Nat → Nat → Int) : Prop := a1 142 = a 142 ∧ a1 143 = a 143 ∧ a1 144 = a 144
theorem KDR_fr {W : List (Nat × Nat)} {a a1 : Nat → Nat → Int} (hf : jfr W a a1) (h : (jfin W 196 0, jfin W 197 0, jfin W 198 0, jfin W 146 75) = (false, false, false, false)) (h5 : ∀ j, jfin W 196 j = false) (h6 : ∀ j, jfin W 197 j = false) (h7 : ∀ j, jfin W 198 j = false) : KDR a a1 :=
  ⟨funext fun j => hf 196 j (h5 j), funext fun j => hf 197 j (h6 j), funext fun j => hf 198 j (h7 j), hf 146 75 (by injection h with _ h; injection h with _ h; injection h)⟩
theorem KDC_fr {W : List (Nat × Nat)} {a a1 : Nat → Nat → Int} (hf : jfr W a a1) (h5 : ∀ j, jfin W 142 j = false) (h6 : ∀ j, jfin W 143 j = false) (h7 : ∀ j, jfin W 144 j = false) : KDC a a1 :=
  ⟨funext fun j => hf 142 j (h5 j), funext fun j => hf 143 j (h6 j), funext fun j => hf 144 j (h7 j)⟩
theorem DRW_same {a a1 a2 : Nat → Nat → Int} (h : DRW a) (e1 : KDR a a1) (e2 : KDC a1 a2) (c : a1 = a) (d : PAS a1 a2) (d6 : a2 196 = a1 196) : DRW a2 := by
  subst c
  obtain ⟨p1, p2, p3⟩ := d
  obtain ⟨q1, q2, q3⟩ := e2
  refine ⟨fun i hi => ?_, ?_⟩
  · rw [q1, q2, d6, p1]; exact h.1 i hi
  · rcases h.2 with z | z
    · exact Or.inl ⟨by rw [p3]; exact z.1, fun i hi => by rw [q3]; exact z.2 i hi⟩
    · exact Or.inr ⟨by rw [p3]; exact z.1, fun i hi => by rw [q3, p2]; exact z.2 i hi⟩
/-- pay -/
theorem DRW_pay {a a1 a2 : Nat → Nat → Int} {p r1 r2 : Int} (hv : iv a) (hs : SV a) (h : DRW a) (e1 : KDR a a1) (e2 : KDC a1 a2) (d6 : a2 196 = a1 196) (e142 : a1 142 = a 142) (hp : p = -2 ∨ (1 ≤ p ∧ p ≤ 900)) (h1 : PAO a a1 p r1) (h2 : PAR a1 a2 p r2) : r1 = r2 ∧ DRW a2 := by
  have hR := DRH_of hv hs
  have hD : DRH (a 142) (a 143) := DRH_eq hR h.1
  have ec : ∀ i, i < 8 → cN (a 143) i = cN (a1 197) i := fun i hi => by unfold cN; rw [e1.2.1, (h.1 i hi).2]
  have ev : ∀ i, i < 8 → a 142 i = a1 196 i := fun i hi => by rw [e1.1]; exact (h.1 i hi).1
  have c50 : ∀ i, i < 8 → cN (a1 197) i ≤ 50 := by rw [e1.2.1]; exact (DRH_c hR).1
  rcases h2 with ⟨z1, z2, z3⟩ | ⟨z1, z2⟩
  · rcases h1 with ⟨y1, y2, y3⟩ | ⟨y1, _⟩
    · exact ⟨by rw [y2, z2], DRW_same h e1 e2 y3 z3 d6⟩
    · exact absurd z1 y1
  · rcases h1 with ⟨y1, _⟩ | ⟨_, y2⟩
    · exact absurd y1 z1
    · rcases hp with hp | hp
      · exact absurd hp z1
      · rcases y2 hD hp.1 hp.2 with ⟨w1, w2, w3⟩ | ⟨w1, q, w2, w3⟩
        · rcases z2 with ⟨u1, _, u3⟩ | ⟨_, _, u3, _⟩
          · exact ⟨by rw [w1, u1], DRW_same h e1 e2 w3 u3 d6⟩
          · exact absurd u3 (fun u => PAY_X (PAYX_cg ec ev w2) u)
        · rcases z2 with ⟨_, u2, _⟩ | ⟨_, u2, u3, u4⟩
          · exact absurd (PAYC_cg ec ev w2) (fun u => PAYC_X u2 u)
          · have o := PAY_one c50 (PAYC_cg ec ev w2) u3
            refine ⟨o.1, fun i hi => ?_, Or.inr ⟨by rw [u2]; decide, fun i hi => ?_⟩⟩
            · have o2 := o.2 i hi
              have u := u4 i hi
              have w := w3 i hi
              have b := h.1 i hi
              have x1 := congrFun e2.1 i
              have x2 := congrFun e2.2.1 i
              have x3 := congrFun d6 i
              have x4 := congrFun e1.1 i
              have x5 := congrFun e1.2.1 i
              have x6 := congrFun e142 i
              constructor <;> omega
            · have o2 := o.2 i hi
              have u := u4 i hi
              have w := w3 i hi
              have x1 := congrFun e2.2.2 i
              omega
/-- stamps are told -/
theorem DRW_stamps {a a1 a2 : Nat → Nat → Int} {r1 r2 x1 x2 x3 : Int} (h : DRW a) (hr : r1 = r2) (h01 : r1 = 0 ∨ r1 = 1) (c1 : r1 = 1 → a1 142 = rup (a 142) x1.toNat x2 ∧ a1 143 = rup (a 143) x1.toNat x3) (c0 : r1 = 0 → a1 142 = a 142 ∧ a1 143 = a 143) (k1 : a1 144 = a 144) (e1 : KDR a a1)
    (d1 : r2 = 1 → a2 196 = rup (a1 196) x1.toNat x2 ∧ a2 197 = rup (a1 197) x1.toNat x3) (d0 : r2 = 0 → a2 196 = a1 196 ∧ a2 197 = a1 197) (k2 : a2 198 = a1 198) (k3 : a2 146 75 = a1 146 75) (e2 : KDC a1 a2) : DRW a2 := by
  subst hr
  have p : (a2 146 75 = 0 ∧ ∀ i : Nat, i < 8 → a2 144 i = -1) ∨ (¬ a2 146 75 = 0 ∧ ∀ i : Nat, i < 8 → a2 144 i = a2 198 i) := by
    rw [k3, e1.2.2.2, e2.2.2, k1, k2, e1.2.2.1]
    exact h.2
  refine ⟨fun i hi => ?_, p⟩
  have b := h.1 i hi
  rcases h01 with z | z
  · obtain ⟨p1, p2⟩ := c0 z
    obtain ⟨q1, q2⟩ := d0 z
    rw [e2.1, e2.2.1, p1, p2, q1, q2, e1.1, e1.2.1]
    exact b
  · obtain ⟨p1, p2⟩ := c1 z
    obtain ⟨q1, q2⟩ := d1 z
    rw [e2.1, e2.2.1, p1, p2, q1, q2, e1.1, e1.2.1]
    unfold rup
    by_cases e : i = x1.toNat
    · rw [if_pos e, if_pos e, if_pos e, if_pos e]; exact ⟨rfl, rfl⟩
    · rw [if_neg e, if_neg e, if_neg e, if_neg e]; exact b
/-- prices stay 1 or more -/
theorem NF_0 {f : Nat → Int} {n p : Nat} {lo hi : Int} (h : NF f n p lo hi = 0) : lo ≤ NV f n p := by
  unfold NF at h
  split at h
  · omega
  · split at h
    · omega
    · omega
theorem CF_CC {f : Nat → Int} {n p : Nat} {c last : Int} (h : CF f n p c last = 0) : 1 ≤ NV f n (C3 f n p) := by
  by_cases ht : TW f n p 15
  · by_cases hc : 12 ≤ c
    · rw [CF_12 ht hc] at h; omega
    · rw [CF_go ht hc] at h
      by_cases h1 : NF f n (C1 f n p) 0 3 = 0
      · rw [if_neg (fun z => z h1)] at h
        by_cases h2 : NF f n (C2 f n p) (last + 1) 500 = 0
        · rw [if_neg (fun z => z h2)] at h
          exact (NF_ok h).1
        · rw [if_pos h2] at h; exact absurd h h2
      · rw [if_pos h1] at h; exact absurd h h1
  · rw [CF_no ht] at h; omega
theorem RTR_CC {f : Nat → Int} {n : Nat} {r : Int} (h : RTR f n r) (h1 : 1 ≤ r) : ∀ k : Nat, (k : Int) < r → 1 ≤ CC f n k := fun k hk => by
  obtain ⟨m, a1, a2⟩ := h
  have hp := CFk_pos f n m
  have z : CFk f n k = 0 := by
    by_cases c : k < m
    · exact (a1 k c).1
    · rcases a2 with ⟨_, q⟩ | ⟨_, _, _, q⟩ | ⟨q0, _, q⟩
      · omega
      · omega
      · rw [show k = m from by omega]; exact q0
  exact CF_CC z
theorem POSP_rates {a a1 a2 : Nat → Nat → Int} {r2 x : Int} (hv : iv a) (h : POSP a) (e68 : a1 146 68 = a 146 68) (e1 : ∀ j, a1 192 j = a 192 j ∧ a1 193 j = a 193 j ∧ a1 194 j = a 194 j)
    (q1 : 0 ≤ x ∧ x ≤ 1999 ∧ a1 146 68 ≤ 9 → RTR (UB (a1 164)) (a1 146 22).toNat r2 ∧ ((1 ≤ r2 ∧ a2 146 68 = a1 146 68 + 1) ∨ (r2 < 0 ∧ a2 146 68 = a1 146 68)))
    (q4 : ((x < 0 ∨ 1999 < x) ∨ 9 < a1 146 68) → (r2 = 0 - 1 ∧ a2 146 68 = a1 146 68) ∧ a2 146 22 = a1 146 22)
    (q2 : 1 ≤ r2 → R194 a2 (UB (a1 164)) (a1 146 22).toNat (a1 146 68).toNat r2.toNat ∧ UP (a1 192) (a2 192) (a1 146 68).toNat x ∧ UP (a1 193) (a2 193) (a1 146 68).toNat r2 ∧ ∀ j, j < 36 * (a1 146 68).toNat → a2 194 j = a1 194 j)
    (q3 : r2 < 0 → ∀ j, a2 192 j = a1 192 j ∧ a2 193 j = a1 193 j ∧ a2 194 j = a1 194 j) : POSP a2 := by
  have i68 := iv_get hv (k := 146) (j := 68) (l := 0) (u := 10) rfl
  have hst : (1 ≤ r2 ∧ a2 146 68 = a1 146 68 + 1 ∧ RTR (UB (a1 164)) (a1 146 22).toNat r2) ∨ (r2 < 0 ∧ a2 146 68 = a1 146 68) := by
    by_cases c : 0 ≤ x ∧ x ≤ 1999 ∧ a1 146 68 ≤ 9
    · obtain ⟨u1, u2⟩ := q1 c
      clear q1 q2 q3 q4
      rcases u2 with u2 | u2
      · exact Or.inl ⟨u2.1, u2.2, u1⟩
      · exact Or.inr u2
    · have w : (x < 0 ∨ 1999 < x) ∨ 9 < a1 146 68 := by
        clear q1 q2 q3 q4
        omega
      obtain ⟨⟨u1, u2⟩, _⟩ := q4 w
      exact Or.inr ⟨by rw [u1]; decide, u2⟩
  clear q1 q4
  intro r c hr hc
  rcases hst with ⟨s1, s2, s3⟩ | ⟨s1, s2⟩
  · obtain ⟨t1, _, t3, t4⟩ := q2 s1
    have u := t3 r
    by_cases e : r = (a1 146 68).toNat
    · rw [if_pos e] at u
      rw [u] at hc
      have w := (t1 c (by omega)).2.2
      rw [e, w]
      exact RTR_CC s3 s1 c hc
    · rw [if_neg e, (e1 r).2.1] at u
      rw [u] at hc
      have i193 := iv_get hv (k := 193) (j := r) (l := 0) (u := 12) rfl
      rw [t4 _ (by omega), (e1 _).2.2]
      exact h r c (by omega) hc
  · have q := q3 s1
    rw [(q r).2.1, (e1 r).2.1] at hc
    rw [(q _).2.2, (e1 _).2.2]
    exact h r c (by omega) hc
/-- pay, in the law -/
theorem AL_pay {a a1 a2 b : Nat → Nat → Int} {x g r1 r2 : Int} (hb : BAS a) (h : ALK a) (hs : SV a) (hd : DRW a) (hR : RATR a) (hn5 : a 105 5 = a 146 68) (hP : POSP a) (cl : CLS a a1) (rf : RFS a1 a2) (e142 : a1 142 = a 142) (d6 : a2 196 = a1 196)
    (c1 : (0 ≤ x ∧ x < a 58 8 ∧ 1 ≤ g ∧ g ≤ 500) → (0 ≤ (f_X3_landOf a b (f_X0_fromOf a b x)) ∧ (f_X3_landOf a b (f_X0_fromOf a b x)) ≤ 15) → (0 ≤ (f_X3_landOf a b (f_X0_toOf a b x)) ∧ (f_X3_landOf a b (f_X0_toOf a b x)) ≤ 15) → PAO a a1 (PR1 a (ZN (f_X3_landOf a b (f_X0_fromOf a b x)) (f_X3_landOf a b (f_X0_toOf a b x)) (a 1 (16 * (f_X3_landOf a b (f_X0_fromOf a b x)) + (f_X3_landOf a b (f_X0_toOf a b x))).toNat)) g (a 0 0)) r1)
    (c0 : ¬ (0 ≤ x ∧ x < a 58 8 ∧ 1 ≤ g ∧ g ≤ 500) → r1 = -1 ∧ a1 = a)
    (d1 : (0 ≤ x ∧ x < a1 146 9 ∧ 1 ≤ g ∧ g ≤ 500) → PAR a1 a2 (PR2 a1 (ZN (a1 148 (a1 154 x.toNat).toNat) (a1 148 (a1 155 x.toNat).toNat) (a1 147 (16 * (a1 148 (a1 154 x.toNat).toNat) + (a1 148 (a1 155 x.toNat).toNat)).toNat)) g (a1 146 0)) r2)
    (d0 : ¬ (0 ≤ x ∧ x < a1 146 9 ∧ 1 ≤ g ∧ g ≤ 500) → r2 = -1 ∧ PAS a1 a2) : r1 = r2 ∧ DRW a2 := by
  have n := AL_n h
  have e1 : KDR a a1 := ⟨cl 196 (by decide), cl 197 (by decide), cl 198 (by decide), congrFun (cl 146 (by decide)) 75⟩
  have e2 : KDC a1 a2 := ⟨rf 142 (by decide), rf 143 (by decide), rf 144 (by decide)⟩
  have e9 : a1 146 9 = a 58 8 := by rw [cl 146 (by decide), n.1]
  by_cases v : 0 ≤ x ∧ x < a 58 8 ∧ 1 ≤ g ∧ g ≤ 500
  · have ci := CI_n h.2.2.1
    have fr := h.2.2.1.2.1 x.toNat (by show ((x.toNat : Nat) : Int) < a 58 8; omega)
    have f0 : 0 ≤ a 59 x.toNat ∧ a 59 x.toNat < a 4 6 := fr.1
    have t0 : 0 ≤ a 60 x.toNat ∧ a 60 x.toNat < a 4 6 := fr.2.1
    have m8 : a 58 8 ≤ 300 := ci.2.1
    have q1 := c1 v
    have q2 := d1 ⟨v.1, by rw [e9]; exact v.2.1, v.2.2⟩
    have l1 : f_X3_landOf a b (f_X0_fromOf a b x) = a 148 (a 59 x.toNat).toNat := by rw [fromOf_at v.1 v.2.1 m8]; exact AL_ld hb f0.1 f0.2
    have l2 : f_X3_landOf a b (f_X0_toOf a b x) = a 148 (a 60 x.toNat).toNat := by rw [toOf_at v.1 v.2.1 m8]; exact AL_ld hb t0.1 t0.2
    have k1 : a 59 = a 154 := congrArg vFr h.1
    have k2 : a 60 = a 155 := congrArg vTo h.1
    rw [l1, l2] at q1
    have i1 := iv_get hb.1 (k := 148) (j := (a 59 x.toNat).toNat) (l := 0) (u := 15) rfl
    have i2 := iv_get hb.1 (k := 148) (j := (a 60 x.toNat).toNat) (l := 0) (u := 15) rfl
    have q3 := q1 i1 i2
    rw [cl 148 (by decide), cl 154 (by decide), cl 155 (by decide), cl 147 (by decide), cl 146 (by decide), ← k1, ← k2, ← hb.2.1] at q2
    have fa := hb.2.2.2.2.1 (16 * a 148 (a 59 x.toNat).toNat + a 148 (a 60 x.toNat).toNat).toNat
    rw [← fa] at q2
    rw [← PR_law (v := ZN (a 148 (a 59 x.toNat).toNat) (a 148 (a 60 x.toNat).toNat) (a 1 (16 * a 148 (a 59 x.toNat).toNat + a 148 (a 60 x.toNat).toNat).toNat)) (w := g) (d := a 0 0) hR hn5 (fun k j hk => by rw [cl k (by omega)]) (by rw [cl 146 (by decide)])] at q2
    have pp : PR1 a (ZN (a 148 (a 59 x.toNat).toNat) (a 148 (a 60 x.toNat).toNat) (a 1 (16 * a 148 (a 59 x.toNat).toNat + a 148 (a 60 x.toNat).toNat).toNat)) g (a 0 0) = -2 ∨ (1 ≤ PR1 a (ZN (a 148 (a 59 x.toNat).toNat) (a 148 (a 60 x.toNat).toNat) (a 1 (16 * a 148 (a 59 x.toNat).toNat + a 148 (a 60 x.toNat).toNat).toNat)) g (a 0 0) ∧ PR1 a (ZN (a 148 (a 59 x.toNat).toNat) (a 148 (a 60 x.toNat).toNat) (a 1 (16 * a 148 (a 59 x.toNat).toNat + a 148 (a 60 x.toNat).toNat).toNat)) g (a 0 0) ≤ 900) := by
      rw [PR_law (a1 := a) hR hn5 (fun _ _ _ => rfl) rfl]
      exact POSP_p hb.1 hP
    exact DRW_pay hb.1 hs hd e1 e2 d6 e142 pp q3 q2
  · obtain ⟨z1, z2⟩ := c0 v
    obtain ⟨w1, w2⟩ := d0 (by rw [e9]; exact v)
    exact ⟨by rw [z1, w1], DRW_same hd e1 e2 z2 w2 d6⟩
theorem AL_paid {a b b2 : Nat → Nat → Int} (h : DRW a) (x : Int) : f_X11_paid a b x = f_X12_paid a b2 x := by
  have e2 := f_X12_in_eq a b2 x 0 7
  unfold f_X11_paid f_X1_wentOf f_X11_entry_r144 f_X12_paid
  by_cases v : 0 ≤ x ∧ x < 8
  · rw [if_neg (show ¬ x < 0 by omega), if_pos v.2, if_pos v.2, if_neg (show ¬ f_X12_in a b2 x 0 7 = 0 by omega)]
    rcases h.2 with z | z
    · rw [if_pos z.1]; exact z.2 _ (by omega)
    · rw [if_neg z.1]; exact z.2 _ (by omega)
  · rw [if_pos (show f_X12_in a b2 x 0 7 = 0 by omega)]
    refine Eq.trans (?_ : _ = (-1 : Int)) ?_
    · by_cases c : x < 0
      · rw [if_pos c]
      · rw [if_neg c, if_neg (show ¬ x < 8 by omega)]
    · split <;> rfl
theorem AL_cnt {a : Nat → Nat → Int} {x : Int} (hb : BAS a) (h : STR a) (hd : DRW a) : THN (a 10) (a 4 6).toNat = THN (a 152) (a 146 2).toNat ∧ (a 58 8 = a 146 9 ∧ a 58 12 = a 146 17 ∧ a 83 6 = a 146 49 ∧ a 83 7 = a 146 55 ∧ a 0 9 = a 146 42) ∧ (20 ≤ x ∧ x ≤ 27 → a 143 (jxw (x - 20)).toNat = a 197 (jxw (x - 20)).toNat) ∧ (30 ≤ x ∧ x ≤ 37 → a 142 (jxw (x - 30)).toNat = a 196 (jxw (x - 30)).toNat) ∧ ((x = 10 → a 56 0 = a 171 (jxw (x - 10)).toNat) ∧ (x = 11 → a 56 1 = a 171 (jxw (x - 10)).toNat) ∧ (x = 12 → a 56 2 = a 171 (jxw (x - 10)).toNat) ∧ (x = 13 → a 56 3 = a 171 (jxw (x - 10)).toNat) ∧ (x = 14 → a 56 4 = a 171 (jxw (x - 10)).toNat)) := by
  have n := AL_n h.1
  have rl := h.1.2.2.2.2.1
  refine ⟨?_, ⟨n.1, n.2, h.2.1.1.1, h.2.1.2.2.2.2.1, h.2.2.2.1⟩, fun v => ?_, fun v => ?_, ?_, ?_, ?_, ?_, ?_⟩
  · rw [show a 10 = a 152 from funext fun j => (hb.2.2.2.1 j).2.2.2.2, hb.2.2.1]
  · rw [jxw_id (by omega) (by omega)]
    exact (hd.1 _ (by omega)).2
  · rw [jxw_id (by omega) (by omega)]
    exact (hd.1 _ (by omega)).1
  · intro e; rw [e, show (jxw (10 - 10)).toNat = 0 from by decide]; exact rl 0 (by decide)
  · intro e; rw [e, show (jxw (11 - 10)).toNat = 1 from by decide]; exact rl 1 (by decide)
  · intro e; rw [e, show (jxw (12 - 10)).toNat = 2 from by decide]; exact rl 2 (by decide)
  · intro e; rw [e, show (jxw (13 - 10)).toNat = 3 from by decide]; exact rl 3 (by decide)
  · intro e; rw [e, show (jxw (14 - 10)).toNat = 4 from by decide]; exact rl 4 (by decide)
