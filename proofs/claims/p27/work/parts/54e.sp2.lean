def jW_X9_read_r2 : List (Nat × Nat) := [(2, 2), (2, 3), (105, 5), (106, 9999), (107, 9999), (108, 9999), (119, 9999), (130, 9999)]
abbrev jQ_X9_read_r2 (x2 : Int) (a0 b0 : Nat → Nat → Int) : List jxV → (Nat → Nat → Int) → (Nat → Nat → Int) → Prop := rI (fun r a b => (iv a) ∧ (jfr jW_X9_read_r2 a0 a) ∧ (b0 = b) ∧ (((a0 2 1 = 0 ∧ a0 105 5 ≤ 9) → r = 0 - 3)) ∧ (a0 105 5 ≤ 9 → RTR (a0 3) (a0 2 1).toNat r) ∧ (a0 105 5 ≤ 9 → (1 ≤ r ∧ a 105 5 = a0 105 5 + 1) ∨ (r < 0 ∧ a 105 5 = a0 105 5)) ∧ (KPR a0 a (a0 105 5).toNat) ∧ (1 ≤ r → RWS a (a0 3) (a0 2 1).toNat (a0 105 5).toNat r.toNat ∧ a 107 (a0 105 5).toNat = r ∧ UP (a0 106) (a 106) (a0 105 5).toNat x2) ∧ (r < 0 → ∀ j, a 106 j = a0 106 j))
theorem cp_X9_read_r2_70 (E : jxE) (d : Nat) (hd : Nat.ble 7 (d + 1) = true) (x2 : Int) (a0 b0 : Nat → Nat → Int) (hv0 : iv a0) : ∀ (y2 : Int) (a : Nat → Nat → Int), iv a → jfr jW_X9_read_r2 a0 a → a 105 5 ≤ 9 → (a0 2 1 = 0 → (a 2 2 = 0 ∧ a 2 3 = 1)) → a 105 5 = a0 105 5 → a 105 5 ≤ 9 → (KPR a0 a (a0 105 5).toNat) → (RD7 a0 a (a0 105 5).toNat) → (y2 = x2) → (∀ j, a 106 j = a0 106 j) → jt (jxX E d 135 70 [some (.inr (.inr (.inl 105))), some (.inr (.inr (.inl 2))), some (.inl y2), none, none] [] (jxSH, a, b0)) (jQ_X9_read_r2 x2 a0 b0) := by
  intro y2 a hv hf hi0 hi1 hi2 hi3 hkp hrd hy2 hs106
  refine jt_eq (bq_X9_read_r2_70 E d y2 a b0) ?_
  have h1416_ := iv_get hv (k := 105) (j := 5) (l := 0) (u := 10) rfl
  have h1417_ := iv_get hv0 (k := 2) (j := 1) (l := 0) (u := 200) rfl
  have h1418_ := iv_get hv (k := 2) (j := 2) (l := 0) (u := 200) rfl
  have h1419_ := iv_get hv0 (k := 105) (j := 5) (l := 0) (u := 10) rfl
  have h3 : a 3 = a0 3 := funext fun j => hf 3 j rfl
  have h21 := hf 2 1 rfl
  have h105 : True := trivial
  refine jt_eI (eq_X8_isFaulty E d (jd_le hd rfl) a b0) ?_
  have h1420_ := f_X8_isFaulty_eq a b0
  refine jt_ite (fun c1421_ => ?_) (fun c1421_ => ?_)
  ·
    refine jt_grd (by omega) ?_
    refine jt_grd (by omega) ?_
    have hv1422_ : iv (jxu a 106 ((a 105 5).toNat) y2) := iv_putf hv rfl
    have h1424_ : jxw ((a 105 5) + 1) = (a 105 5) + 1 := jxw_id (by omega) (by omega)
    have hv1423_ : iv (jxu (jxu a 106 ((a 105 5).toNat) y2) 105 5 (jxw ((a 105 5) + 1))) := iv_put hv1422_ (l := 0) (u := 10) rfl (by omega) (by omega)
    have hf1425_ : jfr jW_X9_read_r2 a0 (jxu a 106 ((a 105 5).toNat) y2) := jfr_put hf rfl
    have hf1426_ : jfr jW_X9_read_r2 a0 (jxu (jxu a 106 ((a 105 5).toNat) y2) 105 5 (jxw ((a 105 5) + 1))) := jfr_put hf1425_ rfl
    have h1427_ := iv_get hv (k := 107) (j := (a 105 5).toNat) (l := 0) (u := 12) rfl
    exact jt_rI ⟨hv1423_, hf1426_, rfl, (show ((a0 2 1 = 0 ∧ a0 105 5 ≤ 9) → a 107 ((a 105 5).toNat) = 0 - 3) from by omega), (fun _ => by have e5 : (a 105 5).toNat = (a0 105 5).toNat := (by rw [show a 105 5 = a0 105 5 from by omega]); rw [e5]; exact (hrd.1 (by omega)).1), (fun _ => Or.inl ⟨by have q := (hrd.1 (by omega)).2.1; have e5 : (a 105 5).toNat = (a0 105 5).toNat := (by rw [show a 105 5 = a0 105 5 from by omega]); rw [e5]; exact q, show jxw ((a 105 5) + 1) = _ from by omega⟩), hkp, (fun _ => by have e5 : (a 105 5).toNat = (a0 105 5).toNat := (by rw [show a 105 5 = a0 105 5 from by omega]); rw [e5]; exact ⟨(hrd.1 (by omega)).2.2, rfl, by rw [← hy2, ← e5]; exact UP_put (fun j => hs106 j)⟩), (fun h => absurd h (by have q := (hrd.1 (by omega)).2.1; have e5 : (a 105 5).toNat = (a0 105 5).toNat := (by rw [show a 105 5 = a0 105 5 from by omega]); rw [← e5] at q; omega))⟩
  ·
    refine jt_eI (eq_X8_answerOfFault E d (jd_le hd rfl) a b0) ?_
    have h1428_ := f_X8_answerOfFault_eq a b0
    have h1429_ := jxw_im ((-2) - (a 2 3))
    have h1430_ := jxw_rg ((-2) - (a 2 3))
    exact jt_rI ⟨hv, hf, rfl, (show ((a0 2 1 = 0 ∧ a0 105 5 ≤ 9) → f_X8_answerOfFault a b0 = 0 - 3) from by omega), (fun _ => by have e5 : (a 105 5).toNat = (a0 105 5).toNat := (by rw [show a 105 5 = a0 105 5 from by omega]); have q := (hrd.2 (by omega)).1; have q2 := RTR_bd q (tn200 hv0); have q3 := (hrd.2 (by omega)).2; rw [show f_X8_answerOfFault a b0 = -2 - a 2 3 from by omega]; exact q), (fun _ => Or.inr ⟨by have q := (hrd.2 (by omega)).2; have q2 := RTR_bd (hrd.2 (by omega)).1 (tn200 hv0); omega, by omega⟩), hkp, (fun h => absurd h (by have q := (hrd.2 (by omega)).2; have q2 := RTR_bd (hrd.2 (by omega)).1 (tn200 hv0); omega)), (fun _ => hs106)⟩
theorem cp_X9_read_r2_59 (E : jxE) (d : Nat) (hd : Nat.ble 7 (d + 1) = true) (x2 : Int) (a0 b0 : Nat → Nat → Int) (hv0 : iv a0) : ∀ (y2 : Int) (a : Nat → Nat → Int), iv a → jfr jW_X9_read_r2 a0 a → a 105 5 ≤ 9 → (a0 2 1 = 0 → (a 2 2 = 0 ∧ a 2 3 = 1)) → a 105 5 = a0 105 5 → a 105 5 ≤ 9 → (KPR a0 a (a0 105 5).toNat) → (RDE a0 a (a0 105 5).toNat) → (y2 = x2) → (∀ j, a 106 j = a0 106 j) → jt (jxX E d 135 59 [some (.inr (.inr (.inl 105))), some (.inr (.inr (.inl 2))), some (.inl y2), none, none] [] (jxSH, a, b0)) (jQ_X9_read_r2 x2 a0 b0) := by
  intro y2 a hv hf hi0 hi1 hi2 hi3 hkp hre hy2 hs106
  refine jt_eq (bq_X9_read_r2_59 E d y2 a b0) ?_
  have h1431_ := iv_get hv (k := 105) (j := 5) (l := 0) (u := 10) rfl
  have h1432_ := iv_get hv0 (k := 2) (j := 1) (l := 0) (u := 200) rfl
  have h1433_ := iv_get hv (k := 2) (j := 2) (l := 0) (u := 200) rfl
  have h1434_ := iv_get hv0 (k := 105) (j := 5) (l := 0) (u := 10) rfl
  have h3 : a 3 = a0 3 := funext fun j => hf 3 j rfl
  have h21 := hf 2 1 rfl
  have h105 : True := trivial
  refine jt_eI (eq_X8_isAtEnd E d (jd_le hd rfl) a b0) ?_
  have h1435_ := f_X8_isAtEnd_eq a b0
  have h1436_ := iv_get hv (k := 2) (j := 1) (l := 0) (u := 200) rfl
  have h1437_ : a 2 1 = a0 2 1 := hf 2 1 rfl
  refine jt_ite (fun c1438_ => ?_) (fun c1438_ => ?_)
  ·
    refine jt_bV (sp_X8_noteCannotStand E d (jd_le hd rfl) a b0 hv) (fun a1439_ b1439_ h1439_ => ?_)
    obtain ⟨hv1439_, hf1439_, rfl, hq1439_0, hq1439_1⟩ := h1439_
    have hf1440_ : jfr jW_X9_read_r2 a0 a1439_ := jfr_tr hf hf1439_ rfl
    have h1441_ := iv_get hv1439_ (k := 105) (j := 5) (l := 0) (u := 10) rfl
    have h1442_ : a1439_ 105 5 = a 105 5 := hf1439_ 105 5 rfl
    have h1443_ := iv_get hv1439_ (k := 2) (j := 2) (l := 0) (u := 200) rfl
    have h1444_ : a1439_ 2 2 = a 2 2 := hf1439_ 2 2 rfl
    exact cp_X9_read_r2_70 E d hd x2 a0 b0 hv0 y2 a1439_ hv1439_ hf1440_ (show a1439_ 105 5 ≤ 9 from by omega) (show (a0 2 1 = 0 → (a1439_ 2 2 = 0 ∧ a1439_ 2 3 = 1)) from by omega) (show a1439_ 105 5 = a0 105 5 from by omega) (show a1439_ 105 5 ≤ 9 from by omega) (KPR_cl hkp (fun j => ⟨(hf1439_ 108 j rfl), (hf1439_ 119 j rfl), (hf1439_ 130 j rfl), (hf1439_ 107 j rfl)⟩)) (RD_end2 hre (hf 2 1 rfl) (by omega) (by omega) hq1439_0 hq1439_1) (by first | rfl | assumption) (fun j => ((hf1439_ 106 j rfl)).trans (hs106 j))
  ·
    exact cp_X9_read_r2_70 E d hd x2 a0 b0 hv0 y2 a hv hf (show a 105 5 ≤ 9 from by omega) (show (a0 2 1 = 0 → (a 2 2 = 0 ∧ a 2 3 = 1)) from by omega) (show a 105 5 = a0 105 5 from by omega) (show a 105 5 ≤ 9 from by omega) (KPR_cl hkp (fun j => ⟨rfl, rfl, rfl, rfl⟩)) (RD_end1 hre (hf 2 1 rfl) (by omega)) (by first | rfl | assumption) (fun j => (rfl).trans (hs106 j))
theorem cp_X9_read_r2_30 (E : jxE) (d : Nat) (hd : Nat.ble 7 (d + 1) = true) (x2 : Int) (a0 b0 : Nat → Nat → Int) (hv0 : iv a0) : ∀ n : Nat, (∀ (y2 y3 y4 : Int) (a : Nat → Nat → Int), (((13 - y4) * 1) + 0).toNat ≤ n → iv a → jfr jW_X9_read_r2 a0 a → 0 ≤ y3 → y3 ≤ 1 → 0 ≤ y4 → y4 ≤ 13 → a 105 5 ≤ 9 → (a0 2 1 = 0 → ((((a 2 2 = 0 ∧ y4 = 0) ∧ ¬ y3 = 0) ∧ a 2 3 = 0) ∨ ((a 2 2 = 0 ∧ y3 = 0) ∧ a 2 3 = 1))) → a 105 5 = a0 105 5 → a 105 5 ≤ 9 → (KPR a0 a (a0 105 5).toNat) → (¬ y3 = 0 → RDL a0 a (a0 105 5).toNat y4) → (y3 = 0 → RDE a0 a (a0 105 5).toNat) → (y2 = x2) → (∀ j, a 106 j = a0 106 j) → jt (jxX E d 135 30 [some (.inr (.inr (.inl 105))), some (.inr (.inr (.inl 2))), some (.inl y2), some (.inl y3), some (.inl y4)] [] (jxSH, a, b0)) (jQ_X9_read_r2 x2 a0 b0)) := by
  refine jx_ind fun n ih => ?_
  have ih30 : ∀ (y2 y3 y4 : Int) (a : Nat → Nat → Int), (((13 - y4) * 1) + 0).toNat < n → iv a → jfr jW_X9_read_r2 a0 a → 0 ≤ y3 → y3 ≤ 1 → 0 ≤ y4 → y4 ≤ 13 → a 105 5 ≤ 9 → (a0 2 1 = 0 → ((((a 2 2 = 0 ∧ y4 = 0) ∧ ¬ y3 = 0) ∧ a 2 3 = 0) ∨ ((a 2 2 = 0 ∧ y3 = 0) ∧ a 2 3 = 1))) → a 105 5 = a0 105 5 → a 105 5 ≤ 9 → (KPR a0 a (a0 105 5).toNat) → (¬ y3 = 0 → RDL a0 a (a0 105 5).toNat y4) → (y3 = 0 → RDE a0 a (a0 105 5).toNat) → (y2 = x2) → (∀ j, a 106 j = a0 106 j) → jt (jxX E d 135 30 [some (.inr (.inr (.inl 105))), some (.inr (.inr (.inl 2))), some (.inl y2), some (.inl y3), some (.inl y4)] [] (jxSH, a, b0)) (jQ_X9_read_r2 x2 a0 b0) := fun y2 y3 y4 a hlt i0 i1 i2 i3 i4 i5 i6 i7 i8 i9 i10 i11 i12 i13 i14 => (ih _ hlt) y2 y3 y4 a (Nat.le_refl _) i0 i1 i2 i3 i4 i5 i6 i7 i8 i9 i10 i11 i12 i13 i14
  have hc30 : ∀ (y2 y3 y4 : Int) (a : Nat → Nat → Int), (((13 - y4) * 1) + 0).toNat ≤ n → iv a → jfr jW_X9_read_r2 a0 a → 0 ≤ y3 → y3 ≤ 1 → 0 ≤ y4 → y4 ≤ 13 → a 105 5 ≤ 9 → (a0 2 1 = 0 → ((((a 2 2 = 0 ∧ y4 = 0) ∧ ¬ y3 = 0) ∧ a 2 3 = 0) ∨ ((a 2 2 = 0 ∧ y3 = 0) ∧ a 2 3 = 1))) → a 105 5 = a0 105 5 → a 105 5 ≤ 9 → (KPR a0 a (a0 105 5).toNat) → (¬ y3 = 0 → RDL a0 a (a0 105 5).toNat y4) → (y3 = 0 → RDE a0 a (a0 105 5).toNat) → (y2 = x2) → (∀ j, a 106 j = a0 106 j) → jt (jxX E d 135 30 [some (.inr (.inr (.inl 105))), some (.inr (.inr (.inl 2))), some (.inl y2), some (.inl y3), some (.inl y4)] [] (jxSH, a, b0)) (jQ_X9_read_r2 x2 a0 b0) := by
    intro y2 y3 y4 a hm hv hf hi0 hi1 hi2 hi3 hi4 hi5 hi6 hi7 hkp hrl hre hy2 hs106
    refine jt_eq (bq_X9_read_r2_30 E d y2 y3 y4 a b0) ?_
    have h1445_ := iv_get hv (k := 105) (j := 5) (l := 0) (u := 10) rfl
    have h1446_ := iv_get hv0 (k := 2) (j := 1) (l := 0) (u := 200) rfl
    have h1447_ := iv_get hv (k := 2) (j := 2) (l := 0) (u := 200) rfl
    have h1448_ := iv_get hv0 (k := 105) (j := 5) (l := 0) (u := 10) rfl
    have h3 : a 3 = a0 3 := funext fun j => hf 3 j rfl
    have h21 := hf 2 1 rfl
    have h105 : True := trivial
    have hf0 : ¬ y3 = 0 → a 2 3 = 0 := fun h => (hrl h).1
    have hbig : ¬ y3 = 0 → y4 ≤ 12 := fun h => by rcases Int.lt_or_le 12 y4 with q | q <;> first | exact (RDL_big (hrl h) q).elim | exact q
    refine jt_ite (fun c1449_ => ?_) (fun c1449_ => ?_)
    ·
      exact cp_X9_read_r2_59 E d hd x2 a0 b0 hv0 y2 a hv hf (show a 105 5 ≤ 9 from by omega) (show (a0 2 1 = 0 → (a 2 2 = 0 ∧ a 2 3 = 1)) from by omega) (show a 105 5 = a0 105 5 from by omega) (show a 105 5 ≤ 9 from by omega) (KPR_cl hkp (fun j => ⟨rfl, rfl, rfl, rfl⟩)) (by first | exact hre (by omega) | exact absurd (by omega : False) id) (by first | rfl | assumption) (fun j => (rfl).trans (hs106 j))
    ·
      refine jt_ite (fun c1450_ => ?_) (fun c1450_ => ?_)
      ·
        exact cp_X9_read_r2_59 E d hd x2 a0 b0 hv0 y2 a hv hf (show a 105 5 ≤ 9 from by omega) (show (a0 2 1 = 0 → (a 2 2 = 0 ∧ a 2 3 = 1)) from by omega) (show a 105 5 = a0 105 5 from by omega) (show a 105 5 ≤ 9 from by omega) (KPR_cl hkp (fun j => ⟨rfl, rfl, rfl, rfl⟩)) (by first | exact hre (by omega) | exact absurd (by omega : False) id) (by first | rfl | assumption) (fun j => (rfl).trans (hs106 j))
      ·
        refine jt_bV (sp_X9_readClause_r2 E d (jd_le hd rfl) a b0 hv (show a 105 5 ≤ 9 from by omega) (show a 2 3 = 0 from by omega)) (fun a1451_ b1451_ h1451_ => ?_)
        obtain ⟨hv1451_, hf1451_, rfl, hq1451_0, hq1451_1, hq1451_2, hq1451_3⟩ := h1451_
        have h1452_ := iv_get hv (k := 2) (j := 1) (l := 0) (u := 200) rfl
        have h1453_ : a 2 1 = a0 2 1 := hf 2 1 rfl
        have h1454_ := iv_get hv1451_ (k := 2) (j := 2) (l := 0) (u := 200) rfl
        refine jt_bI (sp_X8_takesSign E d (jd_le hd rfl) 59 a1451_ b0 hv1451_) (fun r1455_ a1455_ b1455_ h1455_ => ?_)
        obtain ⟨hv1455_, hf1455_, rfl, hq1455_0, hq1455_1, hq1455_2, hq1455_3, hq1455_4⟩ := h1455_
        have h1456_ := iv_get hv1451_ (k := 2) (j := 1) (l := 0) (u := 200) rfl
        have h1457_ : a1451_ 2 1 = a 2 1 := hf1451_ 2 1 rfl
        have h1458_ := iv_get hv1455_ (k := 2) (j := 2) (l := 0) (u := 200) rfl
        have hstep := RD_step (s := (a0 105 5).toNat) (i := y4) (r := r1455_) (by omega) (hrl (by omega)) hkp h3 (hf 2 1 rfl) (by rw [show a 105 5 = a0 105 5 from by omega]) hq1451_1 hq1451_2 hq1451_3 (funext fun j => hf1451_ 3 j rfl) (hf1451_ 2 1 rfl) hq1455_2 hq1455_3 hq1455_4 (hf1455_ 2 3 rfl) (fun j => ⟨hf1455_ 108 j rfl, hf1455_ 119 j rfl, hf1455_ 130 j rfl, hf1455_ 107 j rfl⟩) (by omega)
        have hf1459_ : jfr jW_X9_read_r2 a0 a1451_ := jfr_tr hf hf1451_ rfl
        have hf1460_ : jfr jW_X9_read_r2 a0 a1455_ := jfr_tr hf1459_ hf1455_ rfl
        have h1461_ : jxw (y4 + 1) = y4 + 1 := jxw_id (by omega) (by omega)
        have h1462_ := iv_get hv1455_ (k := 105) (j := 5) (l := 0) (u := 10) rfl
        have h1463_ : a1455_ 105 5 = a1451_ 105 5 := hf1455_ 105 5 rfl
        have h1464_ := iv_get hv1451_ (k := 105) (j := 5) (l := 0) (u := 10) rfl
        have h1465_ : a1451_ 105 5 = a 105 5 := hf1451_ 105 5 rfl
        have h1466_ : a1455_ 2 3 = a1451_ 2 3 := hf1455_ 2 3 rfl
        exact ih30 y2 r1455_ (jxw (y4 + 1)) a1455_ (show (((13 - (jxw (y4 + 1))) * 1) + 0).toNat < n from by omega) hv1455_ hf1460_ (show 0 ≤ r1455_ from by omega) (show r1455_ ≤ 1 from by omega) (show 0 ≤ jxw (y4 + 1) from by omega) (show jxw (y4 + 1) ≤ 13 from by omega) (show a1455_ 105 5 ≤ 9 from by omega) (show (a0 2 1 = 0 → ((((a1455_ 2 2 = 0 ∧ jxw (y4 + 1) = 0) ∧ ¬ r1455_ = 0) ∧ a1455_ 2 3 = 0) ∨ ((a1455_ 2 2 = 0 ∧ r1455_ = 0) ∧ a1455_ 2 3 = 1))) from by omega) (show a1455_ 105 5 = a0 105 5 from by omega) (show a1455_ 105 5 ≤ 9 from by omega) (hstep).2.2 (by first | exact (fun _ => hrl) | (rw [show jxw (y4 + 1) = y4 + 1 from by omega]; exact hstep.1)) (by first | exact (fun h => absurd h (by omega)) | exact hstep.2.1) (by first | rfl | assumption) (fun j => (((hf1455_ 106 j rfl).trans (hf1451_ 106 j rfl))).trans (hs106 j))
  exact hc30
theorem cp_X9_read_r2_27 (E : jxE) (d : Nat) (hd : Nat.ble 7 (d + 1) = true) (x2 : Int) (a0 b0 : Nat → Nat → Int) (hv0 : iv a0) : ∀ (y2 y3 : Int) (a : Nat → Nat → Int), iv a → jfr jW_X9_read_r2 a0 a → 1 ≤ y3 → y3 ≤ 1 → a 105 5 ≤ 9 → (a0 2 1 = 0 → (a 2 2 = 0 ∧ a 2 3 = 0)) → y3 = 1 → a 105 5 = a0 105 5 → a 105 5 ≤ 9 → (KPR a0 a (a0 105 5).toNat) → (RDL a0 a (a0 105 5).toNat 0) → (y2 = x2) → (∀ j, a 106 j = a0 106 j) → jt (jxX E d 135 27 [some (.inr (.inr (.inl 105))), some (.inr (.inr (.inl 2))), some (.inl y2), some (.inl y3), none] [] (jxSH, a, b0)) (jQ_X9_read_r2 x2 a0 b0) := by
  intro y2 y3 a hv hf hi0 hi1 hi2 hi3 hi4 hi5 hi6 hkp hrl hy2 hs106
  refine jt_eq (bq_X9_read_r2_27 E d y2 y3 a b0) ?_
  have h1467_ := iv_get hv (k := 105) (j := 5) (l := 0) (u := 10) rfl
  have h1468_ := iv_get hv0 (k := 2) (j := 1) (l := 0) (u := 200) rfl
  have h1469_ := iv_get hv (k := 2) (j := 2) (l := 0) (u := 200) rfl
  have h1470_ := iv_get hv0 (k := 105) (j := 5) (l := 0) (u := 10) rfl
  have h3 : a 3 = a0 3 := funext fun j => hf 3 j rfl
  have h21 := hf 2 1 rfl
  have h105 : True := trivial
  exact (cp_X9_read_r2_30 E d hd x2 a0 b0 hv0 _) y2 y3 0 a (Nat.le_refl _) hv hf (show 0 ≤ y3 from by omega) (show y3 ≤ 1 from by omega) (show 0 ≤ 0 from by omega) (show 0 ≤ 13 from by omega) (show a 105 5 ≤ 9 from by omega) (show (a0 2 1 = 0 → ((((a 2 2 = 0 ∧ 0 = 0) ∧ ¬ y3 = 0) ∧ a 2 3 = 0) ∨ ((a 2 2 = 0 ∧ y3 = 0) ∧ a 2 3 = 1))) from by omega) (show a 105 5 = a0 105 5 from by omega) (show a 105 5 ≤ 9 from by omega) (KPR_cl hkp (fun j => ⟨rfl, rfl, rfl, rfl⟩)) (by first | exact (fun _ => hrl) | (rw [show jxw (y4 + 1) = y4 + 1 from by omega]; exact hstep.1)) (by first | exact (fun h => absurd h (by omega)) | exact hstep.2.1) (by first | rfl | assumption) (fun j => (rfl).trans (hs106 j))
theorem sp_X9_read_r2 (E : jxE) (d : Nat) (hd : Nat.ble 7 d = true) (x2 : Int) (a0 b0 : Nat → Nat → Int) (hv0 : iv a0) : jt (jxC E d 135 [.inr (.inr (.inl 105)), .inr (.inr (.inl 2)), .inl x2] (jxSH, a0, b0)) (jQ_X9_read_r2 x2 a0 b0) := by
  obtain ⟨d, rfl⟩ := jd_succ hd
  refine jt_eq (bq_X9_read_r2 E d x2 a0 b0) ?_
  have h1471_ := iv_get hv0 (k := 105) (j := 5) (l := 0) (u := 10) rfl
  refine jt_ite (fun c1472_ => ?_) (fun c1472_ => ?_)
  ·
    refine jt_grd (by omega) ?_
    have hv1473_ : iv (jxu a0 107 ((a0 105 5).toNat) 0) := iv_put hv0 (l := 0) (u := 12) rfl (by omega) (by omega)
    refine jt_bV (sp_X8_startReading E d (jd_le hd rfl) (jxu a0 107 ((a0 105 5).toNat) 0) b0 hv1473_) (fun a1474_ b1474_ h1474_ => ?_)
    obtain ⟨hv1474_, hf1474_, rfl, hq1474_0, hq1474_1, hq1474_2⟩ := h1474_
    have h1475_ : a1474_ 2 3 = 0 := hq1474_0
    have h1476_ := iv_get hv0 (k := 2) (j := 1) (l := 0) (u := 200) rfl
    have h1477_ := iv_get hv1474_ (k := 2) (j := 2) (l := 0) (u := 200) rfl
    have h1478_ : (a0 2 1 = 0 → a1474_ 2 2 = 0) := hq1474_1
    have hf1479_ : jfr jW_X9_read_r2 a0 (jxu a0 107 ((a0 105 5).toNat) 0) := jfr_put (jfr_rf _ _) rfl
    have hf1480_ : jfr jW_X9_read_r2 a0 a1474_ := jfr_tr hf1479_ hf1474_ rfl
    have h1481_ := iv_get hv1474_ (k := 105) (j := 5) (l := 0) (u := 10) rfl
    have h1482_ : a1474_ 105 5 = a0 105 5 := hf1474_ 105 5 rfl
    exact cp_X9_read_r2_27 E d hd x2 a0 b0 hv0 x2 1 a1474_ hv1474_ hf1480_ (show 1 ≤ 1 from by omega) (show 1 ≤ 1 from by omega) (show a1474_ 105 5 ≤ 9 from by omega) (show (a0 2 1 = 0 → (a1474_ 2 2 = 0 ∧ a1474_ 2 3 = 0)) from by omega) (show 1 = 1 from by omega) (show a1474_ 105 5 = a0 105 5 from by omega) (show a1474_ 105 5 ≤ 9 from by omega) ⟨fun j hj => ((hf1474_ 107 j rfl)).trans (show jxu a0 107 (a0 105 5).toNat 0 107 j = a0 107 j from by simp only [jxu]; simp; omega), fun j _ => ⟨(hf1474_ 108 j rfl), (hf1474_ 119 j rfl), (hf1474_ 130 j rfl)⟩⟩ (by refine ⟨?_, ?_, ?_, fun k hk => absurd hk (Nat.not_lt_zero _), fun k hk => absurd hk (Nat.not_lt_zero _)⟩ <;> first | omega | exact hq1474_2 | (rw [hf1474_ 107 _ rfl]; simp [jxu])) (by first | rfl | assumption) (fun j => (hf1474_ 106 j rfl))
  ·
    have h1483_ := iv_get hv0 (k := 2) (j := 1) (l := 0) (u := 200) rfl
    exact jt_rI ⟨hv0, (jfr_rf _ _), rfl, (show ((a0 2 1 = 0 ∧ a0 105 5 ≤ 9) → (-1) = 0 - 3) from by omega), (fun h => absurd h (by omega)), (fun h => absurd h (by omega)), ⟨fun _ _ => rfl, fun _ _ => ⟨rfl, rfl, rfl⟩⟩, (fun h => absurd h (by decide)), (fun _ _ => rfl)⟩
def jW_X11_rates : List (Nat × Nat) := [(2, 1), (2, 2), (2, 3), (105, 5), (106, 9999), (107, 9999), (108, 9999), (119, 9999), (130, 9999)]
abbrev jQ_X11_rates (x1 : Int) (a0 b0 : Nat → Nat → Int) : List jxV → (Nat → Nat → Int) → (Nat → Nat → Int) → Prop := rI (fun r a b => (iv a) ∧ (jfr jW_X11_rates a0 a) ∧ (b0 = b) ∧ (((a0 2 1 = 0 ∧ a0 105 5 = 0) → (((0 ≤ x1 ∧ x1 ≤ 1999) ∧ r = 0 - 3) ∨ ((x1 < 0 ∨ 1999 < x1) ∧ r = 0 - 1)))) ∧ ((((0 ≤ x1 ∧ x1 ≤ 1999) ∧ a0 105 5 ≤ 9) → a 2 1 = 0)) ∧ ((((x1 < 0 ∨ 1999 < x1) ∨ 9 < a0 105 5) → ((r = 0 - 1 ∧ a 2 1 = a0 2 1) ∧ a 105 5 = a0 105 5))) ∧ (0 ≤ x1 ∧ x1 ≤ 1999 ∧ a0 105 5 ≤ 9 → RTR (a0 3) (a0 2 1).toNat r ∧ ((1 ≤ r ∧ a 105 5 = a0 105 5 + 1) ∨ (r < 0 ∧ a 105 5 = a0 105 5))) ∧ (KPR a0 a (a0 105 5).toNat ∧ (1 ≤ r → RWS a (a0 3) (a0 2 1).toNat (a0 105 5).toNat r.toNat ∧ a 107 (a0 105 5).toNat = r ∧ UP (a0 106) (a 106) (a0 105 5).toNat x1) ∧ (r < 0 → ∀ j, a 106 j = a0 106 j)))
theorem cp_X11_rates_32 (E : jxE) (d : Nat) (hd : Nat.ble 8 (d + 1) = true) (x1 : Int) (a0 b0 : Nat → Nat → Int) (hv0 : iv a0) : ∀ (y2 : Int) (a : Nat → Nat → Int), iv a → jfr jW_X11_rates a0 a → ((a0 2 1 = 0 ∧ a0 105 5 = 0) → ((0 ≤ x1 ∧ x1 ≤ 1999) ∧ y2 = 0 - 3)) → ((0 ≤ x1 ∧ x1 ≤ 1999) ∧ a0 105 5 ≤ 9) → (RTR (a0 3) (a0 2 1).toNat y2 ∧ ((1 ≤ y2 ∧ a 105 5 = a0 105 5 + 1) ∨ (y2 < 0 ∧ a 105 5 = a0 105 5))) → (KPR a0 a (a0 105 5).toNat ∧ (1 ≤ y2 → RWS a (a0 3) (a0 2 1).toNat (a0 105 5).toNat y2.toNat ∧ a 107 (a0 105 5).toNat = y2 ∧ UP (a0 106) (a 106) (a0 105 5).toNat x1) ∧ (y2 < 0 → ∀ j, a 106 j = a0 106 j)) → jt (jxX E d 191 32 [some (.inr (.inr (.inl 0))), none, some (.inl y2)] [] (jxSH, a, b0)) (jQ_X11_rates x1 a0 b0) := by
  intro y2 a hv hf hi0 hi1 hrt hrw
  refine jt_eq (bq_X11_rates_32 E d y2 a b0) ?_
  have h1484_ := iv_get hv0 (k := 2) (j := 1) (l := 0) (u := 200) rfl
  have h1485_ := iv_get hv0 (k := 105) (j := 5) (l := 0) (u := 10) rfl
  refine jt_bV (sp_X8_cut E d (jd_le hd rfl) 0 a b0 hv) (fun a1486_ b1486_ h1486_ => ?_)
  obtain ⟨hv1486_, hf1486_, rfl, hq1486_0⟩ := h1486_
  have h1487_ := iv_get hv (k := 2) (j := 1) (l := 0) (u := 200) rfl
  have h1488_ := iv_get hv1486_ (k := 2) (j := 1) (l := 0) (u := 200) rfl
  have hf1489_ : jfr jW_X11_rates a0 a1486_ := jfr_tr hf hf1486_ rfl
  have h1490_ := iv_get hv1486_ (k := 105) (j := 5) (l := 0) (u := 10) rfl
  have h1491_ : a1486_ 105 5 = a 105 5 := hf1486_ 105 5 rfl
  have h1492_ := iv_get hv (k := 105) (j := 5) (l := 0) (u := 10) rfl
  exact jt_rI ⟨hv1486_, hf1489_, rfl, (show ((a0 2 1 = 0 ∧ a0 105 5 = 0) → (((0 ≤ x1 ∧ x1 ≤ 1999) ∧ y2 = 0 - 3) ∨ ((x1 < 0 ∨ 1999 < x1) ∧ y2 = 0 - 1))) from by omega), (show (((0 ≤ x1 ∧ x1 ≤ 1999) ∧ a0 105 5 ≤ 9) → a1486_ 2 1 = 0) from by omega), (show (((x1 < 0 ∨ 1999 < x1) ∨ 9 < a0 105 5) → ((y2 = 0 - 1 ∧ a1486_ 2 1 = a0 2 1) ∧ a1486_ 105 5 = a0 105 5)) from by omega), (fun _ => by rw [hf1486_ 105 5 rfl]; exact hrt), ⟨KPR_cl hrw.1 (fun j => ⟨hf1486_ 108 j rfl, hf1486_ 119 j rfl, hf1486_ 130 j rfl, hf1486_ 107 j rfl⟩), fun q => ⟨fun k hk => by rw [hf1486_ 108 _ rfl, hf1486_ 119 _ rfl, hf1486_ 130 _ rfl]; exact (hrw.2.1 q).1 k hk, (hf1486_ 107 _ rfl).trans (hrw.2.1 q).2.1, UP_cr (hrw.2.1 q).2.2 (fun j => hf1486_ 106 j rfl)⟩, fun q j => (hf1486_ 106 j rfl).trans (hrw.2.2 q j)⟩⟩
theorem sp_X11_rates (E : jxE) (d : Nat) (hd : Nat.ble 8 d = true) (x1 : Int) (a0 b0 : Nat → Nat → Int) (hv0 : iv a0) : jt (jxC E d 191 [.inr (.inr (.inl 0)), .inl x1] (jxSH, a0, b0)) (jQ_X11_rates x1 a0 b0) := by
  obtain ⟨d, rfl⟩ := jd_succ hd
  refine jt_eq (bq_X11_rates E d x1 a0 b0) ?_
  refine jt_eI (eq_X11_isDay E d (jd_le hd rfl) x1 a0 b0) ?_
  have h1493_ := f_X11_isDay_eq a0 b0 x1
  have h1494_ := f_X11_within_eq a0 b0 x1 0 1999
  refine jt_ite (fun c1495_ => ?_) (fun c1495_ => ?_)
  ·
    have h1496_ := iv_get hv0 (k := 2) (j := 1) (l := 0) (u := 200) rfl
    have h1497_ := iv_get hv0 (k := 105) (j := 5) (l := 0) (u := 10) rfl
    exact jt_rI ⟨hv0, (jfr_rf _ _), rfl, (show ((a0 2 1 = 0 ∧ a0 105 5 = 0) → (((0 ≤ x1 ∧ x1 ≤ 1999) ∧ (-1) = 0 - 3) ∨ ((x1 < 0 ∨ 1999 < x1) ∧ (-1) = 0 - 1))) from by omega), (show (((0 ≤ x1 ∧ x1 ≤ 1999) ∧ a0 105 5 ≤ 9) → a0 2 1 = 0) from by omega), (show (((x1 < 0 ∨ 1999 < x1) ∨ 9 < a0 105 5) → (((-1) = 0 - 1 ∧ a0 2 1 = a0 2 1) ∧ a0 105 5 = a0 105 5)) from by omega), (fun h => absurd h (by omega)), ⟨⟨fun _ _ => rfl, fun _ _ => ⟨rfl, rfl, rfl⟩⟩, fun h => absurd h (by decide), fun _ _ => rfl⟩⟩
  ·
    refine jt_eI (eq_X9_hasRoom E d (jd_le hd rfl) a0 b0) ?_
    have h1498_ := f_X9_hasRoom_eq a0 b0
    have h1499_ := iv_get hv0 (k := 105) (j := 5) (l := 0) (u := 10) rfl
    refine jt_ite (fun c1500_ => ?_) (fun c1500_ => ?_)
    ·
      have h1501_ := iv_get hv0 (k := 2) (j := 1) (l := 0) (u := 200) rfl
      exact jt_rI ⟨hv0, (jfr_rf _ _), rfl, (show ((a0 2 1 = 0 ∧ a0 105 5 = 0) → (((0 ≤ x1 ∧ x1 ≤ 1999) ∧ (-1) = 0 - 3) ∨ ((x1 < 0 ∨ 1999 < x1) ∧ (-1) = 0 - 1))) from by omega), (show (((0 ≤ x1 ∧ x1 ≤ 1999) ∧ a0 105 5 ≤ 9) → a0 2 1 = 0) from by omega), (show (((x1 < 0 ∨ 1999 < x1) ∨ 9 < a0 105 5) → (((-1) = 0 - 1 ∧ a0 2 1 = a0 2 1) ∧ a0 105 5 = a0 105 5)) from by omega), (fun h => absurd h (by omega)), ⟨⟨fun _ _ => rfl, fun _ _ => ⟨rfl, rfl, rfl⟩⟩, fun h => absurd h (by decide), fun _ _ => rfl⟩⟩
    ·
      refine jt_bI (sp_X9_read_r2 E d (jd_le hd rfl) x1 a0 b0 hv0) (fun r1502_ a1502_ b1502_ h1502_ => ?_)
      obtain ⟨hv1502_, hf1502_, rfl, hq1502_0, hq1502_1, hq1502_2, hq1502_3, hq1502_4, hq1502_5⟩ := h1502_
      have h1503_ := iv_get hv0 (k := 2) (j := 1) (l := 0) (u := 200) rfl
      have hf1504_ : jfr jW_X11_rates a0 a1502_ := jfr_tr (jfr_rf _ _) hf1502_ rfl
      exact cp_X11_rates_32 E d hd x1 a0 b0 hv0 r1502_ a1502_ hv1502_ hf1504_ (show ((a0 2 1 = 0 ∧ a0 105 5 = 0) → ((0 ≤ x1 ∧ x1 ≤ 1999) ∧ r1502_ = 0 - 3)) from by omega) (show ((0 ≤ x1 ∧ x1 ≤ 1999) ∧ a0 105 5 ≤ 9) from by omega) ⟨hq1502_1 (by omega), hq1502_2 (by omega)⟩ ⟨hq1502_3, hq1502_4, hq1502_5⟩
def jW_X6_takeRuleWord_r2 : List (Nat × Nat) := [(2, 2)]
abbrev jQ_X6_takeRuleWord_r2 (a0 b0 : Nat → Nat → Int) : List jxV → (Nat → Nat → Int) → (Nat → Nat → Int) → Prop := rI (fun r a b => (iv a) ∧ (jfr jW_X6_takeRuleWord_r2 a0 a) ∧ (b0 = b) ∧ (r = WI (a0 3) (a0 2 1).toNat (a0 2 2).toNat) ∧ (0 ≤ r → a 2 2 = (SK (a0 3) (a0 2 1).toNat ((a0 2 2).toNat + wdn (10 + r.toNat)) : Int)) ∧ (r < 0 → a 2 2 = a0 2 2))
theorem cp_X6_takeRuleWord_r2_42 (E : jxE) (d : Nat) (hd : Nat.ble 6 (d + 1) = true) (a0 b0 : Nat → Nat → Int) (hv0 : iv a0) (hp0 : a0 2 3 = 0) : ∀ (a : Nat → Nat → Int), iv a → jfr jW_X6_takeRuleWord_r2 a0 a → (TW (a0 3) (a0 2 1).toNat (a0 2 2).toNat 13) → (a 2 2 = (SK (a0 3) (a0 2 1).toNat ((a0 2 2).toNat + wdn 13) : Int)) → jt (jxX E d 106 42 [none] [] (jxSH, a, b0)) (jQ_X6_takeRuleWord_r2 a0 b0) := by
  intro a hv hf htw hat
  refine jt_eq (bq_X6_takeRuleWord_r2_42 E d a b0) ?_
  have h3 : a 3 = a0 3 := funext fun j => hf 3 j rfl
  have h21 := hf 2 1 rfl
  exact jt_rI ⟨hv, hf, rfl, (WI_3 htw).symm, (fun _ => hat), (fun h => absurd h (by decide))⟩
theorem cp_X6_takeRuleWord_r2_44 (E : jxE) (d : Nat) (hd : Nat.ble 6 (d + 1) = true) (a0 b0 : Nat → Nat → Int) (hv0 : iv a0) (hp0 : a0 2 3 = 0) : ∀ (a : Nat → Nat → Int), iv a → jfr jW_X6_takeRuleWord_r2 a0 a → (¬ TW (a0 3) (a0 2 1).toNat (a0 2 2).toNat 10 ∧ ¬ TW (a0 3) (a0 2 1).toNat (a0 2 2).toNat 11 ∧ ¬ TW (a0 3) (a0 2 1).toNat (a0 2 2).toNat 12 ∧ ¬ TW (a0 3) (a0 2 1).toNat (a0 2 2).toNat 13) → a 2 2 = a0 2 2 → a 2 3 = 0 → jt (jxX E d 106 44 [some (.inr (.inr (.inl 2)))] [] (jxSH, a, b0)) (jQ_X6_takeRuleWord_r2 a0 b0) := by
  intro a hv hf hn hi1 hi2
  refine jt_eq (bq_X6_takeRuleWord_r2_44 E d a b0) ?_
  have h1505_ := iv_get hv (k := 2) (j := 2) (l := 0) (u := 200) rfl
  have h1506_ := iv_get hv0 (k := 2) (j := 2) (l := 0) (u := 200) rfl
  have h1507_ : a 2 3 = a0 2 3 := hf 2 3 rfl
  have h3 : a 3 = a0 3 := funext fun j => hf 3 j rfl
  have h21 := hf 2 1 rfl
  refine jt_bI (sp_X8_takesWord_r1014 E d (jd_le hd rfl) a b0 hv) (fun r1508_ a1508_ b1508_ h1508_ => ?_)
  obtain ⟨hv1508_, hf1508_, rfl, hq1508_0, hq1508_1, hq1508_2, hq1508_3, hq1508_4⟩ := h1508_
  have h1509_ := iv_get hv (k := 2) (j := 1) (l := 0) (u := 200) rfl
  have h1510_ : a 2 1 = a0 2 1 := hf 2 1 rfl
  have h1511_ := iv_get hv0 (k := 2) (j := 1) (l := 0) (u := 200) rfl
  have h1512_ := iv_get hv1508_ (k := 2) (j := 2) (l := 0) (u := 200) rfl
  have hz1508 := hf1508_ 2 3 rfl
  refine jt_ite (fun c1513_ => ?_) (fun c1513_ => ?_)
  ·
    have hf1514_ : jfr jW_X6_takeRuleWord_r2 a0 a1508_ := jfr_tr hf hf1508_ rfl
    exact jt_rI ⟨hv1508_, hf1514_, rfl, (WI_no hn.1 hn.2.1 hn.2.2.1 hn.2.2.2 (by have q := (hq1508_4 (by omega)).resolve_left (fun h => h (by omega)); rw [show a 3 = a0 3 from funext (fun j => hf 3 j rfl), show a 2 1 = a0 2 1 from hf 2 1 rfl, show a 2 2 = a0 2 2 from by omega] at q; exact q)).symm, (fun h => absurd h (by decide)), (fun _ => by omega)⟩
  ·
    have hf1515_ : jfr jW_X6_takeRuleWord_r2 a0 a1508_ := jfr_tr hf hf1508_ rfl
    exact jt_rI ⟨hv1508_, hf1515_, rfl, (by have q := (hq1508_3 (by omega)).2.1; rw [show a 3 = a0 3 from funext (fun j => hf 3 j rfl), show a 2 1 = a0 2 1 from hf 2 1 rfl, show a 2 2 = a0 2 2 from by omega] at q; exact (WI_4 q).symm), (fun _ => by have q := (hq1508_3 (by omega)).2.2; rw [show a 3 = a0 3 from funext (fun j => hf 3 j rfl), show a 2 1 = a0 2 1 from hf 2 1 rfl, show a 2 2 = a0 2 2 from by omega] at q; exact q), (fun h => absurd h (by decide))⟩
theorem sp_X6_takeRuleWord_r2 (E : jxE) (d : Nat) (hd : Nat.ble 6 d = true) (a0 b0 : Nat → Nat → Int) (hv0 : iv a0) (hp0 : a0 2 3 = 0) : jt (jxC E d 106 [.inr (.inr (.inl 2))] (jxSH, a0, b0)) (jQ_X6_takeRuleWord_r2 a0 b0) := by
  obtain ⟨d, rfl⟩ := jd_succ hd
  refine jt_eq (bq_X6_takeRuleWord_r2 E d a0 b0) ?_
  refine jt_bI (sp_X8_takesWord_r1010 E d (jd_le hd rfl) a0 b0 hv0) (fun r1516_ a1516_ b1516_ h1516_ => ?_)
  obtain ⟨hv1516_, hf1516_, rfl, hq1516_0, hq1516_1, hq1516_2, hq1516_3, hq1516_4⟩ := h1516_
  have h1517_ := iv_get hv0 (k := 2) (j := 1) (l := 0) (u := 200) rfl
  have h1518_ := iv_get hv0 (k := 2) (j := 2) (l := 0) (u := 200) rfl
  have h1519_ := iv_get hv1516_ (k := 2) (j := 2) (l := 0) (u := 200) rfl
  have hz1516 := hf1516_ 2 3 rfl
  refine jt_ite (fun c1520_ => ?_) (fun c1520_ => ?_)
  ·
    refine jt_bI (sp_X8_takesWord_r1011 E d (jd_le hd rfl) a1516_ b0 hv1516_) (fun r1521_ a1521_ b1521_ h1521_ => ?_)
    obtain ⟨hv1521_, hf1521_, rfl, hq1521_0, hq1521_1, hq1521_2, hq1521_3, hq1521_4⟩ := h1521_
    have h1522_ : a1516_ 2 3 = a0 2 3 := hf1516_ 2 3 rfl
    have h1523_ := iv_get hv1516_ (k := 2) (j := 1) (l := 0) (u := 200) rfl
    have h1524_ : a1516_ 2 1 = a0 2 1 := hf1516_ 2 1 rfl
    have h1525_ := iv_get hv1521_ (k := 2) (j := 2) (l := 0) (u := 200) rfl
    have hz1521 := hf1521_ 2 3 rfl
    refine jt_ite (fun c1526_ => ?_) (fun c1526_ => ?_)
    ·
      refine jt_bI (sp_X8_takesWord_r1012 E d (jd_le hd rfl) a1521_ b0 hv1521_) (fun r1527_ a1527_ b1527_ h1527_ => ?_)
      obtain ⟨hv1527_, hf1527_, rfl, hq1527_0, hq1527_1, hq1527_2, hq1527_3, hq1527_4⟩ := h1527_
      have h1528_ : a1521_ 2 3 = a1516_ 2 3 := hf1521_ 2 3 rfl
      have h1529_ := iv_get hv1521_ (k := 2) (j := 1) (l := 0) (u := 200) rfl
      have h1530_ : a1521_ 2 1 = a1516_ 2 1 := hf1521_ 2 1 rfl
      have h1531_ := iv_get hv1527_ (k := 2) (j := 2) (l := 0) (u := 200) rfl
      have hz1527 := hf1527_ 2 3 rfl
      refine jt_ite (fun c1532_ => ?_) (fun c1532_ => ?_)
      ·
        refine jt_bI (sp_X8_takesWord_r1013 E d (jd_le hd rfl) a1527_ b0 hv1527_) (fun r1533_ a1533_ b1533_ h1533_ => ?_)
        obtain ⟨hv1533_, hf1533_, rfl, hq1533_0, hq1533_1, hq1533_2, hq1533_3, hq1533_4⟩ := h1533_
        have h1534_ : a1527_ 2 3 = a1521_ 2 3 := hf1527_ 2 3 rfl
        have h1535_ := iv_get hv1527_ (k := 2) (j := 1) (l := 0) (u := 200) rfl
        have h1536_ : a1527_ 2 1 = a1521_ 2 1 := hf1527_ 2 1 rfl
        have h1537_ := iv_get hv1533_ (k := 2) (j := 2) (l := 0) (u := 200) rfl
        have hz1533 := hf1533_ 2 3 rfl
        refine jt_ite (fun c1538_ => ?_) (fun c1538_ => ?_)
        ·
          have hf1539_ : jfr jW_X6_takeRuleWord_r2 a0 a1516_ := jfr_tr (jfr_rf _ _) hf1516_ rfl
          have hf1540_ : jfr jW_X6_takeRuleWord_r2 a0 a1521_ := jfr_tr hf1539_ hf1521_ rfl
          have hf1541_ : jfr jW_X6_takeRuleWord_r2 a0 a1527_ := jfr_tr hf1540_ hf1527_ rfl
          have hf1542_ : jfr jW_X6_takeRuleWord_r2 a0 a1533_ := jfr_tr hf1541_ hf1533_ rfl
          have h1543_ : a1533_ 2 3 = a1527_ 2 3 := hf1533_ 2 3 rfl
          exact cp_X6_takeRuleWord_r2_44 E d hd a0 b0 hv0 hp0 a1533_ hv1533_ hf1542_ ⟨(by have q := (hq1516_4 (by omega)).resolve_left (fun h => h (by omega)); exact q), (by have q := (hq1521_4 (by omega)).resolve_left (fun h => h (by omega)); rw [show a1516_ 3 = a0 3 from funext (fun j => hf1539_ 3 j rfl), show a1516_ 2 1 = a0 2 1 from hf1539_ 2 1 rfl, show a1516_ 2 2 = a0 2 2 from by omega] at q; exact q), (by have q := (hq1527_4 (by omega)).resolve_left (fun h => h (by omega)); rw [show a1521_ 3 = a0 3 from funext (fun j => hf1540_ 3 j rfl), show a1521_ 2 1 = a0 2 1 from hf1540_ 2 1 rfl, show a1521_ 2 2 = a0 2 2 from by omega] at q; exact q), (by have q := (hq1533_4 (by omega)).resolve_left (fun h => h (by omega)); rw [show a1527_ 3 = a0 3 from funext (fun j => hf1541_ 3 j rfl), show a1527_ 2 1 = a0 2 1 from hf1541_ 2 1 rfl, show a1527_ 2 2 = a0 2 2 from by omega] at q; exact q)⟩ (show a1533_ 2 2 = a0 2 2 from by omega) (show a1533_ 2 3 = 0 from by omega)
        ·
          have hf1544_ : jfr jW_X6_takeRuleWord_r2 a0 a1516_ := jfr_tr (jfr_rf _ _) hf1516_ rfl
          have hf1545_ : jfr jW_X6_takeRuleWord_r2 a0 a1521_ := jfr_tr hf1544_ hf1521_ rfl
          have hf1546_ : jfr jW_X6_takeRuleWord_r2 a0 a1527_ := jfr_tr hf1545_ hf1527_ rfl
          have hf1547_ : jfr jW_X6_takeRuleWord_r2 a0 a1533_ := jfr_tr hf1546_ hf1533_ rfl
          exact cp_X6_takeRuleWord_r2_42 E d hd a0 b0 hv0 hp0 a1533_ hv1533_ hf1547_ (by have q := (hq1533_3 (by omega)).2.1; rw [show a1527_ 3 = a0 3 from funext (fun j => hf1546_ 3 j rfl), show a1527_ 2 1 = a0 2 1 from hf1546_ 2 1 rfl, show a1527_ 2 2 = a0 2 2 from by omega] at q; exact q) (by have q := (hq1533_3 (by omega)).2.2; rw [show a1527_ 3 = a0 3 from funext (fun j => hf1546_ 3 j rfl), show a1527_ 2 1 = a0 2 1 from hf1546_ 2 1 rfl, show a1527_ 2 2 = a0 2 2 from by omega] at q; exact q)
      ·
        have hf1548_ : jfr jW_X6_takeRuleWord_r2 a0 a1516_ := jfr_tr (jfr_rf _ _) hf1516_ rfl
        have hf1549_ : jfr jW_X6_takeRuleWord_r2 a0 a1521_ := jfr_tr hf1548_ hf1521_ rfl
        have hf1550_ : jfr jW_X6_takeRuleWord_r2 a0 a1527_ := jfr_tr hf1549_ hf1527_ rfl
        exact jt_rI ⟨hv1527_, hf1550_, rfl, (by have q := (hq1527_3 (by omega)).2.1; rw [show a1521_ 3 = a0 3 from funext (fun j => hf1549_ 3 j rfl), show a1521_ 2 1 = a0 2 1 from hf1549_ 2 1 rfl, show a1521_ 2 2 = a0 2 2 from by omega] at q; exact (WI_2 q).symm), (fun _ => by have q := (hq1527_3 (by omega)).2.2; rw [show a1521_ 3 = a0 3 from funext (fun j => hf1549_ 3 j rfl), show a1521_ 2 1 = a0 2 1 from hf1549_ 2 1 rfl, show a1521_ 2 2 = a0 2 2 from by omega] at q; exact q), (fun h => absurd h (by decide))⟩
    ·
      have hf1551_ : jfr jW_X6_takeRuleWord_r2 a0 a1516_ := jfr_tr (jfr_rf _ _) hf1516_ rfl
      have hf1552_ : jfr jW_X6_takeRuleWord_r2 a0 a1521_ := jfr_tr hf1551_ hf1521_ rfl
      exact jt_rI ⟨hv1521_, hf1552_, rfl, (by have q := (hq1521_3 (by omega)).2.1; rw [show a1516_ 3 = a0 3 from funext (fun j => hf1551_ 3 j rfl), show a1516_ 2 1 = a0 2 1 from hf1551_ 2 1 rfl, show a1516_ 2 2 = a0 2 2 from by omega] at q; exact (WI_1 q).symm), (fun _ => by have q := (hq1521_3 (by omega)).2.2; rw [show a1516_ 3 = a0 3 from funext (fun j => hf1551_ 3 j rfl), show a1516_ 2 1 = a0 2 1 from hf1551_ 2 1 rfl, show a1516_ 2 2 = a0 2 2 from by omega] at q; exact q), (fun h => absurd h (by decide))⟩
  ·
    have hf1553_ : jfr jW_X6_takeRuleWord_r2 a0 a1516_ := jfr_tr (jfr_rf _ _) hf1516_ rfl
    exact jt_rI ⟨hv1516_, hf1553_, rfl, (by have q := (hq1516_3 (by omega)).2.1; exact (WI_0 q).symm), (fun _ => by have q := (hq1516_3 (by omega)).2.2; exact q), (fun h => absurd h (by decide))⟩
def jW_X6_readWord_r2 : List (Nat × Nat) := [(2, 2), (2, 3), (55, 2), (57, 9999)]
abbrev jQ_X6_readWord_r2 (a0 b0 : Nat → Nat → Int) : List jxV → (Nat → Nat → Int) → (Nat → Nat → Int) → Prop := rV (fun a b => (iv a) ∧ (jfr jW_X6_readWord_r2 a0 a) ∧ (b0 = b) ∧ (a 2 3 = RWF (a0 3) (a0 2 1).toNat (a0 2 2).toNat (a0 55 2)) ∧ (RWF (a0 3) (a0 2 1).toNat (a0 2 2).toNat (a0 55 2) = 0 → a 2 2 = (RE (a0 3) (a0 2 1).toNat (a0 2 2).toNat : Int) ∧ a 55 2 = jxor (a0 55 2) (jxshl 1 (WI (a0 3) (a0 2 1).toNat (a0 2 2).toNat)) ∧ UP (a0 57) (a 57) (WI (a0 3) (a0 2 1).toNat (a0 2 2).toNat).toNat (NV (a0 3) (a0 2 1).toNat (RQ (a0 3) (a0 2 1).toNat (a0 2 2).toNat))))
theorem cp_X6_readWord_r2_36 (E : jxE) (d : Nat) (hd : Nat.ble 7 (d + 1) = true) (a0 b0 : Nat → Nat → Int) (hv0 : iv a0) (hp0 : a0 2 3 = 0) : ∀ (y2 : Int) (a : Nat → Nat → Int), iv a → jfr jW_X6_readWord_r2 a0 a → 0 ≤ y2 → y2 ≤ 200 → (RWF (a0 3) (a0 2 1).toNat (a0 2 2).toNat (a0 55 2) = 3 + 8 * ((a0 2 2).toNat : Int)) → (y2 = a0 2 2) → a 2 3 = 0 → jt (jxX E d 105 36 [none, some (.inr (.inr (.inl 2))), some (.inl y2), none] [] (jxSH, a, b0)) (jQ_X6_readWord_r2 a0 b0) := by
  intro y2 a hv hf hi0 hi1 hrw hy2 hi4
  refine jt_eq (bq_X6_readWord_r2_36 E d y2 a b0) ?_
  have h3 : a 3 = a0 3 := funext fun j => hf 3 j rfl
  have h21 := hf 2 1 rfl
  refine jt_bV (sp_X8_noteFault E d (jd_le hd rfl) y2 2 a b0 hv) (fun a1554_ b1554_ h1554_ => ?_)
  obtain ⟨hv1554_, hf1554_, rfl, hq1554_0, hq1554_1⟩ := h1554_
  have hf1555_ : jfr jW_X6_readWord_r2 a0 a1554_ := jfr_tr hf hf1554_ rfl
  exact jt_rV ⟨hv1554_, hf1555_, rfl, (by rw [hrw]; omega), (fun h => absurd h (by rw [hrw]; omega))⟩
theorem cp_X6_readWord_r2_75 (E : jxE) (d : Nat) (hd : Nat.ble 7 (d + 1) = true) (a0 b0 : Nat → Nat → Int) (hv0 : iv a0) (hp0 : a0 2 3 = 0) : ∀ (a : Nat → Nat → Int), iv a → jfr jW_X6_readWord_r2 a0 a → (a 2 3 = RWF (a0 3) (a0 2 1).toNat (a0 2 2).toNat (a0 55 2)) → (a 2 2 = (RE (a0 3) (a0 2 1).toNat (a0 2 2).toNat : Int)) → (a 55 2 = jxor (a0 55 2) (jxshl 1 (WI (a0 3) (a0 2 1).toNat (a0 2 2).toNat))) → (UP (a0 57) (a 57) (WI (a0 3) (a0 2 1).toNat (a0 2 2).toNat).toNat (NV (a0 3) (a0 2 1).toNat (RQ (a0 3) (a0 2 1).toNat (a0 2 2).toNat))) → jt (jxX E d 105 75 [none, none, none, none] [] (jxSH, a, b0)) (jQ_X6_readWord_r2 a0 b0) := by
  intro a hv hf hcf hat hmk hu
  refine jt_eq (bq_X6_readWord_r2_75 E d a b0) ?_
  have h3 : a 3 = a0 3 := funext fun j => hf 3 j rfl
  have h21 := hf 2 1 rfl
  exact jt_rV ⟨hv, hf, rfl, hcf, (fun _ => ⟨hat, hmk, hu⟩)⟩
theorem cp_X6_readWord_r2_43 (E : jxE) (d : Nat) (hd : Nat.ble 7 (d + 1) = true) (a0 b0 : Nat → Nat → Int) (hv0 : iv a0) (hp0 : a0 2 3 = 0) : ∀ (y3 : Int) (a : Nat → Nat → Int), iv a → jfr jW_X6_readWord_r2 a0 a → 0 ≤ y3 → y3 ≤ 4 → (y3 = WI (a0 3) (a0 2 1).toNat (a0 2 2).toNat) → 0 ≤ y3 → y3 ≤ 4 → (a 2 2 = (RQ (a0 3) (a0 2 1).toNat (a0 2 2).toNat : Int)) → (¬ jxand (jxshr (a0 55 2) y3) 1 = 1) → a 2 3 = 0 → a 55 2 = a0 55 2 → (∀ j, a 57 j = a0 57 j) → jt (jxX E d 105 43 [some (.inr (.inr (.inl 55))), some (.inr (.inr (.inl 2))), none, some (.inl y3)] [] (jxSH, a, b0)) (jQ_X6_readWord_r2 a0 b0) := by
  intro y3 a hv hf hi0 hi1 hy3 hi3 hi4 hat hnb hi7 hi8 hs57
  refine jt_eq (bq_X6_readWord_r2_43 E d y3 a b0) ?_
  have h3 : a 3 = a0 3 := funext fun j => hf 3 j rfl
  have h21 := hf 2 1 rfl
  have hP : (a 2 2).toNat = RQ (a0 3) (a0 2 1).toNat (a0 2 2).toNat := by rw [hat]; exact Int.toNat_natCast _
  have hlo := RLO_g (w := y3) (by omega) (by omega)
  have hhi := RHI_g (w := y3) (by omega) (by omega)
  refine jt_grd (by omega) ?_
  refine jt_grd (by omega) ?_
  have hv1556_ : iv (jxu a 55 2 (jxor (a 55 2) (jxshl 1 y3))) := iv_putf hv rfl
  refine jt_bI (sp_X8_takeNumber E d (jd_le hd rfl) (([1, 0, 0, 1, 0] : List Int).getD (y3.toNat) 0) (([20, 99, 20, 400, 2] : List Int).getD (y3.toNat) 0) (jxu a 55 2 (jxor (a 55 2) (jxshl 1 y3))) b0 hv1556_) (fun r1557_ a1557_ b1557_ h1557_ => ?_)
  obtain ⟨hv1557_, hf1557_, rfl, hq1557_0, hq1557_1, hq1557_2, hq1557_3⟩ := h1557_
  have h1558_ : (0 ≤ r1557_ ∧ r1557_ ≤ 999) := hq1557_3
  refine jt_grd (by omega) ?_
  have hv1559_ : iv (jxu a1557_ 57 (y3.toNat) r1557_) := iv_putf hv1557_ rfl
  have hf1560_ : jfr jW_X6_readWord_r2 a0 (jxu a 55 2 (jxor (a 55 2) (jxshl 1 y3))) := jfr_put hf rfl
  have hf1561_ : jfr jW_X6_readWord_r2 a0 a1557_ := jfr_tr hf1560_ hf1557_ rfl
  have hf1562_ : jfr jW_X6_readWord_r2 a0 (jxu a1557_ 57 (y3.toNat) r1557_) := jfr_put hf1561_ rfl
  exact cp_X6_readWord_r2_75 E d hd a0 b0 hv0 hp0 (jxu a1557_ 57 (y3.toNat) r1557_) hv1559_ hf1562_ (by have e0 := hq1557_0; have e1 := hq1557_1; have e2 := hq1557_2; have hj : jxu a 55 2 (jxor (a 55 2) (jxshl 1 y3)) 3 = a 3 := rfl; have hj1 : jxu a 55 2 (jxor (a 55 2) (jxshl 1 y3)) 2 1 = a 2 1 := rfl; have hj2 : jxu a 55 2 (jxor (a 55 2) (jxshl 1 y3)) 2 2 = a 2 2 := rfl; have hj3 : jxu a 55 2 (jxor (a 55 2) (jxshl 1 y3)) 2 3 = a 2 3 := rfl; rw [hj, hj1, hj2, h3, h21, hP] at e0 e1 e2; rw [hj3] at e2; rw [if_pos (by omega), hlo, hhi] at e2; rw [RWF_go (by omega) (by rw [← hy3]; exact hnb), ← hy3]; exact e2) (by have e0 := hq1557_0; have e1 := hq1557_1; have e2 := hq1557_2; have hj : jxu a 55 2 (jxor (a 55 2) (jxshl 1 y3)) 3 = a 3 := rfl; have hj1 : jxu a 55 2 (jxor (a 55 2) (jxshl 1 y3)) 2 1 = a 2 1 := rfl; have hj2 : jxu a 55 2 (jxor (a 55 2) (jxshl 1 y3)) 2 2 = a 2 2 := rfl; have hj3 : jxu a 55 2 (jxor (a 55 2) (jxshl 1 y3)) 2 3 = a 2 3 := rfl; rw [hj, hj1, hj2, h3, h21, hP] at e0 e1 e2; rw [hj3] at e2; exact e1) (by show a1557_ 55 2 = _; rw [hf1557_ 55 2 rfl, ← hy3, ← (by omega : a 55 2 = a0 55 2)]; simp [jxu]) (by have e0 := hq1557_0; have e1 := hq1557_1; have e2 := hq1557_2; have hj : jxu a 55 2 (jxor (a 55 2) (jxshl 1 y3)) 3 = a 3 := rfl; have hj1 : jxu a 55 2 (jxor (a 55 2) (jxshl 1 y3)) 2 1 = a 2 1 := rfl; have hj2 : jxu a 55 2 (jxor (a 55 2) (jxshl 1 y3)) 2 2 = a 2 2 := rfl; have hj3 : jxu a 55 2 (jxor (a 55 2) (jxshl 1 y3)) 2 3 = a 2 3 := rfl; rw [hj, hj1, hj2, h3, h21, hP] at e0 e1 e2; rw [hj3] at e2; rw [← hy3, ← e0]; exact UP_put (fun j => (hf1557_ 57 j rfl).trans (hs57 j)))
theorem sp_X6_readWord_r2 (E : jxE) (d : Nat) (hd : Nat.ble 7 d = true) (a0 b0 : Nat → Nat → Int) (hv0 : iv a0) (hp0 : a0 2 3 = 0) : jt (jxC E d 105 [.inr (.inr (.inl 55)), .inr (.inr (.inl 2))] (jxSH, a0, b0)) (jQ_X6_readWord_r2 a0 b0) := by
  obtain ⟨d, rfl⟩ := jd_succ hd
  refine jt_eq (bq_X6_readWord_r2 E d a0 b0) ?_
  refine jt_eI (eq_X8_place E d (jd_le hd rfl) a0 b0) ?_
  refine jt_bI (sp_X6_takeRuleWord_r2 E d (jd_le hd rfl) a0 b0 hv0 (show a0 2 3 = 0 from by omega)) (fun r1563_ a1563_ b1563_ h1563_ => ?_)
  obtain ⟨hv1563_, hf1563_, rfl, hq1563_0, hq1563_1, hq1563_2⟩ := h1563_
  have hws1563 := WI_sp (a0 3) (a0 2 1).toNat (a0 2 2).toNat
  have hwi1563 : r1563_ = WI (a0 3) (a0 2 1).toNat (a0 2 2).toNat := hq1563_0
  have hz1563 := hf1563_ 2 3 rfl
  have h5521563 := hf1563_ 55 2 rfl
  refine jt_ite (fun c1564_ => ?_) (fun c1564_ => ?_)
  ·
    refine jt_bV (sp_X8_noteCannotStand E d (jd_le hd rfl) a1563_ b0 hv1563_) (fun a1565_ b1565_ h1565_ => ?_)
    obtain ⟨hv1565_, hf1565_, rfl, hq1565_0, hq1565_1⟩ := h1565_
    have h1566_ : a1563_ 2 3 = a0 2 3 := hf1563_ 2 3 rfl
    have h1567_ := iv_get hv1563_ (k := 2) (j := 2) (l := 0) (u := 200) rfl
    have hf1568_ : jfr jW_X6_readWord_r2 a0 a1563_ := jfr_tr (jfr_rf _ _) hf1563_ rfl
    have hf1569_ : jfr jW_X6_readWord_r2 a0 a1565_ := jfr_tr hf1568_ hf1565_ rfl
    exact jt_rV ⟨hv1565_, hf1569_, rfl, (by first | (rw [RWF_no (by omega)]; omega) | exact absurd (by omega : False) id), (fun h => absurd h (by first | (rw [RWF_no (by omega)]; omega) | exact absurd (by omega : False) id))⟩
  ·
    refine jt_ite (fun c1570_ => ?_) (fun c1570_ => ?_)
    ·
      have h1571_ : a1563_ 55 2 = a0 55 2 := hf1563_ 55 2 rfl
      have h1572_ := jxshr_b (a1563_ 55 2) r1563_
      have h1573_ := jxand_r (jxshr (a1563_ 55 2) r1563_) 1 (by decide) (by decide)
      refine jt_ite (fun c1574_ => ?_) (fun c1574_ => ?_)
      ·
        have hf1575_ : jfr jW_X6_readWord_r2 a0 a1563_ := jfr_tr (jfr_rf _ _) hf1563_ rfl
        have h1576_ := f_X8_place_eq a0 b0
        have h1577_ := iv_get hv0 (k := 2) (j := 2) (l := 0) (u := 200) rfl
        have h1578_ : a1563_ 2 3 = a0 2 3 := hf1563_ 2 3 rfl
        exact cp_X6_readWord_r2_36 E d hd a0 b0 hv0 hp0 (f_X8_place a0 b0) a1563_ hv1563_ hf1575_ (show 0 ≤ f_X8_place a0 b0 from by omega) (show f_X8_place a0 b0 ≤ 200 from by omega) (RWF_two (by omega) (by rw [← hwi1563, ← h5521563]; assumption)) rfl (show a1563_ 2 3 = 0 from by omega)
      ·
        have hf1579_ : jfr jW_X6_readWord_r2 a0 a1563_ := jfr_tr (jfr_rf _ _) hf1563_ rfl
        have h1580_ : a1563_ 2 3 = a0 2 3 := hf1563_ 2 3 rfl
        exact cp_X6_readWord_r2_43 E d hd a0 b0 hv0 hp0 r1563_ a1563_ hv1563_ hf1579_ (show 0 ≤ r1563_ from by omega) (show r1563_ ≤ 4 from by omega) hwi1563 (show 0 ≤ r1563_ from by omega) (show r1563_ ≤ 4 from by omega) (by have q := hq1563_1 (by omega); rw [hwi1563] at q; exact q) (by rw [← h5521563]; assumption) (show a1563_ 2 3 = 0 from by omega) (show a1563_ 55 2 = a0 55 2 from by omega) (fun j => (hf1563_ 57 j rfl))
    ·
      refine jt_bV (sp_X8_noteCannotStand E d (jd_le hd rfl) a1563_ b0 hv1563_) (fun a1581_ b1581_ h1581_ => ?_)
      obtain ⟨hv1581_, hf1581_, rfl, hq1581_0, hq1581_1⟩ := h1581_
      have h1582_ : a1563_ 2 3 = a0 2 3 := hf1563_ 2 3 rfl
      have h1583_ := iv_get hv1563_ (k := 2) (j := 2) (l := 0) (u := 200) rfl
      have hf1584_ : jfr jW_X6_readWord_r2 a0 a1563_ := jfr_tr (jfr_rf _ _) hf1563_ rfl
      have hf1585_ : jfr jW_X6_readWord_r2 a0 a1581_ := jfr_tr hf1584_ hf1581_ rfl
      exact jt_rV ⟨hv1581_, hf1585_, rfl, (by first | (rw [RWF_no (by omega)]; omega) | exact absurd (by omega : False) id), (fun h => absurd h (by first | (rw [RWF_no (by omega)]; omega) | exact absurd (by omega : False) id))⟩
def jW_X6_readWords_r2 : List (Nat × Nat) := [(2, 2), (2, 3), (55, 2), (57, 9999)]
abbrev jQ_X6_readWords_r2 (a0 b0 : Nat → Nat → Int) : List jxV → (Nat → Nat → Int) → (Nat → Nat → Int) → Prop := rI (fun r a b => (iv a) ∧ (jfr jW_X6_readWords_r2 a0 a) ∧ (b0 = b) ∧ (RUR a0 a r))
theorem cp_X6_readWords_r2_32 (E : jxE) (d : Nat) (hd : Nat.ble 8 (d + 1) = true) (a0 b0 : Nat → Nat → Int) (hv0 : iv a0) (hp0 : a0 2 3 = 0) (hp1 : a0 2 2 < a0 2 1) (hp2 : RUL a0 a0 0) : ∀ (y2 : Int) (a : Nat → Nat → Int), iv a → jfr jW_X6_readWords_r2 a0 a → 0 ≤ y2 → y2 ≤ 100 → (RUE a0 a y2) → jt (jxX E d 104 32 [none, some (.inr (.inr (.inl 2))), some (.inl y2), none] [] (jxSH, a, b0)) (jQ_X6_readWords_r2 a0 b0) := by
  intro y2 a hv hf hi0 hi1 hre
  refine jt_eq (bq_X6_readWords_r2_32 E d y2 a b0) ?_
  have h3 : a 3 = a0 3 := funext fun j => hf 3 j rfl
  have h21 := hf 2 1 rfl
  refine jt_eI (eq_X8_isAtEnd E d (jd_le hd rfl) a b0) ?_
  have h1586_ := f_X8_isAtEnd_eq a b0
  have h1587_ := iv_get hv (k := 2) (j := 2) (l := 0) (u := 200) rfl
  have h1588_ := iv_get hv (k := 2) (j := 1) (l := 0) (u := 200) rfl
  have h1589_ : a 2 1 = a0 2 1 := hf 2 1 rfl
  have h1590_ := iv_get hv0 (k := 2) (j := 1) (l := 0) (u := 200) rfl
  refine jt_ite (fun c1591_ => ?_) (fun c1591_ => ?_)
  ·
    refine jt_bV (sp_X8_noteCannotStand E d (jd_le hd rfl) a b0 hv) (fun a1592_ b1592_ h1592_ => ?_)
    obtain ⟨hv1592_, hf1592_, rfl, hq1592_0, hq1592_1⟩ := h1592_
    have hf1593_ : jfr jW_X6_readWords_r2 a0 a1592_ := jfr_tr hf hf1592_ rfl
    exact jt_rI ⟨hv1592_, hf1593_, rfl, (RU_end2 hre (by have q := hp2.2.1; have q2 : SK (a0 3) (a0 2 1).toNat 0 = RP (a0 3) (a0 2 1).toNat 0 := rfl; omega) (hf 2 1 rfl) (by omega) (by omega) hq1592_0 hq1592_1)⟩
  ·
    exact jt_rI ⟨hv, hf, rfl, (RU_end1 hre (by have q := hp2.2.1; have q2 : SK (a0 3) (a0 2 1).toNat 0 = RP (a0 3) (a0 2 1).toNat 0 := rfl; omega) (hf 2 1 rfl) (by omega))⟩
theorem cp_X6_readWords_r2_4 (E : jxE) (d : Nat) (hd : Nat.ble 8 (d + 1) = true) (a0 b0 : Nat → Nat → Int) (hv0 : iv a0) (hp0 : a0 2 3 = 0) (hp1 : a0 2 2 < a0 2 1) (hp2 : RUL a0 a0 0) : ∀ n : Nat, (∀ (y2 y3 : Int) (a : Nat → Nat → Int), (((100 - y2) * 1) + 0).toNat ≤ n → iv a → jfr jW_X6_readWords_r2 a0 a → 0 ≤ y2 → y2 ≤ 100 → 0 ≤ y3 → y3 ≤ 1 → (¬ y3 = 0 → RUL a0 a y2.toNat) → (y3 = 0 → RUE a0 a y2) → jt (jxX E d 104 4 [some (.inr (.inr (.inl 55))), some (.inr (.inr (.inl 2))), some (.inl y2), some (.inl y3)] [] (jxSH, a, b0)) (jQ_X6_readWords_r2 a0 b0)) := by
  refine jx_ind fun n ih => ?_
  have ih4 : ∀ (y2 y3 : Int) (a : Nat → Nat → Int), (((100 - y2) * 1) + 0).toNat < n → iv a → jfr jW_X6_readWords_r2 a0 a → 0 ≤ y2 → y2 ≤ 100 → 0 ≤ y3 → y3 ≤ 1 → (¬ y3 = 0 → RUL a0 a y2.toNat) → (y3 = 0 → RUE a0 a y2) → jt (jxX E d 104 4 [some (.inr (.inr (.inl 55))), some (.inr (.inr (.inl 2))), some (.inl y2), some (.inl y3)] [] (jxSH, a, b0)) (jQ_X6_readWords_r2 a0 b0) := fun y2 y3 a hlt i0 i1 i2 i3 i4 i5 i6 i7 => (ih _ hlt) y2 y3 a (Nat.le_refl _) i0 i1 i2 i3 i4 i5 i6 i7
  have hc4 : ∀ (y2 y3 : Int) (a : Nat → Nat → Int), (((100 - y2) * 1) + 0).toNat ≤ n → iv a → jfr jW_X6_readWords_r2 a0 a → 0 ≤ y2 → y2 ≤ 100 → 0 ≤ y3 → y3 ≤ 1 → (¬ y3 = 0 → RUL a0 a y2.toNat) → (y3 = 0 → RUE a0 a y2) → jt (jxX E d 104 4 [some (.inr (.inr (.inl 55))), some (.inr (.inr (.inl 2))), some (.inl y2), some (.inl y3)] [] (jxSH, a, b0)) (jQ_X6_readWords_r2 a0 b0) := by
    intro y2 y3 a hm hv hf hi0 hi1 hi2 hi3 hrl hre
    refine jt_eq (bq_X6_readWords_r2_4 E d y2 y3 a b0) ?_
    have h3 : a 3 = a0 3 := funext fun j => hf 3 j rfl
    have h21 := hf 2 1 rfl
    have hf0 : ¬ y3 = 0 → a 2 3 = 0 := fun h => (hrl h).1
    have hbig : ¬ y3 = 0 → y2.toNat ≤ 5 := fun h => RUL_big (hrl h)
    refine jt_ite (fun c1594_ => ?_) (fun c1594_ => ?_)
    ·
      exact cp_X6_readWords_r2_32 E d hd a0 b0 hv0 hp0 hp1 hp2 y2 a hv hf (show 0 ≤ y2 from by omega) (show y2 ≤ 100 from by omega) (by first | exact hre (by omega) | exact absurd (by omega : False) id)
    ·
      refine jt_ite (fun c1595_ => ?_) (fun c1595_ => ?_)
      ·
        refine jt_bV (sp_X6_readWord_r2 E d (jd_le hd rfl) a b0 hv (show a 2 3 = 0 from by omega)) (fun a1596_ b1596_ h1596_ => ?_)
        obtain ⟨hv1596_, hf1596_, rfl, hq1596_0, hq1596_1⟩ := h1596_
        refine jt_bI (sp_X8_takesSign E d (jd_le hd rfl) 59 a1596_ b0 hv1596_) (fun r1597_ a1597_ b1597_ h1597_ => ?_)
        obtain ⟨hv1597_, hf1597_, rfl, hq1597_0, hq1597_1, hq1597_2, hq1597_3, hq1597_4⟩ := h1597_
        have h1598_ := iv_get hv1596_ (k := 2) (j := 1) (l := 0) (u := 200) rfl
        have h1599_ : a1596_ 2 1 = a 2 1 := hf1596_ 2 1 rfl
        have h1600_ := iv_get hv (k := 2) (j := 1) (l := 0) (u := 200) rfl
        have h1601_ : a 2 1 = a0 2 1 := hf 2 1 rfl
        have h1602_ := iv_get hv0 (k := 2) (j := 1) (l := 0) (u := 200) rfl
        have h1603_ := iv_get hv1596_ (k := 2) (j := 2) (l := 0) (u := 200) rfl
        have h1604_ := iv_get hv1597_ (k := 2) (j := 2) (l := 0) (u := 200) rfl
        have hstep := RU_step (i := y2) (r := r1597_) (by omega) (hrl (by omega)) h3 (hf 2 1 rfl) hq1596_0 hq1596_1 (funext fun j => hf1596_ 3 j rfl) (hf1596_ 2 1 rfl) hq1597_2 hq1597_3 hq1597_4 (hf1597_ 2 3 rfl) (hf1597_ 55 2 rfl) (fun j => hf1597_ 57 j rfl) (by omega)
        have hf1605_ : jfr jW_X6_readWords_r2 a0 a1596_ := jfr_tr hf hf1596_ rfl
        have hf1606_ : jfr jW_X6_readWords_r2 a0 a1597_ := jfr_tr hf1605_ hf1597_ rfl
        have h1607_ : jxw (y2 + 1) = y2 + 1 := jxw_id (by omega) (by omega)
        exact ih4 (jxw (y2 + 1)) r1597_ a1597_ (show (((100 - (jxw (y2 + 1))) * 1) + 0).toNat < n from by omega) hv1597_ hf1606_ (show 0 ≤ jxw (y2 + 1) from by omega) (show jxw (y2 + 1) ≤ 100 from by omega) (show 0 ≤ r1597_ from by omega) (show r1597_ ≤ 1 from by omega) (by first | exact (fun _ => hp2) | (rw [show (jxw (y2 + 1)).toNat = y2.toNat + 1 from by omega]; exact hstep.1)) (by first | exact (fun h => absurd h (by decide)) | (rw [show jxw (y2 + 1) = y2 + 1 from by omega]; exact hstep.2))
      ·
        exact cp_X6_readWords_r2_32 E d hd a0 b0 hv0 hp0 hp1 hp2 y2 a hv hf (show 0 ≤ y2 from by omega) (show y2 ≤ 100 from by omega) (by first | exact hre (by omega) | exact absurd (by omega : False) id)
  exact hc4
theorem sp_X6_readWords_r2 (E : jxE) (d : Nat) (hd : Nat.ble 8 d = true) (a0 b0 : Nat → Nat → Int) (hv0 : iv a0) (hp0 : a0 2 3 = 0) (hp1 : a0 2 2 < a0 2 1) (hp2 : RUL a0 a0 0) : jt (jxC E d 104 [.inr (.inr (.inl 55)), .inr (.inr (.inl 2))] (jxSH, a0, b0)) (jQ_X6_readWords_r2 a0 b0) := by
  obtain ⟨d, rfl⟩ := jd_succ hd
  refine jt_eq (bq_X6_readWords_r2 E d a0 b0) ?_
  have h1608_ := iv_get hv0 (k := 2) (j := 2) (l := 0) (u := 200) rfl
  have h1609_ := iv_get hv0 (k := 2) (j := 1) (l := 0) (u := 200) rfl
  exact (cp_X6_readWords_r2_4 E d hd a0 b0 hv0 hp0 hp1 hp2 _) 0 1 a0 (Nat.le_refl _) hv0 (jfr_rf _ _) (show 0 ≤ 0 from by omega) (show 0 ≤ 100 from by omega) (show 0 ≤ 1 from by omega) (show 1 ≤ 1 from by omega) (by first | exact (fun _ => hp2) | (rw [show (jxw (y2 + 1)).toNat = y2.toNat + 1 from by omega]; exact hstep.1)) (by first | exact (fun h => absurd h (by decide)) | (rw [show jxw (y2 + 1) = y2 + 1 from by omega]; exact hstep.2))
def jW_X6_read_r2 : List (Nat × Nat) := [(2, 2), (2, 3), (55, 2), (56, 9999), (57, 9999)]
abbrev jQ_X6_read_r2 (a0 b0 : Nat → Nat → Int) : List jxV → (Nat → Nat → Int) → (Nat → Nat → Int) → Prop := rI (fun r a b => (iv a) ∧ (jfr jW_X6_read_r2 a0 a) ∧ (b0 = b) ∧ ((a0 2 1 = 0 → r = 0)) ∧ (RRS (a0 3) (a0 2 1).toNat r) ∧ (0 ≤ r → ∀ w : Nat, w < 5 → a 56 w = DRF (a0 3) (a0 2 1).toNat r.toNat w) ∧ (r < 0 → ∀ j, a 56 j = a0 56 j))
theorem cp_X6_read_r2_64 (E : jxE) (d : Nat) (hd : Nat.ble 9 (d + 1) = true) (a0 b0 : Nat → Nat → Int) (hv0 : iv a0) : ∀ n : Nat, (∀ (y2 y3 : Int) (a : Nat → Nat → Int), (((5 - y3) * 1) + 0).toNat ≤ n → iv a → jfr jW_X6_read_r2 a0 a → 0 ≤ y3 → y3 ≤ 5 → (a0 2 1 = 0 → y2 = 0) → (RRS (a0 3) (a0 2 1).toNat y2 ∧ 0 ≤ y2 ∧ ∀ w : Nat, w < 5 → a 57 w = DRF (a0 3) (a0 2 1).toNat y2.toNat w) → (∀ w : Nat, (w : Int) < y3 → a 56 w = DRF (a0 3) (a0 2 1).toNat y2.toNat w) → jt (jxX E d 103 64 [some (.inr (.inr (.inl 55))), none, some (.inl y2), some (.inl y3)] [] (jxSH, a, b0)) (jQ_X6_read_r2 a0 b0)) := by
  refine jx_ind fun n ih => ?_
  have ih64 : ∀ (y2 y3 : Int) (a : Nat → Nat → Int), (((5 - y3) * 1) + 0).toNat < n → iv a → jfr jW_X6_read_r2 a0 a → 0 ≤ y3 → y3 ≤ 5 → (a0 2 1 = 0 → y2 = 0) → (RRS (a0 3) (a0 2 1).toNat y2 ∧ 0 ≤ y2 ∧ ∀ w : Nat, w < 5 → a 57 w = DRF (a0 3) (a0 2 1).toNat y2.toNat w) → (∀ w : Nat, (w : Int) < y3 → a 56 w = DRF (a0 3) (a0 2 1).toNat y2.toNat w) → jt (jxX E d 103 64 [some (.inr (.inr (.inl 55))), none, some (.inl y2), some (.inl y3)] [] (jxSH, a, b0)) (jQ_X6_read_r2 a0 b0) := fun y2 y3 a hlt i0 i1 i2 i3 i4 i5 i6 => (ih _ hlt) y2 y3 a (Nat.le_refl _) i0 i1 i2 i3 i4 i5 i6
  have hc64 : ∀ (y2 y3 : Int) (a : Nat → Nat → Int), (((5 - y3) * 1) + 0).toNat ≤ n → iv a → jfr jW_X6_read_r2 a0 a → 0 ≤ y3 → y3 ≤ 5 → (a0 2 1 = 0 → y2 = 0) → (RRS (a0 3) (a0 2 1).toNat y2 ∧ 0 ≤ y2 ∧ ∀ w : Nat, w < 5 → a 57 w = DRF (a0 3) (a0 2 1).toNat y2.toNat w) → (∀ w : Nat, (w : Int) < y3 → a 56 w = DRF (a0 3) (a0 2 1).toNat y2.toNat w) → jt (jxX E d 103 64 [some (.inr (.inr (.inl 55))), none, some (.inl y2), some (.inl y3)] [] (jxSH, a, b0)) (jQ_X6_read_r2 a0 b0) := by
    intro y2 y3 a hm hv hf hi0 hi1 hi2 hrs hh
    refine jt_eq (bq_X6_read_r2_64 E d y2 y3 a b0) ?_
    have h1610_ := iv_get hv0 (k := 2) (j := 1) (l := 0) (u := 200) rfl
    have h3 : a 3 = a0 3 := funext fun j => hf 3 j rfl
    have h21 := hf 2 1 rfl
    refine jt_ite (fun c1611_ => ?_) (fun c1611_ => ?_)
    ·
      refine jt_grd (by omega) ?_
      refine jt_grd (by omega) ?_
      have hv1612_ : iv (jxu a 56 (y3.toNat) (a 57 (y3.toNat))) := iv_putf hv rfl
      have hf1613_ : jfr jW_X6_read_r2 a0 (jxu a 56 (y3.toNat) (a 57 (y3.toNat))) := jfr_put hf rfl
      have h1614_ : jxw (y3 + 1) = y3 + 1 := jxw_id (by omega) (by omega)
      exact ih64 y2 (jxw (y3 + 1)) (jxu a 56 (y3.toNat) (a 57 (y3.toNat))) (show (((5 - (jxw (y3 + 1))) * 1) + 0).toNat < n from by omega) hv1612_ hf1613_ (show 0 ≤ jxw (y3 + 1) from by omega) (show jxw (y3 + 1) ≤ 5 from by omega) (show (a0 2 1 = 0 → y2 = 0) from by omega) (by first | exact hrs | exact hru.1 (by omega)) (by first | exact (fun w h => absurd h (by omega)) | (intro w hw; show (if w = y3.toNat then a 57 (y3.toNat) else a 56 w) = _; by_cases e : w = y3.toNat <;> first | (rw [if_pos e, ← e]; exact hrs.2.2 w (by omega)) | (rw [if_neg e]; exact hh w (by omega))))
    ·
      exact jt_rI ⟨hv, hf, rfl, (show (a0 2 1 = 0 → y2 = 0) from by omega), hrs.1, (fun _ w hw => hh w (by omega)), (fun h => absurd h (by have q := hrs.2.1; omega))⟩
  exact hc64
theorem cp_X6_read_r2_49 (E : jxE) (d : Nat) (hd : Nat.ble 9 (d + 1) = true) (a0 b0 : Nat → Nat → Int) (hv0 : iv a0) : ∀ (s0 : Int) (a : Nat → Nat → Int), iv a → jfr jW_X6_read_r2 a0 a → (a0 2 1 = 0 → (s0 = 0 ∧ a 2 3 = 0)) → (RUR a0 a s0) → (∀ j, a 56 j = a0 56 j) → jt (jxX E d 103 49 [some (.inr (.inr (.inl 55))), some (.inr (.inr (.inl 2))), none, none] [.inl s0] (jxSH, a, b0)) (jQ_X6_read_r2 a0 b0) := by
  intro s0 a hv hf hi0 hru hs56
  refine jt_eq (bq_X6_read_r2_49 E d s0 a b0) ?_
  have h1615_ := iv_get hv0 (k := 2) (j := 1) (l := 0) (u := 200) rfl
  have h3 : a 3 = a0 3 := funext fun j => hf 3 j rfl
  have h21 := hf 2 1 rfl
  refine jt_eI (eq_X8_isFaulty E d (jd_le hd rfl) a b0) ?_
  have h1616_ := f_X8_isFaulty_eq a b0
  refine jt_ite (fun c1617_ => ?_) (fun c1617_ => ?_)
  ·
    exact (cp_X6_read_r2_64 E d hd a0 b0 hv0 _) s0 0 a (Nat.le_refl _) hv hf (show 0 ≤ 0 from by omega) (show 0 ≤ 5 from by omega) (show (a0 2 1 = 0 → s0 = 0) from by omega) (by first | exact hrs | exact hru.1 (by omega)) (by first | exact (fun w h => absurd h (by omega)) | (intro w hw; show (if w = y3.toNat then a 57 (y3.toNat) else a 56 w) = _; by_cases e : w = y3.toNat <;> first | (rw [if_pos e, ← e]; exact hrs.2.2 w (by omega)) | (rw [if_neg e]; exact hh w (by omega))))
  ·
    refine jt_eI (eq_X8_answerOfFault E d (jd_le hd rfl) a b0) ?_
    have h1618_ := f_X8_answerOfFault_eq a b0
    have h1619_ := jxw_im ((-2) - (a 2 3))
    have h1620_ := jxw_rg ((-2) - (a 2 3))
    exact jt_rI ⟨hv, hf, rfl, (show (a0 2 1 = 0 → f_X8_answerOfFault a b0 = 0) from by omega), (by have q := hru.2 (by omega); have q2 := RRS_bd q.1 (tn200 hv0); rw [show f_X8_answerOfFault a b0 = -2 - a 2 3 from by omega]; exact q.1), (fun h => absurd h (by have q := hru.2 (by omega); have q2 := RRS_bd q.1 (tn200 hv0); omega)), (fun _ => hs56)⟩
theorem cp_X6_read_r2_2 (E : jxE) (d : Nat) (hd : Nat.ble 9 (d + 1) = true) (a0 b0 : Nat → Nat → Int) (hv0 : iv a0) : ∀ n : Nat, (∀ (y2 : Int) (a : Nat → Nat → Int), (((5 - y2) * 1) + 0).toNat ≤ n → iv a → jfr jW_X6_read_r2 a0 a → 0 ≤ y2 → y2 ≤ 5 → (∀ w : Nat, (w : Int) < y2 → a 57 w = RDF w) → (∀ j, a 56 j = a0 56 j) → jt (jxX E d 103 2 [some (.inr (.inr (.inl 55))), some (.inr (.inr (.inl 2))), some (.inl y2), none] [] (jxSH, a, b0)) (jQ_X6_read_r2 a0 b0)) := by
  refine jx_ind fun n ih => ?_
  have ih2 : ∀ (y2 : Int) (a : Nat → Nat → Int), (((5 - y2) * 1) + 0).toNat < n → iv a → jfr jW_X6_read_r2 a0 a → 0 ≤ y2 → y2 ≤ 5 → (∀ w : Nat, (w : Int) < y2 → a 57 w = RDF w) → (∀ j, a 56 j = a0 56 j) → jt (jxX E d 103 2 [some (.inr (.inr (.inl 55))), some (.inr (.inr (.inl 2))), some (.inl y2), none] [] (jxSH, a, b0)) (jQ_X6_read_r2 a0 b0) := fun y2 a hlt i0 i1 i2 i3 i4 i5 => (ih _ hlt) y2 a (Nat.le_refl _) i0 i1 i2 i3 i4 i5
  have hc2 : ∀ (y2 : Int) (a : Nat → Nat → Int), (((5 - y2) * 1) + 0).toNat ≤ n → iv a → jfr jW_X6_read_r2 a0 a → 0 ≤ y2 → y2 ≤ 5 → (∀ w : Nat, (w : Int) < y2 → a 57 w = RDF w) → (∀ j, a 56 j = a0 56 j) → jt (jxX E d 103 2 [some (.inr (.inr (.inl 55))), some (.inr (.inr (.inl 2))), some (.inl y2), none] [] (jxSH, a, b0)) (jQ_X6_read_r2 a0 b0) := by
    intro y2 a hm hv hf hi0 hi1 hdr hs56
    refine jt_eq (bq_X6_read_r2_2 E d y2 a b0) ?_
    have h3 : a 3 = a0 3 := funext fun j => hf 3 j rfl
    have h21 := hf 2 1 rfl
    refine jt_ite (fun c1621_ => ?_) (fun c1621_ => ?_)
    ·
      refine jt_grd (by omega) ?_
      refine jt_grd (by omega) ?_
      have hv1622_ : iv (jxu a 57 (y2.toNat) (([5, 10, 3, 60, 2] : List Int).getD (y2.toNat) 0)) := iv_putf hv rfl
      have hf1623_ : jfr jW_X6_read_r2 a0 (jxu a 57 (y2.toNat) (([5, 10, 3, 60, 2] : List Int).getD (y2.toNat) 0)) := jfr_put hf rfl
      have h1624_ : jxw (y2 + 1) = y2 + 1 := jxw_id (by omega) (by omega)
      exact ih2 (jxw (y2 + 1)) (jxu a 57 (y2.toNat) (([5, 10, 3, 60, 2] : List Int).getD (y2.toNat) 0)) (show (((5 - (jxw (y2 + 1))) * 1) + 0).toNat < n from by omega) hv1622_ hf1623_ (show 0 ≤ jxw (y2 + 1) from by omega) (show jxw (y2 + 1) ≤ 5 from by omega) (by first | exact (fun w h => absurd h (by omega)) | (intro w hw; show (if w = y2.toNat then _ else a 57 w) = RDF w; by_cases e : w = y2.toNat <;> first | (rw [if_pos e, RDF_g (by omega) (by omega), e, Int.toNat_of_nonneg (by omega)]) | (rw [if_neg e]; exact hdr (w) (by omega)))) (fun j => (rfl).trans (hs56 j))
    ·
      have hv1625_ : iv (jxu a 55 2 0) := iv_putf hv rfl
      refine jt_bV (sp_X8_startReading E d (jd_le hd rfl) (jxu a 55 2 0) b0 hv1625_) (fun a1626_ b1626_ h1626_ => ?_)
      obtain ⟨hv1626_, hf1626_, rfl, hq1626_0, hq1626_1, hq1626_2⟩ := h1626_
      have h1627_ : a1626_ 2 3 = 0 := hq1626_0
      have h1628_ := iv_get hv (k := 2) (j := 1) (l := 0) (u := 200) rfl
      have h1629_ : a 2 1 = a0 2 1 := hf 2 1 rfl
      have h1630_ := iv_get hv0 (k := 2) (j := 1) (l := 0) (u := 200) rfl
      have h1631_ := iv_get hv1626_ (k := 2) (j := 2) (l := 0) (u := 200) rfl
      have h1632_ : (a 2 1 = 0 → a1626_ 2 2 = 0) := hq1626_1
      have h57_1626 : ∀ j, a1626_ 57 j = a 57 j := fun j => hf1626_ 57 j rfl
      have e3_1626 : a1626_ 3 = a0 3 := funext fun j => (hf1626_ 3 j rfl).trans (hf 3 j rfl)
      have e21_1626 : a1626_ 2 1 = a0 2 1 := (hf1626_ 2 1 rfl).trans (hf 2 1 rfl)
      have hat1626 : a1626_ 2 2 = (SK (a0 3) (a0 2 1).toNat 0 : Int) := by have q := hq1626_2; rw [show jxu a 55 2 0 3 = a 3 from rfl, show jxu a 55 2 0 2 1 = a 2 1 from rfl, h3, h21] at q; exact q
      have hrul1626 : RUL a1626_ a1626_ 0 := ⟨by omega, by rw [e3_1626, e21_1626]; exact hat1626, (hf1626_ 55 2 rfl).trans (by simp [jxu]; rfl), fun k hk => absurd hk (Nat.not_lt_zero _), fun w hw => by rw [h57_1626, hdr w (by omega)]; rfl⟩
      refine jt_eI (eq_X8_isAtEnd E d (jd_le hd rfl) a1626_ b0) ?_
      have h1633_ := f_X8_isAtEnd_eq a1626_ b0
      have h1634_ := iv_get hv1626_ (k := 2) (j := 1) (l := 0) (u := 200) rfl
      have h1635_ : a1626_ 2 1 = a 2 1 := hf1626_ 2 1 rfl
      refine jt_ite (fun c1636_ => ?_) (fun c1636_ => ?_)
      ·
        refine jt_bI (sp_X6_readWords_r2 E d (jd_le hd rfl) a1626_ b0 hv1626_ (show a1626_ 2 3 = 0 from by omega) (show a1626_ 2 2 < a1626_ 2 1 from by omega) (by assumption)) (fun r1637_ a1637_ b1637_ h1637_ => ?_)
        obtain ⟨hv1637_, hf1637_, rfl, hq1637_0⟩ := h1637_
        have hf1638_ : jfr jW_X6_read_r2 a0 (jxu a 55 2 0) := jfr_put hf rfl
        have hf1639_ : jfr jW_X6_read_r2 a0 a1626_ := jfr_tr hf1638_ hf1626_ rfl
        have hf1640_ : jfr jW_X6_read_r2 a0 a1637_ := jfr_tr hf1639_ hf1637_ rfl
        exact cp_X6_read_r2_49 E d hd a0 b0 hv0 r1637_ a1637_ hv1637_ hf1640_ (show (a0 2 1 = 0 → (r1637_ = 0 ∧ a1637_ 2 3 = 0)) from by omega) (by have q := hq1637_0; unfold RUR at q; rw [e3_1626, e21_1626] at q; exact q) (fun j => (((hf1637_ 56 j rfl).trans (hf1626_ 56 j rfl))).trans (hs56 j))
      ·
        have hf1641_ : jfr jW_X6_read_r2 a0 (jxu a 55 2 0) := jfr_put hf rfl
        have hf1642_ : jfr jW_X6_read_r2 a0 a1626_ := jfr_tr hf1641_ hf1626_ rfl
        exact cp_X6_read_r2_49 E d hd a0 b0 hv0 0 a1626_ hv1626_ hf1642_ (show (a0 2 1 = 0 → (0 = 0 ∧ a1626_ 2 3 = 0)) from by omega) ⟨fun _ => ⟨Or.inl ⟨by omega, rfl⟩, by decide, fun w hw => by rw [h57_1626, hdr w (by omega)]; rfl⟩, fun h => absurd (by omega) h⟩ (fun j => ((hf1626_ 56 j rfl)).trans (hs56 j))
  exact hc2
theorem sp_X6_read_r2 (E : jxE) (d : Nat) (hd : Nat.ble 9 d = true) (a0 b0 : Nat → Nat → Int) (hv0 : iv a0) : jt (jxC E d 103 [.inr (.inr (.inl 55)), .inr (.inr (.inl 2))] (jxSH, a0, b0)) (jQ_X6_read_r2 a0 b0) := by
  obtain ⟨d, rfl⟩ := jd_succ hd
  refine jt_eq (bq_X6_read_r2 E d a0 b0) ?_
  exact (cp_X6_read_r2_2 E d hd a0 b0 hv0 _) 0 a0 (Nat.le_refl _) hv0 (jfr_rf _ _) (show 0 ≤ 0 from by omega) (show 0 ≤ 5 from by omega) (by first | exact (fun w h => absurd h (by omega)) | (intro w hw; show (if w = y2.toNat then _ else a 57 w) = RDF w; by_cases e : w = y2.toNat <;> first | (rw [if_pos e, RDF_g (by omega) (by omega), e, Int.toNat_of_nonneg (by omega)]) | (rw [if_neg e]; exact hdr (w) (by omega)))) (fun j => rfl)
def jW_X11_rules : List (Nat × Nat) := [(2, 1), (2, 2), (2, 3), (55, 2), (56, 9999), (57, 9999)]
abbrev jQ_X11_rules (a0 b0 : Nat → Nat → Int) : List jxV → (Nat → Nat → Int) → (Nat → Nat → Int) → Prop := rI (fun r a b => (iv a) ∧ (jfr jW_X11_rules a0 a) ∧ (b0 = b) ∧ ((a0 2 1 = 0 → r = 0)) ∧ ((a0 2 1 ≤ 100 → a 2 1 = 0)) ∧ ((100 < a0 2 1 → a 2 1 = a0 2 1)) ∧ (a0 2 1 ≤ 100 → RRS (a0 3) (a0 2 1).toNat r) ∧ (0 ≤ r → ∀ w : Nat, w < 5 → a 56 w = DRF (a0 3) (a0 2 1).toNat r.toNat w) ∧ (r < 0 → ∀ j, a 56 j = a0 56 j) ∧ ((100 < a0 2 1 → r = 0 - 1)))
theorem cp_X11_rules_34 (E : jxE) (d : Nat) (hd : Nat.ble 10 (d + 1) = true) (a0 b0 : Nat → Nat → Int) (hv0 : iv a0) : ∀ (y1 : Int) (a : Nat → Nat → Int), iv a → jfr jW_X11_rules a0 a → (a0 2 1 = 0 → y1 = 0) → a 2 1 = 0 → a0 2 1 ≤ 100 → (RRS (a0 3) (a0 2 1).toNat y1 ∧ (0 ≤ y1 → ∀ w : Nat, w < 5 → a 56 w = DRF (a0 3) (a0 2 1).toNat y1.toNat w) ∧ (y1 < 0 → ∀ j, a 56 j = a0 56 j)) → jt (jxX E d 164 34 [none, some (.inl y1)] [] (jxSH, a, b0)) (jQ_X11_rules a0 b0) := by
  intro y1 a hv hf hi0 hi1 hi2 hru
  refine jt_eq (bq_X11_rules_34 E d y1 a b0) ?_
  have h1643_ := iv_get hv0 (k := 2) (j := 1) (l := 0) (u := 200) rfl
  have h1644_ := iv_get hv (k := 2) (j := 1) (l := 0) (u := 200) rfl
  exact jt_rI ⟨hv, hf, rfl, (show (a0 2 1 = 0 → y1 = 0) from by omega), (show (a0 2 1 ≤ 100 → a 2 1 = 0) from by omega), (show (100 < a0 2 1 → a 2 1 = a0 2 1) from by omega), (fun _ => hru.1), hru.2.1, hru.2.2, (show (100 < a0 2 1 → y1 = 0 - 1) from by omega)⟩
theorem sp_X11_rules (E : jxE) (d : Nat) (hd : Nat.ble 10 d = true) (a0 b0 : Nat → Nat → Int) (hv0 : iv a0) : jt (jxC E d 164 [.inr (.inr (.inl 0))] (jxSH, a0, b0)) (jQ_X11_rules a0 b0) := by
  obtain ⟨d, rfl⟩ := jd_succ hd
  refine jt_eq (bq_X11_rules E d a0 b0) ?_
  refine jt_eI (eq_X8_length E d (jd_le hd rfl) a0 b0) ?_
  have h1645_ := f_X8_length_eq a0 b0
  have h1646_ := iv_get hv0 (k := 2) (j := 1) (l := 0) (u := 200) rfl
  refine jt_ite (fun c1647_ => ?_) (fun c1647_ => ?_)
  ·
    exact jt_rI ⟨hv0, (jfr_rf _ _), rfl, (show (a0 2 1 = 0 → (-1) = 0) from by omega), (show (a0 2 1 ≤ 100 → a0 2 1 = 0) from by omega), (show (100 < a0 2 1 → a0 2 1 = a0 2 1) from by omega), (fun h => absurd h (by omega)), (fun h => absurd h (by decide)), (fun _ _ => rfl), (show (100 < a0 2 1 → (-1) = 0 - 1) from by omega)⟩
  ·
    refine jt_bI (sp_X6_read_r2 E d (jd_le hd rfl) a0 b0 hv0) (fun r1648_ a1648_ b1648_ h1648_ => ?_)
    obtain ⟨hv1648_, hf1648_, rfl, hq1648_0, hq1648_1, hq1648_2, hq1648_3⟩ := h1648_
    refine jt_bV (sp_X8_cut E d (jd_le hd rfl) 0 a1648_ b0 hv1648_) (fun a1649_ b1649_ h1649_ => ?_)
    obtain ⟨hv1649_, hf1649_, rfl, hq1649_0⟩ := h1649_
    have h1650_ := iv_get hv1648_ (k := 2) (j := 1) (l := 0) (u := 200) rfl
    have h1651_ : a1648_ 2 1 = a0 2 1 := hf1648_ 2 1 rfl
    have h1652_ := iv_get hv1649_ (k := 2) (j := 1) (l := 0) (u := 200) rfl
    have hf1653_ : jfr jW_X11_rules a0 a1648_ := jfr_tr (jfr_rf _ _) hf1648_ rfl
    have hf1654_ : jfr jW_X11_rules a0 a1649_ := jfr_tr hf1653_ hf1649_ rfl
    exact cp_X11_rules_34 E d hd a0 b0 hv0 r1648_ a1649_ hv1649_ hf1654_ (show (a0 2 1 = 0 → r1648_ = 0) from by omega) (show a1649_ 2 1 = 0 from by omega) (show a0 2 1 ≤ 100 from by omega) ⟨hq1648_1, fun q w hw => (hf1649_ 56 w rfl).trans (hq1648_2 q w hw), fun q j => (hf1649_ 56 j rfl).trans (hq1648_3 q j)⟩
def jW_X11_span : List (Nat × Nat) := [(58, 13), (58, 14), (58, 15)]
abbrev jQ_X11_span (x1 x2 x3 : Int) (a0 b0 : Nat → Nat → Int) : List jxV → (Nat → Nat → Int) → (Nat → Nat → Int) → Prop := rI (fun r a b => (iv a) ∧ (jfr jW_X11_span a0 a) ∧ (b0 = b) ∧ ((a0 58 12 = 0 → ((((((0 ≤ x1 ∧ x1 ≤ 15) ∧ 0 ≤ x2) ∧ x2 ≤ 15) ∧ x3 = 2) ∧ r = 0) ∨ (((((x1 < 0 ∨ 15 < x1) ∨ x2 < 0) ∨ 15 < x2) ∨ ¬ x3 = 2) ∧ r = 0 - 1)))) ∧ (0 ≤ x1 ∧ x1 ≤ 15 ∧ 0 ≤ x2 ∧ x2 ≤ 15 ∧ 0 ≤ x3 ∧ x3 ≤ 2 → r = if x3 = 2 then (SPC a0 b0 x1 x2).1 else if x3 = 0 then (SPC a0 b0 x1 x2).2.1 else (SPC a0 b0 x1 x2).2.2) ∧ (¬ (0 ≤ x1 ∧ x1 ≤ 15 ∧ 0 ≤ x2 ∧ x2 ≤ 15 ∧ 0 ≤ x3 ∧ x3 ≤ 2) → r = -1) ∧ (cvC a = cvC a0))
theorem cp_X11_span_34 (E : jxE) (d : Nat) (hd : Nat.ble 4 (d + 1) = true) (x1 x2 x3 : Int) (a0 b0 : Nat → Nat → Int) (hv0 : iv a0) : ∀ (y3 : Int) (a : Nat → Nat → Int), iv a → jfr jW_X11_span a0 a → 0 ≤ y3 → y3 ≤ 2 → (((0 ≤ x1 ∧ x1 ≤ 15) ∧ 0 ≤ x2) ∧ x2 ≤ 15) → y3 = x3 → (a0 58 12 = 0 → ((a 58 13 = 0 ∧ a 58 14 = 0 - 1) ∧ a 58 15 = 0 - 1)) → (y3 = x3) → (((((0 ≤ x1 ∧ x1 ≤ 15) ∧ 0 ≤ x2) ∧ x2 ≤ 15) ∧ 0 ≤ x3) ∧ x3 ≤ 2) → ((a 58 13, a 58 14, a 58 15) = SPC a0 b0 x1 x2) → jt (jxX E d 183 34 [some (.inr (.inr (.inl 0))), none, none, some (.inl y3)] [] (jxSH, a, b0)) (jQ_X11_span x1 x2 x3 a0 b0) := by
  intro y3 a hv hf hi0 hi1 hi2 hi3 hi4 hy3 hi6 hsp
  refine jt_eq (bq_X11_span_34 E d y3 a b0) ?_
  have h1655_ := iv_get hv0 (k := 58) (j := 12) (l := 0) (u := 600) rfl
  have h1656_ := iv_get hv (k := 58) (j := 13) (l := 0) (u := 10) rfl
  refine jt_ite (fun c1657_ => ?_) (fun c1657_ => ?_)
  ·
    refine jt_eI (eq_X0_measuredArrivals E d (jd_le hd rfl) a b0) ?_
    have h1658_ := f_X0_measuredArrivals_eq a b0
    exact jt_rI ⟨hv, hf, rfl, (show (a0 58 12 = 0 → ((((((0 ≤ x1 ∧ x1 ≤ 15) ∧ 0 ≤ x2) ∧ x2 ≤ 15) ∧ x3 = 2) ∧ f_X0_measuredArrivals a b0 = 0) ∨ (((((x1 < 0 ∨ 15 < x1) ∨ x2 < 0) ∨ 15 < x2) ∨ ¬ x3 = 2) ∧ f_X0_measuredArrivals a b0 = 0 - 1))) from by omega), (fun _ => by rw [← hsp, ← hy3]; first | (rw [if_pos (by assumption)]; rfl) | (rw [if_neg (by assumption), if_pos (by assumption)]; rfl) | (rw [if_neg (by assumption), if_neg (by assumption)]; rfl)), (fun h => absurd (by omega) h), (cvC_fr (by first | exact jfr_rf jW_X11_span _ | assumption) rfl)⟩
  ·
    refine jt_ite (fun c1659_ => ?_) (fun c1659_ => ?_)
    ·
      refine jt_eI (eq_X0_measuredLeast E d (jd_le hd rfl) a b0) ?_
      have h1660_ := f_X0_measuredLeast_eq a b0
      exact jt_rI ⟨hv, hf, rfl, (show (a0 58 12 = 0 → ((((((0 ≤ x1 ∧ x1 ≤ 15) ∧ 0 ≤ x2) ∧ x2 ≤ 15) ∧ x3 = 2) ∧ f_X0_measuredLeast a b0 = 0) ∨ (((((x1 < 0 ∨ 15 < x1) ∨ x2 < 0) ∨ 15 < x2) ∨ ¬ x3 = 2) ∧ f_X0_measuredLeast a b0 = 0 - 1))) from by omega), (fun _ => by rw [← hsp, ← hy3]; first | (rw [if_pos (by assumption)]; rfl) | (rw [if_neg (by assumption), if_pos (by assumption)]; rfl) | (rw [if_neg (by assumption), if_neg (by assumption)]; rfl)), (fun h => absurd (by omega) h), (cvC_fr (by first | exact jfr_rf jW_X11_span _ | assumption) rfl)⟩
    ·
      refine jt_eI (eq_X0_measuredGreatest E d (jd_le hd rfl) a b0) ?_
      have h1661_ := f_X0_measuredGreatest_eq a b0
      exact jt_rI ⟨hv, hf, rfl, (show (a0 58 12 = 0 → ((((((0 ≤ x1 ∧ x1 ≤ 15) ∧ 0 ≤ x2) ∧ x2 ≤ 15) ∧ x3 = 2) ∧ f_X0_measuredGreatest a b0 = 0) ∨ (((((x1 < 0 ∨ 15 < x1) ∨ x2 < 0) ∨ 15 < x2) ∨ ¬ x3 = 2) ∧ f_X0_measuredGreatest a b0 = 0 - 1))) from by omega), (fun _ => by rw [← hsp, ← hy3]; first | (rw [if_pos (by assumption)]; rfl) | (rw [if_neg (by assumption), if_pos (by assumption)]; rfl) | (rw [if_neg (by assumption), if_neg (by assumption)]; rfl)), (fun h => absurd (by omega) h), (cvC_fr (by first | exact jfr_rf jW_X11_span _ | assumption) rfl)⟩
theorem sp_X11_span (E : jxE) (d : Nat) (hd : Nat.ble 4 d = true) (x1 x2 x3 : Int) (a0 b0 : Nat → Nat → Int) (hv0 : iv a0) : jt (jxC E d 183 [.inr (.inr (.inl 0)), .inl x1, .inl x2, .inl x3] (jxSH, a0, b0)) (jQ_X11_span x1 x2 x3 a0 b0) := by
  obtain ⟨d, rfl⟩ := jd_succ hd
  refine jt_eq (bq_X11_span E d x1 x2 x3 a0 b0) ?_
  refine jt_eI (eq_X11_isLand E d (jd_le hd rfl) x1 a0 b0) ?_
  have h1662_ := f_X11_isLand_eq a0 b0 x1
  have h1663_ := f_X11_within_eq a0 b0 x1 0 15
  refine jt_ite (fun c1664_ => ?_) (fun c1664_ => ?_)
  ·
    have h1665_ := iv_get hv0 (k := 58) (j := 12) (l := 0) (u := 600) rfl
    exact jt_rI ⟨hv0, (jfr_rf _ _), rfl, (show (a0 58 12 = 0 → ((((((0 ≤ x1 ∧ x1 ≤ 15) ∧ 0 ≤ x2) ∧ x2 ≤ 15) ∧ x3 = 2) ∧ (-1) = 0) ∨ (((((x1 < 0 ∨ 15 < x1) ∨ x2 < 0) ∨ 15 < x2) ∨ ¬ x3 = 2) ∧ (-1) = 0 - 1))) from by omega), (fun h => absurd h (by omega)), (fun _ => rfl), (cvC_fr (by first | exact jfr_rf jW_X11_span _ | assumption) rfl)⟩
  ·
    refine jt_eI (eq_X11_isLand E d (jd_le hd rfl) x2 a0 b0) ?_
    have h1666_ := f_X11_isLand_eq a0 b0 x2
    have h1667_ := f_X11_within_eq a0 b0 x2 0 15
    refine jt_ite (fun c1668_ => ?_) (fun c1668_ => ?_)
    ·
      have h1669_ := iv_get hv0 (k := 58) (j := 12) (l := 0) (u := 600) rfl
      exact jt_rI ⟨hv0, (jfr_rf _ _), rfl, (show (a0 58 12 = 0 → ((((((0 ≤ x1 ∧ x1 ≤ 15) ∧ 0 ≤ x2) ∧ x2 ≤ 15) ∧ x3 = 2) ∧ (-1) = 0) ∨ (((((x1 < 0 ∨ 15 < x1) ∨ x2 < 0) ∨ 15 < x2) ∨ ¬ x3 = 2) ∧ (-1) = 0 - 1))) from by omega), (fun h => absurd h (by omega)), (fun _ => rfl), (cvC_fr (by first | exact jfr_rf jW_X11_span _ | assumption) rfl)⟩
    ·
      refine jt_eI (eq_X11_within E d (jd_le hd rfl) x3 0 2 a0 b0) ?_
      have h1670_ := f_X11_within_eq a0 b0 x3 0 2
      refine jt_ite (fun c1671_ => ?_) (fun c1671_ => ?_)
      ·
        have h1672_ := iv_get hv0 (k := 58) (j := 12) (l := 0) (u := 600) rfl
        exact jt_rI ⟨hv0, (jfr_rf _ _), rfl, (show (a0 58 12 = 0 → ((((((0 ≤ x1 ∧ x1 ≤ 15) ∧ 0 ≤ x2) ∧ x2 ≤ 15) ∧ x3 = 2) ∧ (-1) = 0) ∨ (((((x1 < 0 ∨ 15 < x1) ∨ x2 < 0) ∨ 15 < x2) ∨ ¬ x3 = 2) ∧ (-1) = 0 - 1))) from by omega), (fun h => absurd h (by omega)), (fun _ => rfl), (cvC_fr (by first | exact jfr_rf jW_X11_span _ | assumption) rfl)⟩
      ·
        refine jt_bV (sp_X0_measure E d (jd_le hd rfl) x1 x2 a0 b0 hv0) (fun a1673_ b1673_ h1673_ => ?_)
        obtain ⟨hv1673_, hf1673_, rfl, hq1673_0, hq1673_1⟩ := h1673_
        have h1674_ := iv_get hv0 (k := 58) (j := 12) (l := 0) (u := 600) rfl
        have h1675_ := iv_get hv1673_ (k := 58) (j := 13) (l := 0) (u := 10) rfl
        have hf1676_ : jfr jW_X11_span a0 a1673_ := jfr_tr (jfr_rf _ _) hf1673_ rfl
        exact cp_X11_span_34 E d hd x1 x2 x3 a0 b0 hv0 x3 a1673_ hv1673_ hf1676_ (show 0 ≤ x3 from by omega) (show x3 ≤ 2 from by omega) (show (((0 ≤ x1 ∧ x1 ≤ 15) ∧ 0 ≤ x2) ∧ x2 ≤ 15) from by omega) (show x3 = x3 from by omega) (show (a0 58 12 = 0 → ((a1673_ 58 13 = 0 ∧ a1673_ 58 14 = 0 - 1) ∧ a1673_ 58 15 = 0 - 1)) from by omega) (by first | rfl | assumption) (show (((((0 ≤ x1 ∧ x1 ≤ 15) ∧ 0 ≤ x2) ∧ x2 ≤ 15) ∧ 0 ≤ x3) ∧ x3 ≤ 2) from by omega) hq1673_1
def jW_X1_put : List (Nat × Nat) := [(142, 9999), (143, 9999)]
abbrev jQ_X1_put (x1 x2 x3 : Int) (a0 b0 : Nat → Nat → Int) : List jxV → (Nat → Nat → Int) → (Nat → Nat → Int) → Prop := rI (fun r a b => (iv a) ∧ (jfr jW_X1_put a0 a) ∧ (b0 = b) ∧ ((0 ≤ r ∧ r ≤ 1)) ∧ ((((((((r = 1 ∧ 0 ≤ x1) ∧ x1 ≤ 7) ∧ 1 ≤ x2) ∧ x2 ≤ 500) ∧ 0 ≤ x3) ∧ x3 ≤ 50) ∨ (r = 0 ∧ (((((x1 < 0 ∨ 7 < x1) ∨ x2 < 1) ∨ 500 < x2) ∨ x3 < 0) ∨ 50 < x3)))))
theorem cp_X1_put_36 (E : jxE) (d : Nat) (hd : Nat.ble 2 (d + 1) = true) (x1 x2 x3 : Int) (a0 b0 : Nat → Nat → Int) (hv0 : iv a0) : ∀ (y1 y2 y3 s0 : Int) (a : Nat → Nat → Int), iv a → jfr jW_X1_put a0 a → 0 ≤ s0 → s0 ≤ 1 → y1 = x1 → y2 = x2 → y3 = x3 → (((((((s0 = 1 ∧ 0 ≤ x1) ∧ x1 ≤ 7) ∧ 1 ≤ x2) ∧ x2 ≤ 500) ∧ 0 ≤ x3) ∧ x3 ≤ 50) ∨ (s0 = 0 ∧ (((((x1 < 0 ∨ 7 < x1) ∨ x2 < 1) ∨ 500 < x2) ∨ x3 < 0) ∨ 50 < x3))) → (s0 = 1 → (((((0 ≤ y1 ∧ y1 ≤ 7) ∧ 1 ≤ y2) ∧ y2 ≤ 500) ∧ 0 ≤ y3) ∧ y3 ≤ 50)) → jt (jxX E d 29 36 [some (.inr (.inr (.inl 141))), some (.inl y1), some (.inl y2), some (.inl y3), none] [.inl s0] (jxSH, a, b0)) (jQ_X1_put x1 x2 x3 a0 b0) := by
  intro y1 y2 y3 s0 a hv hf hi0 hi1 hi2 hi3 hi4 hi5 hi6
  refine jt_eq (bq_X1_put_36 E d y1 y2 y3 s0 a b0) ?_
  refine jt_ite (fun c1677_ => ?_) (fun c1677_ => ?_)
  ·
    refine jt_grd (by omega) ?_
    exact jt_rI ⟨hv, hf, rfl, (show (0 ≤ s0 ∧ s0 ≤ 1) from by omega), (show (((((((s0 = 1 ∧ 0 ≤ x1) ∧ x1 ≤ 7) ∧ 1 ≤ x2) ∧ x2 ≤ 500) ∧ 0 ≤ x3) ∧ x3 ≤ 50) ∨ (s0 = 0 ∧ (((((x1 < 0 ∨ 7 < x1) ∨ x2 < 1) ∨ 500 < x2) ∨ x3 < 0) ∨ 50 < x3))) from by omega)⟩
  ·
    refine jt_grd (by omega) ?_
    refine jt_grd (by omega) ?_
    refine jt_grd (by omega) ?_
    have hv1678_ : iv (jxu a 142 (y1.toNat) y2) := iv_putf hv rfl
    have hv1679_ : iv (jxu (jxu a 142 (y1.toNat) y2) 143 (y1.toNat) y3) := iv_putf hv1678_ rfl
    have hf1680_ : jfr jW_X1_put a0 (jxu a 142 (y1.toNat) y2) := jfr_put hf rfl
    have hf1681_ : jfr jW_X1_put a0 (jxu (jxu a 142 (y1.toNat) y2) 143 (y1.toNat) y3) := jfr_put hf1680_ rfl
    exact jt_rI ⟨hv1679_, hf1681_, rfl, (show (0 ≤ s0 ∧ s0 ≤ 1) from by omega), (show (((((((s0 = 1 ∧ 0 ≤ x1) ∧ x1 ≤ 7) ∧ 1 ≤ x2) ∧ x2 ≤ 500) ∧ 0 ≤ x3) ∧ x3 ≤ 50) ∨ (s0 = 0 ∧ (((((x1 < 0 ∨ 7 < x1) ∨ x2 < 1) ∨ 500 < x2) ∨ x3 < 0) ∨ 50 < x3))) from by omega)⟩
theorem cp_X1_put_31 (E : jxE) (d : Nat) (hd : Nat.ble 2 (d + 1) = true) (x1 x2 x3 : Int) (a0 b0 : Nat → Nat → Int) (hv0 : iv a0) : ∀ (y1 y2 y3 : Int) (a : Nat → Nat → Int), iv a → jfr jW_X1_put a0 a → 0 ≤ y1 → y1 ≤ 7 → 1 ≤ y2 → y2 ≤ 500 → 0 ≤ y3 → y3 ≤ 50 → y1 = x1 → y2 = x2 → y3 = x3 → (((((0 ≤ x1 ∧ x1 ≤ 7) ∧ 1 ≤ x2) ∧ x2 ≤ 500) ∧ 0 ≤ x3) ∧ x3 ≤ 50) → jt (jxX E d 29 31 [some (.inr (.inr (.inl 141))), some (.inl y1), some (.inl y2), some (.inl y3), none] [] (jxSH, a, b0)) (jQ_X1_put x1 x2 x3 a0 b0) := by
  intro y1 y2 y3 a hv hf hi0 hi1 hi2 hi3 hi4 hi5 hi6 hi7 hi8 hi9
  refine jt_eq (bq_X1_put_31 E d y1 y2 y3 a b0) ?_
  exact cp_X1_put_36 E d hd x1 x2 x3 a0 b0 hv0 y1 y2 y3 1 a hv hf (show 0 ≤ 1 from by omega) (show 1 ≤ 1 from by omega) (show y1 = x1 from by omega) (show y2 = x2 from by omega) (show y3 = x3 from by omega) (show (((((((1 = 1 ∧ 0 ≤ x1) ∧ x1 ≤ 7) ∧ 1 ≤ x2) ∧ x2 ≤ 500) ∧ 0 ≤ x3) ∧ x3 ≤ 50) ∨ (1 = 0 ∧ (((((x1 < 0 ∨ 7 < x1) ∨ x2 < 1) ∨ 500 < x2) ∨ x3 < 0) ∨ 50 < x3))) from by omega) (show (1 = 1 → (((((0 ≤ y1 ∧ y1 ≤ 7) ∧ 1 ≤ y2) ∧ y2 ≤ 500) ∧ 0 ≤ y3) ∧ y3 ≤ 50)) from by omega)
theorem cp_X1_put_35 (E : jxE) (d : Nat) (hd : Nat.ble 2 (d + 1) = true) (x1 x2 x3 : Int) (a0 b0 : Nat → Nat → Int) (hv0 : iv a0) : ∀ (y1 y2 y3 : Int) (a : Nat → Nat → Int), iv a → jfr jW_X1_put a0 a → y1 = x1 → y2 = x2 → y3 = x3 → (((((x1 < 0 ∨ 7 < x1) ∨ x2 < 1) ∨ 500 < x2) ∨ x3 < 0) ∨ 50 < x3) → jt (jxX E d 29 35 [some (.inr (.inr (.inl 141))), some (.inl y1), some (.inl y2), some (.inl y3), none] [] (jxSH, a, b0)) (jQ_X1_put x1 x2 x3 a0 b0) := by
  intro y1 y2 y3 a hv hf hi0 hi1 hi2 hi3
  refine jt_eq (bq_X1_put_35 E d y1 y2 y3 a b0) ?_
  exact cp_X1_put_36 E d hd x1 x2 x3 a0 b0 hv0 y1 y2 y3 0 a hv hf (show 0 ≤ 0 from by omega) (show 0 ≤ 1 from by omega) (show y1 = x1 from by omega) (show y2 = x2 from by omega) (show y3 = x3 from by omega) (show (((((((0 = 1 ∧ 0 ≤ x1) ∧ x1 ≤ 7) ∧ 1 ≤ x2) ∧ x2 ≤ 500) ∧ 0 ≤ x3) ∧ x3 ≤ 50) ∨ (0 = 0 ∧ (((((x1 < 0 ∨ 7 < x1) ∨ x2 < 1) ∨ 500 < x2) ∨ x3 < 0) ∨ 50 < x3))) from by omega) (show (0 = 1 → (((((0 ≤ y1 ∧ y1 ≤ 7) ∧ 1 ≤ y2) ∧ y2 ≤ 500) ∧ 0 ≤ y3) ∧ y3 ≤ 50)) from by omega)
theorem sp_X1_put (E : jxE) (d : Nat) (hd : Nat.ble 2 d = true) (x1 x2 x3 : Int) (a0 b0 : Nat → Nat → Int) (hv0 : iv a0) : jt (jxC E d 29 [.inr (.inr (.inl 141)), .inl x1, .inl x2, .inl x3] (jxSH, a0, b0)) (jQ_X1_put x1 x2 x3 a0 b0) := by
  obtain ⟨d, rfl⟩ := jd_succ hd
  refine jt_eq (bq_X1_put E d x1 x2 x3 a0 b0) ?_
  refine jt_eI (eq_X11_within E d (jd_le hd rfl) x1 0 7 a0 b0) ?_
  have h1682_ := f_X11_within_eq a0 b0 x1 0 7
  refine jt_ite (fun c1683_ => ?_) (fun c1683_ => ?_)
  ·
    exact cp_X1_put_35 E d hd x1 x2 x3 a0 b0 hv0 x1 x2 x3 a0 hv0 (jfr_rf _ _) (show x1 = x1 from by omega) (show x2 = x2 from by omega) (show x3 = x3 from by omega) (show (((((x1 < 0 ∨ 7 < x1) ∨ x2 < 1) ∨ 500 < x2) ∨ x3 < 0) ∨ 50 < x3) from by omega)
  ·
    refine jt_eI (eq_X11_within E d (jd_le hd rfl) x2 1 500 a0 b0) ?_
    have h1684_ := f_X11_within_eq a0 b0 x2 1 500
    refine jt_ite (fun c1685_ => ?_) (fun c1685_ => ?_)
    ·
      exact cp_X1_put_35 E d hd x1 x2 x3 a0 b0 hv0 x1 x2 x3 a0 hv0 (jfr_rf _ _) (show x1 = x1 from by omega) (show x2 = x2 from by omega) (show x3 = x3 from by omega) (show (((((x1 < 0 ∨ 7 < x1) ∨ x2 < 1) ∨ 500 < x2) ∨ x3 < 0) ∨ 50 < x3) from by omega)
    ·
      refine jt_eI (eq_X11_within E d (jd_le hd rfl) x3 0 50 a0 b0) ?_
      have h1686_ := f_X11_within_eq a0 b0 x3 0 50
      refine jt_ite (fun c1687_ => ?_) (fun c1687_ => ?_)
      ·
        exact cp_X1_put_35 E d hd x1 x2 x3 a0 b0 hv0 x1 x2 x3 a0 hv0 (jfr_rf _ _) (show x1 = x1 from by omega) (show x2 = x2 from by omega) (show x3 = x3 from by omega) (show (((((x1 < 0 ∨ 7 < x1) ∨ x2 < 1) ∨ 500 < x2) ∨ x3 < 0) ∨ 50 < x3) from by omega)
      ·
        exact cp_X1_put_31 E d hd x1 x2 x3 a0 b0 hv0 x1 x2 x3 a0 hv0 (jfr_rf _ _) (show 0 ≤ x1 from by omega) (show x1 ≤ 7 from by omega) (show 1 ≤ x2 from by omega) (show x2 ≤ 500 from by omega) (show 0 ≤ x3 from by omega) (show x3 ≤ 50 from by omega) (show x1 = x1 from by omega) (show x2 = x2 from by omega) (show x3 = x3 from by omega) (show (((((0 ≤ x1 ∧ x1 ≤ 7) ∧ 1 ≤ x2) ∧ x2 ≤ 500) ∧ 0 ≤ x3) ∧ x3 ≤ 50) from by omega)
def jW_X11_stamps : List (Nat × Nat) := [(142, 9999), (143, 9999)]
abbrev jQ_X11_stamps (x1 x2 x3 : Int) (a0 b0 : Nat → Nat → Int) : List jxV → (Nat → Nat → Int) → (Nat → Nat → Int) → Prop := rI (fun r a b => (iv a) ∧ (jfr jW_X11_stamps a0 a) ∧ (b0 = b) ∧ ((0 ≤ r ∧ r ≤ 1)) ∧ ((((((((r = 1 ∧ 0 ≤ x1) ∧ x1 ≤ 7) ∧ 1 ≤ x2) ∧ x2 ≤ 500) ∧ 0 ≤ x3) ∧ x3 ≤ 50) ∨ (r = 0 ∧ (((((x1 < 0 ∨ 7 < x1) ∨ x2 < 1) ∨ 500 < x2) ∨ x3 < 0) ∨ 50 < x3)))))
theorem sp_X11_stamps (E : jxE) (d : Nat) (hd : Nat.ble 3 d = true) (x1 x2 x3 : Int) (a0 b0 : Nat → Nat → Int) (hv0 : iv a0) : jt (jxC E d 193 [.inr (.inr (.inl 0)), .inl x1, .inl x2, .inl x3] (jxSH, a0, b0)) (jQ_X11_stamps x1 x2 x3 a0 b0) := by
  obtain ⟨d, rfl⟩ := jd_succ hd
  refine jt_eq (bq_X11_stamps E d x1 x2 x3 a0 b0) ?_
  refine jt_bI (sp_X1_put E d (jd_le hd rfl) x1 x2 x3 a0 b0 hv0) (fun r1688_ a1688_ b1688_ h1688_ => ?_)
  obtain ⟨hv1688_, hf1688_, rfl, hq1688_0, hq1688_1⟩ := h1688_
  refine jt_grd (by omega) ?_
  have hf1689_ : jfr jW_X11_stamps a0 a1688_ := jfr_tr (jfr_rf _ _) hf1688_ rfl
  exact jt_rI ⟨hv1688_, hf1689_, rfl, (show (0 ≤ r1688_ ∧ r1688_ ≤ 1) from by omega), (show (((((((r1688_ = 1 ∧ 0 ≤ x1) ∧ x1 ≤ 7) ∧ 1 ≤ x2) ∧ x2 ≤ 500) ∧ 0 ≤ x3) ∧ x3 ≤ 50) ∨ (r1688_ = 0 ∧ (((((x1 < 0 ∨ 7 < x1) ∨ x2 < 1) ∨ 500 < x2) ∨ x3 < 0) ∨ 50 < x3))) from by omega)⟩
abbrev jQ_X11_state (x1 x2 x3 : Int) (a0 b0 : Nat → Nat → Int) : List jxV → (Nat → Nat → Int) → (Nat → Nat → Int) → Prop := rI (fun r a b => (a0 = a) ∧ (b0 = b) ∧ ((a0 58 8 = 0 → r = 0 - 1)) ∧ (0 ≤ x1 ∧ x1 < a0 58 8 ∧ 0 ≤ x2 ∧ x2 ≤ 1999 ∧ 0 ≤ x3 ∧ x3 ≤ 1999 → r = f_X0_stateOn a0 b0 x1 x2 x3 (lastd (a0 66) (a0 67) (a0 68) x1 x3 (a0 58 12).toNat)) ∧ (¬ (0 ≤ x1 ∧ x1 < a0 58 8 ∧ 0 ≤ x2 ∧ x2 ≤ 1999 ∧ 0 ≤ x3 ∧ x3 ≤ 1999) → r = -1))
theorem sp_X11_state (E : jxE) (d : Nat) (hd : Nat.ble 4 d = true) (x1 x2 x3 : Int) (a0 b0 : Nat → Nat → Int) (hv0 : iv a0) : jt (jxC E d 180 [.inr (.inr (.inl 0)), .inl x1, .inl x2, .inl x3] (jxSH, a0, b0)) (jQ_X11_state x1 x2 x3 a0 b0) := by
  obtain ⟨d, rfl⟩ := jd_succ hd
  refine jt_eq (bq_X11_state E d x1 x2 x3 a0 b0) ?_
  refine jt_eI (eq_X0_has E d (jd_le hd rfl) x1 a0 b0) ?_
  have h1690_ := f_X0_has_eq a0 b0 x1
  have h1691_ := iv_get hv0 (k := 58) (j := 8) (l := 0) (u := 300) rfl
  refine jt_ite (fun c1692_ => ?_) (fun c1692_ => ?_)
  ·
    exact jt_rI ⟨rfl, rfl, (show (a0 58 8 = 0 → (-1) = 0 - 1) from by omega), (fun h => absurd h (by omega)), (fun _ => rfl)⟩
  ·
    refine jt_eI (eq_X11_isDay E d (jd_le hd rfl) x2 a0 b0) ?_
    have h1693_ := f_X11_isDay_eq a0 b0 x2
    have h1694_ := f_X11_within_eq a0 b0 x2 0 1999
    refine jt_ite (fun c1695_ => ?_) (fun c1695_ => ?_)
    ·
      exact jt_rI ⟨rfl, rfl, (show (a0 58 8 = 0 → (-1) = 0 - 1) from by omega), (fun h => absurd h (by omega)), (fun _ => rfl)⟩
    ·
      refine jt_eI (eq_X11_isDay E d (jd_le hd rfl) x3 a0 b0) ?_
      have h1696_ := f_X11_isDay_eq a0 b0 x3
      have h1697_ := f_X11_within_eq a0 b0 x3 0 1999
      refine jt_ite (fun c1698_ => ?_) (fun c1698_ => ?_)
      ·
        exact jt_rI ⟨rfl, rfl, (show (a0 58 8 = 0 → (-1) = 0 - 1) from by omega), (fun h => absurd h (by omega)), (fun _ => rfl)⟩
      ·
        refine jt_bI (sp_X0_stateAsKnown E d (jd_le hd rfl) x1 x2 x3 a0 b0 hv0) (fun r1699_ a1699_ b1699_ h1699_ => ?_)
        obtain ⟨rfl, rfl, hq1699_0⟩ := h1699_
        exact jt_rI ⟨rfl, rfl, (show (a0 58 8 = 0 → r1699_ = 0 - 1) from by omega), (fun _ => hq1699_0), (fun h => absurd (by omega) h)⟩
