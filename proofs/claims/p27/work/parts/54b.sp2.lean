def jW_X10_takeAtomWord : List (Nat × Nat) := [(2, 2)]
abbrev jQ_X10_takeAtomWord (a0 b0 : Nat → Nat → Int) : List jxV → (Nat → Nat → Int) → (Nat → Nat → Int) → Prop := rI (fun r a b => (iv a) ∧ (jfr jW_X10_takeAtomWord a0 a) ∧ (b0 = b) ∧ (a0 2 3 = 0 → r = AK (a0 3) (a0 2 1).toNat (a0 2 2).toNat) ∧ (a0 2 3 = 0 → 0 ≤ r → a 2 2 = (AQ (a0 3) (a0 2 1).toNat (a0 2 2).toNat : Int)) ∧ (a0 2 3 = 0 → r < 0 → a 2 2 = a0 2 2) ∧ (¬ a0 2 3 = 0 → r = -1))
theorem cp_X10_takeAtomWord_40 (E : jxE) (d : Nat) (hd : Nat.ble 6 (d + 1) = true) (a0 b0 : Nat → Nat → Int) (hv0 : iv a0) : ∀ (a : Nat → Nat → Int), iv a → jfr jW_X10_takeAtomWord a0 a → a0 2 3 = 0 → (TW (a0 3) (a0 2 1).toNat (a0 2 2).toNat 5) → (a 2 2 = (SK (a0 3) (a0 2 1).toNat ((a0 2 2).toNat + wdn 5) : Int)) → jt (jxX E d 147 40 [none] [] (jxSH, a, b0)) (jQ_X10_takeAtomWord a0 b0) := by
  intro a hv hf hi0 htw hat
  refine jt_eq (bq_X10_takeAtomWord_40 E d a b0) ?_
  have h3 : a 3 = a0 3 := funext fun j => hf 3 j rfl
  have h21 := hf 2 1 rfl
  exact jt_rI ⟨hv, hf, rfl, (fun _ => (AK_w (w := 2) (by decide) htw).symm), (fun _ _ => by rw [AQ_w (w := 2) (by decide) htw]; exact hat), (fun _ h => absurd h (by decide)), (fun h => absurd (by omega) h)⟩
theorem cp_X10_takeAtomWord_82 (E : jxE) (d : Nat) (hd : Nat.ble 6 (d + 1) = true) (a0 b0 : Nat → Nat → Int) (hv0 : iv a0) : ∀ (a : Nat → Nat → Int), iv a → jfr jW_X10_takeAtomWord a0 a → a0 2 3 = 0 → (TW (a0 3) (a0 2 1).toNat (a0 2 2).toNat 8) → (a 2 2 = (SK (a0 3) (a0 2 1).toNat ((a0 2 2).toNat + wdn 8) : Int)) → jt (jxX E d 147 82 [none] [] (jxSH, a, b0)) (jQ_X10_takeAtomWord a0 b0) := by
  intro a hv hf hi0 htw hat
  refine jt_eq (bq_X10_takeAtomWord_82 E d a b0) ?_
  have h3 : a 3 = a0 3 := funext fun j => hf 3 j rfl
  have h21 := hf 2 1 rfl
  exact jt_rI ⟨hv, hf, rfl, (fun _ => (AK_w (w := 5) (by decide) htw).symm), (fun _ _ => by rw [AQ_w (w := 5) (by decide) htw]; exact hat), (fun _ h => absurd h (by decide)), (fun h => absurd (by omega) h)⟩
theorem cp_X10_takeAtomWord_84 (E : jxE) (d : Nat) (hd : Nat.ble 6 (d + 1) = true) (a0 b0 : Nat → Nat → Int) (hv0 : iv a0) : ∀ (a : Nat → Nat → Int), iv a → jfr jW_X10_takeAtomWord a0 a → (a0 2 3 = 0 → (¬ TW (a0 3) (a0 2 1).toNat (a0 2 2).toNat 3 ∧ ¬ TW (a0 3) (a0 2 1).toNat (a0 2 2).toNat 4 ∧ ¬ TW (a0 3) (a0 2 1).toNat (a0 2 2).toNat 5) ∧ ¬ TW (a0 3) (a0 2 1).toNat (a0 2 2).toNat 6 ∧ ¬ TW (a0 3) (a0 2 1).toNat (a0 2 2).toNat 7 ∧ ¬ TW (a0 3) (a0 2 1).toNat (a0 2 2).toNat 8) → a 2 2 = a0 2 2 → a 2 3 = a0 2 3 → jt (jxX E d 147 84 [some (.inr (.inr (.inl 11)))] [] (jxSH, a, b0)) (jQ_X10_takeAtomWord a0 b0) := by
  intro a hv hf hn hi1 hi2
  refine jt_eq (bq_X10_takeAtomWord_84 E d a b0) ?_
  have h262_ := iv_get hv (k := 2) (j := 2) (l := 0) (u := 200) rfl
  have h263_ := iv_get hv0 (k := 2) (j := 2) (l := 0) (u := 200) rfl
  have h264_ : a 2 3 = a0 2 3 := hf 2 3 rfl
  have h3 : a 3 = a0 3 := funext fun j => hf 3 j rfl
  have h21 := hf 2 1 rfl
  refine jt_bI (sp_X8_takesWord_r1007 E d (jd_le hd rfl) a b0 hv) (fun r265_ a265_ b265_ h265_ => ?_)
  obtain ⟨hv265_, hf265_, rfl, hq265_0, hq265_1, hq265_2, hq265_3, hq265_4⟩ := h265_
  have h266_ := iv_get hv (k := 2) (j := 1) (l := 0) (u := 200) rfl
  have h267_ : a 2 1 = a0 2 1 := hf 2 1 rfl
  have h268_ := iv_get hv0 (k := 2) (j := 1) (l := 0) (u := 200) rfl
  have h269_ := iv_get hv265_ (k := 2) (j := 2) (l := 0) (u := 200) rfl
  have hz265 := hf265_ 2 3 rfl
  refine jt_ite (fun c270_ => ?_) (fun c270_ => ?_)
  ·
    have hf271_ : jfr jW_X10_takeAtomWord a0 a265_ := jfr_tr hf hf265_ rfl
    exact jt_rI ⟨hv265_, hf271_, rfl, (fun hz0 => by have n9 := (by have q := (hq265_4 (by omega)).resolve_left (fun h => h (by omega)); rw [show a 3 = a0 3 from funext (fun j => hf 3 j rfl), show a 2 1 = a0 2 1 from hf 2 1 rfl, show a 2 2 = a0 2 2 from by omega] at q; exact q); obtain ⟨⟨n3, n4, n5⟩, n6, n7, n8⟩ := hn hz0; refine (AK_no (fun w hw => ?_)).symm; have hc : w = 0 ∨ w = 1 ∨ w = 2 ∨ w = 3 ∨ w = 4 ∨ w = 5 ∨ w = 6 := (by omega); rcases hc with rfl | rfl | rfl | rfl | rfl | rfl | rfl <;> assumption), (fun _ h => absurd h (by decide)), (fun _ _ => by omega), (fun _ => rfl)⟩
  ·
    have hf272_ : jfr jW_X10_takeAtomWord a0 a265_ := jfr_tr hf hf265_ rfl
    exact jt_rI ⟨hv265_, hf272_, rfl, (fun _ => by have q := (hq265_3 (by omega)).2.1; rw [show a 3 = a0 3 from funext (fun j => hf 3 j rfl), show a 2 1 = a0 2 1 from hf 2 1 rfl, show a 2 2 = a0 2 2 from by omega] at q; exact (AK_w (w := 6) (by decide) q).symm), (fun _ _ => by have q := (hq265_3 (by omega)).2.1; have q2 := (hq265_3 (by omega)).2.2; rw [show a 3 = a0 3 from funext (fun j => hf 3 j rfl), show a 2 1 = a0 2 1 from hf 2 1 rfl, show a 2 2 = a0 2 2 from by omega] at q; rw [show a 3 = a0 3 from funext (fun j => hf 3 j rfl), show a 2 1 = a0 2 1 from hf 2 1 rfl, show a 2 2 = a0 2 2 from by omega] at q2; rw [AQ_w (w := 6) (by decide) q]; exact q2), (fun _ h => absurd h (by decide)), (fun h => absurd (by omega) h)⟩
theorem cp_X10_takeAtomWord_42 (E : jxE) (d : Nat) (hd : Nat.ble 6 (d + 1) = true) (a0 b0 : Nat → Nat → Int) (hv0 : iv a0) : ∀ (a : Nat → Nat → Int), iv a → jfr jW_X10_takeAtomWord a0 a → (a0 2 3 = 0 → ¬ TW (a0 3) (a0 2 1).toNat (a0 2 2).toNat 3 ∧ ¬ TW (a0 3) (a0 2 1).toNat (a0 2 2).toNat 4 ∧ ¬ TW (a0 3) (a0 2 1).toNat (a0 2 2).toNat 5) → a 2 2 = a0 2 2 → a 2 3 = a0 2 3 → jt (jxX E d 147 42 [some (.inr (.inr (.inl 11)))] [] (jxSH, a, b0)) (jQ_X10_takeAtomWord a0 b0) := by
  intro a hv hf hn hi1 hi2
  refine jt_eq (bq_X10_takeAtomWord_42 E d a b0) ?_
  have h273_ := iv_get hv (k := 2) (j := 2) (l := 0) (u := 200) rfl
  have h274_ := iv_get hv0 (k := 2) (j := 2) (l := 0) (u := 200) rfl
  have h275_ : a 2 3 = a0 2 3 := hf 2 3 rfl
  have h3 : a 3 = a0 3 := funext fun j => hf 3 j rfl
  have h21 := hf 2 1 rfl
  refine jt_bI (sp_X8_takesWord_r1004 E d (jd_le hd rfl) a b0 hv) (fun r276_ a276_ b276_ h276_ => ?_)
  obtain ⟨hv276_, hf276_, rfl, hq276_0, hq276_1, hq276_2, hq276_3, hq276_4⟩ := h276_
  have h277_ := iv_get hv (k := 2) (j := 1) (l := 0) (u := 200) rfl
  have h278_ : a 2 1 = a0 2 1 := hf 2 1 rfl
  have h279_ := iv_get hv0 (k := 2) (j := 1) (l := 0) (u := 200) rfl
  have h280_ := iv_get hv276_ (k := 2) (j := 2) (l := 0) (u := 200) rfl
  have hz276 := hf276_ 2 3 rfl
  refine jt_ite (fun c281_ => ?_) (fun c281_ => ?_)
  ·
    refine jt_bI (sp_X8_takesWord_r1005 E d (jd_le hd rfl) a276_ b0 hv276_) (fun r282_ a282_ b282_ h282_ => ?_)
    obtain ⟨hv282_, hf282_, rfl, hq282_0, hq282_1, hq282_2, hq282_3, hq282_4⟩ := h282_
    have h283_ : a276_ 2 3 = a 2 3 := hf276_ 2 3 rfl
    have h284_ := iv_get hv276_ (k := 2) (j := 1) (l := 0) (u := 200) rfl
    have h285_ : a276_ 2 1 = a 2 1 := hf276_ 2 1 rfl
    have h286_ := iv_get hv282_ (k := 2) (j := 2) (l := 0) (u := 200) rfl
    have hz282 := hf282_ 2 3 rfl
    refine jt_ite (fun c287_ => ?_) (fun c287_ => ?_)
    ·
      refine jt_bI (sp_X8_takesWord_r1006 E d (jd_le hd rfl) a282_ b0 hv282_) (fun r288_ a288_ b288_ h288_ => ?_)
      obtain ⟨hv288_, hf288_, rfl, hq288_0, hq288_1, hq288_2, hq288_3, hq288_4⟩ := h288_
      have h289_ : a282_ 2 3 = a276_ 2 3 := hf282_ 2 3 rfl
      have h290_ := iv_get hv282_ (k := 2) (j := 1) (l := 0) (u := 200) rfl
      have h291_ : a282_ 2 1 = a276_ 2 1 := hf282_ 2 1 rfl
      have h292_ := iv_get hv288_ (k := 2) (j := 2) (l := 0) (u := 200) rfl
      have hz288 := hf288_ 2 3 rfl
      refine jt_ite (fun c293_ => ?_) (fun c293_ => ?_)
      ·
        have hf294_ : jfr jW_X10_takeAtomWord a0 a276_ := jfr_tr hf hf276_ rfl
        have hf295_ : jfr jW_X10_takeAtomWord a0 a282_ := jfr_tr hf294_ hf282_ rfl
        have hf296_ : jfr jW_X10_takeAtomWord a0 a288_ := jfr_tr hf295_ hf288_ rfl
        have h297_ : a288_ 2 3 = a282_ 2 3 := hf288_ 2 3 rfl
        exact cp_X10_takeAtomWord_84 E d hd a0 b0 hv0 a288_ hv288_ hf296_ (fun hz0 => ⟨hn hz0, (by have q := (hq276_4 (by omega)).resolve_left (fun h => h (by omega)); rw [show a 3 = a0 3 from funext (fun j => hf 3 j rfl), show a 2 1 = a0 2 1 from hf 2 1 rfl, show a 2 2 = a0 2 2 from by omega] at q; exact q), (by have q := (hq282_4 (by omega)).resolve_left (fun h => h (by omega)); rw [show a276_ 3 = a0 3 from funext (fun j => hf294_ 3 j rfl), show a276_ 2 1 = a0 2 1 from hf294_ 2 1 rfl, show a276_ 2 2 = a0 2 2 from by omega] at q; exact q), (by have q := (hq288_4 (by omega)).resolve_left (fun h => h (by omega)); rw [show a282_ 3 = a0 3 from funext (fun j => hf295_ 3 j rfl), show a282_ 2 1 = a0 2 1 from hf295_ 2 1 rfl, show a282_ 2 2 = a0 2 2 from by omega] at q; exact q)⟩) (show a288_ 2 2 = a0 2 2 from by omega) (show a288_ 2 3 = a0 2 3 from by omega)
      ·
        have hf298_ : jfr jW_X10_takeAtomWord a0 a276_ := jfr_tr hf hf276_ rfl
        have hf299_ : jfr jW_X10_takeAtomWord a0 a282_ := jfr_tr hf298_ hf282_ rfl
        have hf300_ : jfr jW_X10_takeAtomWord a0 a288_ := jfr_tr hf299_ hf288_ rfl
        exact cp_X10_takeAtomWord_82 E d hd a0 b0 hv0 a288_ hv288_ hf300_ (show a0 2 3 = 0 from by omega) (by have q := (hq288_3 (by omega)).2.1; rw [show a282_ 3 = a0 3 from funext (fun j => hf299_ 3 j rfl), show a282_ 2 1 = a0 2 1 from hf299_ 2 1 rfl, show a282_ 2 2 = a0 2 2 from by omega] at q; exact q) (by have q := (hq288_3 (by omega)).2.2; rw [show a282_ 3 = a0 3 from funext (fun j => hf299_ 3 j rfl), show a282_ 2 1 = a0 2 1 from hf299_ 2 1 rfl, show a282_ 2 2 = a0 2 2 from by omega] at q; exact q)
    ·
      have hf301_ : jfr jW_X10_takeAtomWord a0 a276_ := jfr_tr hf hf276_ rfl
      have hf302_ : jfr jW_X10_takeAtomWord a0 a282_ := jfr_tr hf301_ hf282_ rfl
      exact jt_rI ⟨hv282_, hf302_, rfl, (fun _ => by have q := (hq282_3 (by omega)).2.1; rw [show a276_ 3 = a0 3 from funext (fun j => hf301_ 3 j rfl), show a276_ 2 1 = a0 2 1 from hf301_ 2 1 rfl, show a276_ 2 2 = a0 2 2 from by omega] at q; exact (AK_w (w := 4) (by decide) q).symm), (fun _ _ => by have q := (hq282_3 (by omega)).2.1; have q2 := (hq282_3 (by omega)).2.2; rw [show a276_ 3 = a0 3 from funext (fun j => hf301_ 3 j rfl), show a276_ 2 1 = a0 2 1 from hf301_ 2 1 rfl, show a276_ 2 2 = a0 2 2 from by omega] at q; rw [show a276_ 3 = a0 3 from funext (fun j => hf301_ 3 j rfl), show a276_ 2 1 = a0 2 1 from hf301_ 2 1 rfl, show a276_ 2 2 = a0 2 2 from by omega] at q2; rw [AQ_w (w := 4) (by decide) q]; exact q2), (fun _ h => absurd h (by decide)), (fun h => absurd (by omega) h)⟩
  ·
    have hf303_ : jfr jW_X10_takeAtomWord a0 a276_ := jfr_tr hf hf276_ rfl
    exact jt_rI ⟨hv276_, hf303_, rfl, (fun _ => by have q := (hq276_3 (by omega)).2.1; rw [show a 3 = a0 3 from funext (fun j => hf 3 j rfl), show a 2 1 = a0 2 1 from hf 2 1 rfl, show a 2 2 = a0 2 2 from by omega] at q; exact (AK_w (w := 3) (by decide) q).symm), (fun _ _ => by have q := (hq276_3 (by omega)).2.1; have q2 := (hq276_3 (by omega)).2.2; rw [show a 3 = a0 3 from funext (fun j => hf 3 j rfl), show a 2 1 = a0 2 1 from hf 2 1 rfl, show a 2 2 = a0 2 2 from by omega] at q; rw [show a 3 = a0 3 from funext (fun j => hf 3 j rfl), show a 2 1 = a0 2 1 from hf 2 1 rfl, show a 2 2 = a0 2 2 from by omega] at q2; rw [AQ_w (w := 3) (by decide) q]; exact q2), (fun _ h => absurd h (by decide)), (fun h => absurd (by omega) h)⟩
theorem sp_X10_takeAtomWord (E : jxE) (d : Nat) (hd : Nat.ble 6 d = true) (a0 b0 : Nat → Nat → Int) (hv0 : iv a0) : jt (jxC E d 147 [.inr (.inr (.inl 11))] (jxSH, a0, b0)) (jQ_X10_takeAtomWord a0 b0) := by
  obtain ⟨d, rfl⟩ := jd_succ hd
  refine jt_eq (bq_X10_takeAtomWord E d a0 b0) ?_
  refine jt_bI (sp_X8_takesWord_r1001 E d (jd_le hd rfl) a0 b0 hv0) (fun r304_ a304_ b304_ h304_ => ?_)
  obtain ⟨hv304_, hf304_, rfl, hq304_0, hq304_1, hq304_2, hq304_3, hq304_4⟩ := h304_
  have h305_ := iv_get hv0 (k := 2) (j := 1) (l := 0) (u := 200) rfl
  have h306_ := iv_get hv0 (k := 2) (j := 2) (l := 0) (u := 200) rfl
  have h307_ := iv_get hv304_ (k := 2) (j := 2) (l := 0) (u := 200) rfl
  have hz304 := hf304_ 2 3 rfl
  refine jt_ite (fun c308_ => ?_) (fun c308_ => ?_)
  ·
    refine jt_bI (sp_X8_takesWord_r1002 E d (jd_le hd rfl) a304_ b0 hv304_) (fun r309_ a309_ b309_ h309_ => ?_)
    obtain ⟨hv309_, hf309_, rfl, hq309_0, hq309_1, hq309_2, hq309_3, hq309_4⟩ := h309_
    have h310_ : a304_ 2 3 = a0 2 3 := hf304_ 2 3 rfl
    have h311_ := iv_get hv304_ (k := 2) (j := 1) (l := 0) (u := 200) rfl
    have h312_ : a304_ 2 1 = a0 2 1 := hf304_ 2 1 rfl
    have h313_ := iv_get hv309_ (k := 2) (j := 2) (l := 0) (u := 200) rfl
    have hz309 := hf309_ 2 3 rfl
    refine jt_ite (fun c314_ => ?_) (fun c314_ => ?_)
    ·
      refine jt_bI (sp_X8_takesWord_r1003 E d (jd_le hd rfl) a309_ b0 hv309_) (fun r315_ a315_ b315_ h315_ => ?_)
      obtain ⟨hv315_, hf315_, rfl, hq315_0, hq315_1, hq315_2, hq315_3, hq315_4⟩ := h315_
      have h316_ : a309_ 2 3 = a304_ 2 3 := hf309_ 2 3 rfl
      have h317_ := iv_get hv309_ (k := 2) (j := 1) (l := 0) (u := 200) rfl
      have h318_ : a309_ 2 1 = a304_ 2 1 := hf309_ 2 1 rfl
      have h319_ := iv_get hv315_ (k := 2) (j := 2) (l := 0) (u := 200) rfl
      have hz315 := hf315_ 2 3 rfl
      refine jt_ite (fun c320_ => ?_) (fun c320_ => ?_)
      ·
        have hf321_ : jfr jW_X10_takeAtomWord a0 a304_ := jfr_tr (jfr_rf _ _) hf304_ rfl
        have hf322_ : jfr jW_X10_takeAtomWord a0 a309_ := jfr_tr hf321_ hf309_ rfl
        have hf323_ : jfr jW_X10_takeAtomWord a0 a315_ := jfr_tr hf322_ hf315_ rfl
        have h324_ : a315_ 2 3 = a309_ 2 3 := hf315_ 2 3 rfl
        exact cp_X10_takeAtomWord_42 E d hd a0 b0 hv0 a315_ hv315_ hf323_ (fun hz0 => ⟨(by have q := (hq304_4 (by omega)).resolve_left (fun h => h (by omega)); exact q), (by have q := (hq309_4 (by omega)).resolve_left (fun h => h (by omega)); rw [show a304_ 3 = a0 3 from funext (fun j => hf321_ 3 j rfl), show a304_ 2 1 = a0 2 1 from hf321_ 2 1 rfl, show a304_ 2 2 = a0 2 2 from by omega] at q; exact q), (by have q := (hq315_4 (by omega)).resolve_left (fun h => h (by omega)); rw [show a309_ 3 = a0 3 from funext (fun j => hf322_ 3 j rfl), show a309_ 2 1 = a0 2 1 from hf322_ 2 1 rfl, show a309_ 2 2 = a0 2 2 from by omega] at q; exact q)⟩) (show a315_ 2 2 = a0 2 2 from by omega) (show a315_ 2 3 = a0 2 3 from by omega)
      ·
        have hf325_ : jfr jW_X10_takeAtomWord a0 a304_ := jfr_tr (jfr_rf _ _) hf304_ rfl
        have hf326_ : jfr jW_X10_takeAtomWord a0 a309_ := jfr_tr hf325_ hf309_ rfl
        have hf327_ : jfr jW_X10_takeAtomWord a0 a315_ := jfr_tr hf326_ hf315_ rfl
        exact cp_X10_takeAtomWord_40 E d hd a0 b0 hv0 a315_ hv315_ hf327_ (show a0 2 3 = 0 from by omega) (by have q := (hq315_3 (by omega)).2.1; rw [show a309_ 3 = a0 3 from funext (fun j => hf326_ 3 j rfl), show a309_ 2 1 = a0 2 1 from hf326_ 2 1 rfl, show a309_ 2 2 = a0 2 2 from by omega] at q; exact q) (by have q := (hq315_3 (by omega)).2.2; rw [show a309_ 3 = a0 3 from funext (fun j => hf326_ 3 j rfl), show a309_ 2 1 = a0 2 1 from hf326_ 2 1 rfl, show a309_ 2 2 = a0 2 2 from by omega] at q; exact q)
    ·
      have hf328_ : jfr jW_X10_takeAtomWord a0 a304_ := jfr_tr (jfr_rf _ _) hf304_ rfl
      have hf329_ : jfr jW_X10_takeAtomWord a0 a309_ := jfr_tr hf328_ hf309_ rfl
      exact jt_rI ⟨hv309_, hf329_, rfl, (fun _ => by have q := (hq309_3 (by omega)).2.1; rw [show a304_ 3 = a0 3 from funext (fun j => hf328_ 3 j rfl), show a304_ 2 1 = a0 2 1 from hf328_ 2 1 rfl, show a304_ 2 2 = a0 2 2 from by omega] at q; exact (AK_w (w := 1) (by decide) q).symm), (fun _ _ => by have q := (hq309_3 (by omega)).2.1; have q2 := (hq309_3 (by omega)).2.2; rw [show a304_ 3 = a0 3 from funext (fun j => hf328_ 3 j rfl), show a304_ 2 1 = a0 2 1 from hf328_ 2 1 rfl, show a304_ 2 2 = a0 2 2 from by omega] at q; rw [show a304_ 3 = a0 3 from funext (fun j => hf328_ 3 j rfl), show a304_ 2 1 = a0 2 1 from hf328_ 2 1 rfl, show a304_ 2 2 = a0 2 2 from by omega] at q2; rw [AQ_w (w := 1) (by decide) q]; exact q2), (fun _ h => absurd h (by decide)), (fun h => absurd (by omega) h)⟩
  ·
    have hf330_ : jfr jW_X10_takeAtomWord a0 a304_ := jfr_tr (jfr_rf _ _) hf304_ rfl
    exact jt_rI ⟨hv304_, hf330_, rfl, (fun _ => by have q := (hq304_3 (by omega)).2.1; exact (AK_w (w := 0) (by decide) q).symm), (fun _ _ => by have q := (hq304_3 (by omega)).2.1; have q2 := (hq304_3 (by omega)).2.2; rw [AQ_w (w := 0) (by decide) q]; exact q2), (fun _ h => absurd h (by decide)), (fun h => absurd (by omega) h)⟩
def jW_X10_readAtom : List (Nat × Nat) := [(2, 2), (2, 3), (11, 6), (11, 7), (54, 9999)]
abbrev jQ_X10_readAtom (x1 : Int) (a0 b0 : Nat → Nat → Int) : List jxV → (Nat → Nat → Int) → (Nat → Nat → Int) → Prop := rV (fun a b => (iv a) ∧ (jfr jW_X10_readAtom a0 a) ∧ (b0 = b) ∧ (PAtom a0 a x1) ∧ (¬ a0 2 3 = 0 → a 2 3 = a0 2 3) ∧ (a0 11 6 ≤ a 11 6))
theorem cp_X10_readAtom_36 (E : jxE) (d : Nat) (hd : Nat.ble 7 (d + 1) = true) (x1 : Int) (a0 b0 : Nat → Nat → Int) (hv0 : iv a0) : ∀ (a : Nat → Nat → Int), iv a → jfr jW_X10_readAtom a0 a → 12 ≤ a 11 7 → (PAtom a0 a x1) → (¬ a0 2 3 = 0 → a 2 3 = a0 2 3) → a0 11 6 ≤ a 11 6 → jt (jxX E d 146 36 [none, none, none, none] [] (jxSH, a, b0)) (jQ_X10_readAtom x1 a0 b0) := by
  intro a hv hf hi0 hpa hfk hi3
  refine jt_eq (bq_X10_readAtom_36 E d a b0) ?_
  have h331_ := iv_get hv (k := 11) (j := 7) (l := 0) (u := 12) rfl
  have h332_ := iv_get hv0 (k := 11) (j := 6) (l := 0) (u := 40) rfl
  have h333_ := iv_get hv (k := 11) (j := 6) (l := 0) (u := 40) rfl
  have h3 : a 3 = a0 3 := funext fun j => hf 3 j rfl
  have h21 := hf 2 1 rfl
  exact jt_rV ⟨hv, hf, rfl, hpa, hfk, (show a0 11 6 ≤ a 11 6 from by omega)⟩
theorem cp_X10_readAtom_75 (E : jxE) (d : Nat) (hd : Nat.ble 7 (d + 1) = true) (x1 : Int) (a0 b0 : Nat → Nat → Int) (hv0 : iv a0) : ∀ (a : Nat → Nat → Int), iv a → jfr jW_X10_readAtom a0 a → 1 ≤ a 11 7 → (PAtom a0 a x1) → (¬ a0 2 3 = 0 → a 2 3 = a0 2 3) → a0 11 6 ≤ a 11 6 → jt (jxX E d 146 75 [none, none, none, none] [] (jxSH, a, b0)) (jQ_X10_readAtom x1 a0 b0) := by
  intro a hv hf hi0 hpa hfk hi3
  refine jt_eq (bq_X10_readAtom_75 E d a b0) ?_
  have h334_ := iv_get hv (k := 11) (j := 7) (l := 0) (u := 12) rfl
  have h335_ := iv_get hv0 (k := 11) (j := 6) (l := 0) (u := 40) rfl
  have h336_ := iv_get hv (k := 11) (j := 6) (l := 0) (u := 40) rfl
  have h3 : a 3 = a0 3 := funext fun j => hf 3 j rfl
  have h21 := hf 2 1 rfl
  exact jt_rV ⟨hv, hf, rfl, hpa, hfk, (show a0 11 6 ≤ a 11 6 from by omega)⟩
theorem cp_X10_readAtom_47 (E : jxE) (d : Nat) (hd : Nat.ble 7 (d + 1) = true) (x1 : Int) (a0 b0 : Nat → Nat → Int) (hv0 : iv a0) : ∀ (y2 : Int) (a : Nat → Nat → Int), iv a → jfr jW_X10_readAtom a0 a → 1 ≤ a 11 7 → a0 2 3 = 0 → a 2 3 = 0 → (y2 = AK (a0 3) (a0 2 1).toNat (a0 2 2).toNat) → 0 ≤ y2 → y2 ≤ 6 → (a 2 2 = (AQ (a0 3) (a0 2 1).toNat (a0 2 2).toNat : Int)) → a 11 6 = a0 11 6 → a 11 7 = (a0 11 7) + 1 → a0 11 7 ≤ 11 → (∀ j, a 54 j = a0 54 j) → jt (jxX E d 146 47 [some (.inr (.inr (.inl 11))), none, some (.inl y2), none] [] (jxSH, a, b0)) (jQ_X10_readAtom x1 a0 b0) := by
  intro y2 a hv hf hi0 hi1 hi2 hy2 hi4 hi5 hat hi7 hi8 hi9 hs54
  refine jt_eq (bq_X10_readAtom_47 E d y2 a b0) ?_
  have h337_ := iv_get hv (k := 11) (j := 7) (l := 0) (u := 12) rfl
  have h338_ := iv_get hv (k := 11) (j := 6) (l := 0) (u := 40) rfl
  have h339_ := iv_get hv0 (k := 11) (j := 6) (l := 0) (u := 40) rfl
  have h340_ := iv_get hv0 (k := 11) (j := 7) (l := 0) (u := 12) rfl
  have h3 : a 3 = a0 3 := funext fun j => hf 3 j rfl
  have h21 := hf 2 1 rfl
  have hgn := gn10 a b0 y2 (by omega) (by omega)
  have hP : (a 2 2).toNat = AQ (a0 3) (a0 2 1).toNat (a0 2 2).toNat := by rw [hat]; exact Int.toNat_natCast _
  have hnb := NV_bd (a0 3) (a0 2 1).toNat (AQ (a0 3) (a0 2 1).toNat (a0 2 2).toNat)
  refine jt_eI (eq_X10_greatestNumber E d (jd_le hd rfl) y2 a b0) ?_
  refine jt_ite (fun c341_ => ?_) (fun c341_ => ?_)
  ·
    refine jt_bV (sp_X10_addStep E d (jd_le hd rfl) y2 0 a b0 hv) (fun a342_ b342_ h342_ => ?_)
    obtain ⟨hv342_, hf342_, rfl, hq342_0, hq342_1, hq342_2⟩ := h342_
    have h343_ := iv_get hv342_ (k := 11) (j := 6) (l := 0) (u := 40) rfl
    have hf344_ : jfr jW_X10_readAtom a0 a342_ := jfr_tr hf hf342_ rfl
    have h345_ := iv_get hv342_ (k := 11) (j := 7) (l := 0) (u := 12) rfl
    have h346_ : a342_ 11 7 = a 11 7 := hf342_ 11 7 rfl
    exact cp_X10_readAtom_75 E d hd x1 a0 b0 hv0 a342_ hv342_ hf344_ (show 1 ≤ a342_ 11 7 from by omega) (PAtom_p (by omega) (by omega) (by rw [← hy2, ← hgn]; assumption) (by omega) (by rw [hf342_ 2 3 rfl]; omega) (fun h => ⟨by omega, by have q := hq342_2 (by omega); rw [show jxw ((jxw (y2 * 1000)) + 0) = y2 * 1000 from by rw [jxw_id (x := y2 * 1000) (by omega) (by omega), jxw_id (by omega) (by omega)]; omega, hy2, show (a 11 6).toNat = (a0 11 6).toNat from by omega] at q; exact UP_cl q hs54⟩) (by rw [hf342_ 2 2 rfl]; exact hat) (by rw [hf342_ 11 7 rfl]; omega)) (fun h => by omega) (show a0 11 6 ≤ a342_ 11 6 from by omega)
  ·
    refine jt_bI (sp_X8_takeNumber E d (jd_le hd rfl) 0 (f_X10_greatestNumber a b0 y2) a b0 hv) (fun r347_ a347_ b347_ h347_ => ?_)
    obtain ⟨hv347_, hf347_, rfl, hq347_0, hq347_1, hq347_2, hq347_3⟩ := h347_
    refine jt_bV (sp_X10_addStep E d (jd_le hd rfl) y2 r347_ a347_ b0 hv347_) (fun a348_ b348_ h348_ => ?_)
    obtain ⟨hv348_, hf348_, rfl, hq348_0, hq348_1, hq348_2⟩ := h348_
    have h349_ := iv_get hv347_ (k := 11) (j := 6) (l := 0) (u := 40) rfl
    have h350_ : a347_ 11 6 = a 11 6 := hf347_ 11 6 rfl
    have h351_ := iv_get hv348_ (k := 11) (j := 6) (l := 0) (u := 40) rfl
    have hf352_ : jfr jW_X10_readAtom a0 a347_ := jfr_tr hf hf347_ rfl
    have hf353_ : jfr jW_X10_readAtom a0 a348_ := jfr_tr hf352_ hf348_ rfl
    have h354_ := iv_get hv348_ (k := 11) (j := 7) (l := 0) (u := 12) rfl
    have h355_ : a348_ 11 7 = a347_ 11 7 := hf348_ 11 7 rfl
    have h356_ := iv_get hv347_ (k := 11) (j := 7) (l := 0) (u := 12) rfl
    have h357_ : a347_ 11 7 = a 11 7 := hf347_ 11 7 rfl
    exact cp_X10_readAtom_75 E d hd x1 a0 b0 hv0 a348_ hv348_ hf353_ (show 1 ≤ a348_ 11 7 from by omega) (PAtom_n (by omega) (by omega) (by rw [← hy2, ← hgn]; assumption) (by omega) (by have e0 := hq347_0; have e1 := hq347_1; have e2 := hq347_2; rw [h3, h21, hP] at e0 e1 e2; rw [if_pos (show a 2 3 = 0 from by omega), hgn, hy2] at e2; rw [hf348_ 2 3 rfl]; exact e2) (fun h => by have e0 := hq347_0; have e1 := hq347_1; have e2 := hq347_2; rw [h3, h21, hP] at e0 e1 e2; rw [if_pos (show a 2 3 = 0 from by omega), hgn, hy2] at e2; have h6 := hf347_ 11 6 rfl; refine ⟨by omega, ?_⟩; have q := hq348_2 (by omega); rw [show jxw ((jxw (y2 * 1000)) + r347_) = y2 * 1000 + r347_ from by rw [jxw_id (x := y2 * 1000) (by omega) (by omega), jxw_id (by omega) (by omega)], hy2, e0, show (a347_ 11 6).toNat = (a0 11 6).toNat from by omega] at q; exact UP_cl q (fun j => (hf347_ 54 j rfl).trans (hs54 j))) (by have e0 := hq347_0; have e1 := hq347_1; have e2 := hq347_2; rw [h3, h21, hP] at e0 e1 e2; rw [if_pos (show a 2 3 = 0 from by omega), hgn, hy2] at e2; rw [hf348_ 2 2 rfl]; exact e1) (by rw [hf348_ 11 7 rfl, hf347_ 11 7 rfl]; omega)) (fun h => by omega) (show a0 11 6 ≤ a348_ 11 6 from by omega)
theorem sp_X10_readAtom (E : jxE) (d : Nat) (hd : Nat.ble 7 d = true) (x1 : Int) (a0 b0 : Nat → Nat → Int) (hv0 : iv a0) : jt (jxC E d 146 [.inr (.inr (.inl 11)), .inl x1] (jxSH, a0, b0)) (jQ_X10_readAtom x1 a0 b0) := by
  obtain ⟨d, rfl⟩ := jd_succ hd
  refine jt_eq (bq_X10_readAtom E d x1 a0 b0) ?_
  refine jt_bI (sp_X10_takeAtomWord E d (jd_le hd rfl) a0 b0 hv0) (fun r358_ a358_ b358_ h358_ => ?_)
  obtain ⟨hv358_, hf358_, rfl, hq358_0, hq358_1, hq358_2, hq358_3⟩ := h358_
  have hta0_358 := hq358_0
  have hta1_358 := hq358_1
  have hta2_358 := hq358_2
  have hta3_358 := hq358_3
  have hz358 := hf358_ 2 3 rfl
  have h117_358 := hf358_ 11 7 rfl
  have h116_358 := hf358_ 11 6 rfl
  have hak358 := AK_sp (a0 3) (a0 2 1).toNat (a0 2 2).toNat
  have i117_358 := iv_get hv0 (k := 11) (j := 7) (l := 0) (u := 12) rfl
  have i22_358 := iv_get hv0 (k := 2) (j := 2) (l := 0) (u := 200) rfl
  refine jt_ite (fun c359_ => ?_) (fun c359_ => ?_)
  ·
    refine jt_bV (sp_X8_noteCannotStand E d (jd_le hd rfl) a358_ b0 hv358_) (fun a360_ b360_ h360_ => ?_)
    obtain ⟨hv360_, hf360_, rfl, hq360_0, hq360_1⟩ := h360_
    have h361_ : a358_ 2 3 = a0 2 3 := hf358_ 2 3 rfl
    have h362_ := iv_get hv358_ (k := 2) (j := 2) (l := 0) (u := 200) rfl
    have hf363_ : jfr jW_X10_readAtom a0 a358_ := jfr_tr (jfr_rf _ _) hf358_ rfl
    have hf364_ : jfr jW_X10_readAtom a0 a360_ := jfr_tr hf363_ hf360_ rfl
    have h365_ := iv_get hv0 (k := 11) (j := 6) (l := 0) (u := 40) rfl
    have h366_ := iv_get hv360_ (k := 11) (j := 6) (l := 0) (u := 40) rfl
    have h367_ : a360_ 11 6 = a358_ 11 6 := hf360_ 11 6 rfl
    have h368_ := iv_get hv358_ (k := 11) (j := 6) (l := 0) (u := 40) rfl
    have h369_ : a358_ 11 6 = a0 11 6 := hf358_ 11 6 rfl
    exact jt_rV ⟨hv360_, hf364_, rfl, (fun hz0 => PAtom_0 (by have e := hta0_358 hz0; omega) (by omega) (fun hz => by have e := hta2_358 hz (by omega); omega) hz0), (fun h => by omega), (show a0 11 6 ≤ a360_ 11 6 from by omega)⟩
  ·
    have h370_ := iv_get hv358_ (k := 11) (j := 7) (l := 0) (u := 12) rfl
    have h371_ : a358_ 11 7 = a0 11 7 := hf358_ 11 7 rfl
    have h372_ := iv_get hv0 (k := 11) (j := 7) (l := 0) (u := 12) rfl
    refine jt_ite (fun c373_ => ?_) (fun c373_ => ?_)
    ·
      have h375_ : jxw ((a358_ 11 7) + 1) = (a358_ 11 7) + 1 := jxw_id (by omega) (by omega)
      have hv374_ : iv (jxu a358_ 11 7 (jxw ((a358_ 11 7) + 1))) := iv_put hv358_ (l := 0) (u := 12) rfl (by omega) (by omega)
      have hf376_ : jfr jW_X10_readAtom a0 a358_ := jfr_tr (jfr_rf _ _) hf358_ rfl
      have hf377_ : jfr jW_X10_readAtom a0 (jxu a358_ 11 7 (jxw ((a358_ 11 7) + 1))) := jfr_put hf376_ rfl
      have h378_ : a358_ 2 3 = a0 2 3 := hf358_ 2 3 rfl
      have h379_ := iv_get hv358_ (k := 11) (j := 6) (l := 0) (u := 40) rfl
      have h380_ : a358_ 11 6 = a0 11 6 := hf358_ 11 6 rfl
      have h381_ := iv_get hv0 (k := 11) (j := 6) (l := 0) (u := 40) rfl
      exact cp_X10_readAtom_47 E d hd x1 a0 b0 hv0 r358_ (jxu a358_ 11 7 (jxw ((a358_ 11 7) + 1))) hv374_ hf377_ (show 1 ≤ jxw ((a358_ 11 7) + 1) from by omega) (show a0 2 3 = 0 from by omega) (show a358_ 2 3 = 0 from by omega) (hta0_358 (by have z := hta3_358; omega)) (show 0 ≤ r358_ from by omega) (show r358_ ≤ 6 from by omega) (hta1_358 (by have z := hta3_358; omega) (by have z := hta3_358; have z2 := hta0_358; omega)) (show a358_ 11 6 = a0 11 6 from by omega) (show jxw ((a358_ 11 7) + 1) = (a0 11 7) + 1 from by omega) (show a0 11 7 ≤ 11 from by omega) (fun j => (hf358_ 54 j rfl))
    ·
      refine jt_bV (sp_X8_noteFault E d (jd_le hd rfl) x1 2 a358_ b0 hv358_) (fun a382_ b382_ h382_ => ?_)
      obtain ⟨hv382_, hf382_, rfl, hq382_0, hq382_1⟩ := h382_
      have h383_ : a358_ 2 3 = a0 2 3 := hf358_ 2 3 rfl
      have hf384_ : jfr jW_X10_readAtom a0 a358_ := jfr_tr (jfr_rf _ _) hf358_ rfl
      have hf385_ : jfr jW_X10_readAtom a0 a382_ := jfr_tr hf384_ hf382_ rfl
      have h386_ := iv_get hv382_ (k := 11) (j := 7) (l := 0) (u := 12) rfl
      have h387_ : a382_ 11 7 = a358_ 11 7 := hf382_ 11 7 rfl
      have h388_ := iv_get hv0 (k := 11) (j := 6) (l := 0) (u := 40) rfl
      have h389_ := iv_get hv382_ (k := 11) (j := 6) (l := 0) (u := 40) rfl
      have h390_ : a382_ 11 6 = a358_ 11 6 := hf382_ 11 6 rfl
      have h391_ := iv_get hv358_ (k := 11) (j := 6) (l := 0) (u := 40) rfl
      have h392_ : a358_ 11 6 = a0 11 6 := hf358_ 11 6 rfl
      exact cp_X10_readAtom_36 E d hd x1 a0 b0 hv0 a382_ hv382_ hf385_ (show 12 ≤ a382_ 11 7 from by omega) (PAtom_13 (by have z := hta3_358; have z2 := hta0_358; omega) (by omega) (by omega) (fun hz hx => by omega)) (fun h => by omega) (show a0 11 6 ≤ a382_ 11 6 from by omega)
def jW_X8_takesSign : List (Nat × Nat) := [(2, 2)]
abbrev jQ_X8_takesSign (x1 : Int) (a0 b0 : Nat → Nat → Int) : List jxV → (Nat → Nat → Int) → (Nat → Nat → Int) → Prop := rI (fun r a b => (iv a) ∧ (jfr jW_X8_takesSign a0 a) ∧ (b0 = b) ∧ ((0 ≤ r ∧ r ≤ 1)) ∧ (((¬ a0 2 3 = 0 ∨ a0 2 1 ≤ a0 2 2) → (r = 0 ∧ a 2 2 = a0 2 2))) ∧ (r = 1 → a0 2 3 = 0 ∧ (a0 2 2).toNat < (a0 2 1).toNat ∧ (a0 3) (a0 2 2).toNat = x1 ∧ a 2 2 = ((SK (a0 3) (a0 2 1).toNat ((a0 2 2).toNat + 1) : Nat) : Int)) ∧ (r = 0 → ¬ a0 2 3 = 0 ∨ (a0 2 1).toNat ≤ (a0 2 2).toNat ∨ ¬ (a0 3) (a0 2 2).toNat = x1) ∧ ((r = 0 → a 2 2 = a0 2 2)))
theorem cp_X8_takesSign_31 (E : jxE) (d : Nat) (hd : Nat.ble 2 (d + 1) = true) (x1 : Int) (a0 b0 : Nat → Nat → Int) (hv0 : iv a0) : ∀ (a : Nat → Nat → Int), iv a → jfr jW_X8_takesSign a0 a → a 2 2 = a0 2 2 → (¬ a0 2 3 = 0 ∨ (a0 2 1).toNat ≤ (a0 2 2).toNat ∨ ¬ (a0 3) (a0 2 2).toNat = x1) → jt (jxX E d 129 31 [none, none] [] (jxSH, a, b0)) (jQ_X8_takesSign x1 a0 b0) := by
  intro a hv hf hi0 hno
  refine jt_eq (bq_X8_takesSign_31 E d a b0) ?_
  have h393_ := iv_get hv (k := 2) (j := 2) (l := 0) (u := 200) rfl
  have h394_ := iv_get hv0 (k := 2) (j := 2) (l := 0) (u := 200) rfl
  have h395_ := iv_get hv0 (k := 2) (j := 1) (l := 0) (u := 200) rfl
  exact jt_rI ⟨hv, hf, rfl, (show (0 ≤ 0 ∧ 0 ≤ 1) from by omega), (show ((¬ a0 2 3 = 0 ∨ a0 2 1 ≤ a0 2 2) → (0 = 0 ∧ a 2 2 = a0 2 2)) from by omega), (by first | exact (fun h => absurd h (by decide)) | exact (fun _ => ⟨by omega, by omega, hyes, by have h := hq0_1; rw [show (a0 2 2).toNat + 1 = (jxw ((a 2 2) + 1)).toNat from by omega, ← h3, ← h21]; exact h⟩)), (by first | exact (fun _ => hno) | exact (fun h => absurd h (by decide))), (show (0 = 0 → a 2 2 = a0 2 2) from by omega)⟩
theorem cp_X8_takesSign_33 (E : jxE) (d : Nat) (hd : Nat.ble 2 (d + 1) = true) (x1 : Int) (a0 b0 : Nat → Nat → Int) (hv0 : iv a0) : ∀ (a : Nat → Nat → Int), iv a → jfr jW_X8_takesSign a0 a → 1 ≤ a 2 1 → a 2 2 ≤ 199 → a0 2 3 = 0 → a0 2 2 < a0 2 1 → a 2 2 = a0 2 2 → ((a0 3) (a0 2 2).toNat = x1) → jt (jxX E d 129 33 [some (.inr (.inr (.inl 2))), none] [] (jxSH, a, b0)) (jQ_X8_takesSign x1 a0 b0) := by
  intro a hv hf hi0 hi1 hi2 hi3 hi4 hyes
  refine jt_eq (bq_X8_takesSign_33 E d a b0) ?_
  have h396_ := iv_get hv (k := 2) (j := 1) (l := 0) (u := 200) rfl
  have h397_ : a 2 1 = a0 2 1 := hf 2 1 rfl
  have h398_ := iv_get hv0 (k := 2) (j := 1) (l := 0) (u := 200) rfl
  have h399_ := iv_get hv (k := 2) (j := 2) (l := 0) (u := 200) rfl
  have h400_ := iv_get hv0 (k := 2) (j := 2) (l := 0) (u := 200) rfl
  have h3 : a 3 = a0 3 := funext fun j => hf 3 j rfl
  have h21 := hf 2 1 rfl
  have h402_ : jxw ((a 2 2) + 1) = (a 2 2) + 1 := jxw_id (by omega) (by omega)
  have hv401_ : iv (jxu a 2 2 (jxw ((a 2 2) + 1))) := iv_put hv (l := 0) (u := 200) rfl (by omega) (by omega)
  refine jt_bV (sp_X8_skipBlanks E d (jd_le hd rfl) (jxu a 2 2 (jxw ((a 2 2) + 1))) b0 hv401_) (fun a403_ b403_ h403_ => ?_)
  obtain ⟨hv403_, hf403_, rfl, hq403_0, hq403_1⟩ := h403_
  have h404_ := iv_get hv403_ (k := 2) (j := 2) (l := 0) (u := 200) rfl
  have h405_ : (a 2 1 ≤ jxw ((a 2 2) + 1) → a403_ 2 2 = jxw ((a 2 2) + 1)) := hq403_0
  have hf406_ : jfr jW_X8_takesSign a0 (jxu a 2 2 (jxw ((a 2 2) + 1))) := jfr_put hf rfl
  have hf407_ : jfr jW_X8_takesSign a0 a403_ := jfr_tr hf406_ hf403_ rfl
  exact jt_rI ⟨hv403_, hf407_, rfl, (show (0 ≤ 1 ∧ 1 ≤ 1) from by omega), (show ((¬ a0 2 3 = 0 ∨ a0 2 1 ≤ a0 2 2) → (1 = 0 ∧ a403_ 2 2 = a0 2 2)) from by omega), (by first | exact (fun h => absurd h (by decide)) | exact (fun _ => ⟨by omega, by omega, hyes, by have h := hq403_1; rw [show (a0 2 2).toNat + 1 = (jxw ((a 2 2) + 1)).toNat from by omega, ← h3, ← h21]; exact h⟩)), (by first | exact (fun _ => hno) | exact (fun h => absurd h (by decide))), (show (1 = 0 → a403_ 2 2 = a0 2 2) from by omega)⟩
theorem sp_X8_takesSign (E : jxE) (d : Nat) (hd : Nat.ble 2 d = true) (x1 : Int) (a0 b0 : Nat → Nat → Int) (hv0 : iv a0) : jt (jxC E d 129 [.inr (.inr (.inl 2)), .inl x1] (jxSH, a0, b0)) (jQ_X8_takesSign x1 a0 b0) := by
  obtain ⟨d, rfl⟩ := jd_succ hd
  refine jt_eq (bq_X8_takesSign E d x1 a0 b0) ?_
  refine jt_eI (eq_X8_isFaulty E d (jd_le hd rfl) a0 b0) ?_
  have h408_ := f_X8_isFaulty_eq a0 b0
  refine jt_ite (fun c409_ => ?_) (fun c409_ => ?_)
  ·
    have h410_ := iv_get hv0 (k := 2) (j := 2) (l := 0) (u := 200) rfl
    have h411_ := iv_get hv0 (k := 2) (j := 1) (l := 0) (u := 200) rfl
    refine jt_ite (fun c412_ => ?_) (fun c412_ => ?_)
    ·
      refine jt_grd (by omega) ?_
      have h413_ := iv_get hv0 (k := 3) (j := (a0 2 2).toNat) (l := 0) (u := 255) rfl
      refine jt_ite (fun c414_ => ?_) (fun c414_ => ?_)
      ·
        exact cp_X8_takesSign_33 E d hd x1 a0 b0 hv0 a0 hv0 (jfr_rf _ _) (show 1 ≤ a0 2 1 from by omega) (show a0 2 2 ≤ 199 from by omega) (show a0 2 3 = 0 from by omega) (show a0 2 2 < a0 2 1 from by omega) (show a0 2 2 = a0 2 2 from by omega) (by assumption)
      ·
        exact cp_X8_takesSign_31 E d hd x1 a0 b0 hv0 a0 hv0 (jfr_rf _ _) (show a0 2 2 = a0 2 2 from by omega) (by first | exact Or.inl (by omega) | exact Or.inr (Or.inl (by omega)) | exact Or.inr (Or.inr (by assumption)))
    ·
      exact cp_X8_takesSign_31 E d hd x1 a0 b0 hv0 a0 hv0 (jfr_rf _ _) (show a0 2 2 = a0 2 2 from by omega) (by first | exact Or.inl (by omega) | exact Or.inr (Or.inl (by omega)) | exact Or.inr (Or.inr (by assumption)))
  ·
    have h415_ := iv_get hv0 (k := 2) (j := 2) (l := 0) (u := 200) rfl
    exact cp_X8_takesSign_31 E d hd x1 a0 b0 hv0 a0 hv0 (jfr_rf _ _) (show a0 2 2 = a0 2 2 from by omega) (by first | exact Or.inl (by omega) | exact Or.inr (Or.inl (by omega)) | exact Or.inr (Or.inr (by assumption)))
def jW_X8_startReading : List (Nat × Nat) := [(2, 2), (2, 3)]
abbrev jQ_X8_startReading (a0 b0 : Nat → Nat → Int) : List jxV → (Nat → Nat → Int) → (Nat → Nat → Int) → Prop := rV (fun a b => (iv a) ∧ (jfr jW_X8_startReading a0 a) ∧ (b0 = b) ∧ (a 2 3 = 0) ∧ ((a0 2 1 = 0 → a 2 2 = 0)) ∧ (a 2 2 = ((SK (a0 3) (a0 2 1).toNat 0 : Nat) : Int)))
theorem sp_X8_startReading (E : jxE) (d : Nat) (hd : Nat.ble 2 d = true) (a0 b0 : Nat → Nat → Int) (hv0 : iv a0) : jt (jxC E d 121 [.inr (.inr (.inl 2))] (jxSH, a0, b0)) (jQ_X8_startReading a0 b0) := by
  obtain ⟨d, rfl⟩ := jd_succ hd
  refine jt_eq (bq_X8_startReading E d a0 b0) ?_
  have hv416_ : iv (jxu a0 2 2 0) := iv_put hv0 (l := 0) (u := 200) rfl (by omega) (by omega)
  have hv417_ : iv (jxu (jxu a0 2 2 0) 2 3 0) := iv_putf hv416_ rfl
  refine jt_bV (sp_X8_skipBlanks E d (jd_le hd rfl) (jxu (jxu a0 2 2 0) 2 3 0) b0 hv417_) (fun a418_ b418_ h418_ => ?_)
  obtain ⟨hv418_, hf418_, rfl, hq418_0, hq418_1⟩ := h418_
  have h419_ := iv_get hv0 (k := 2) (j := 1) (l := 0) (u := 200) rfl
  have h420_ := iv_get hv418_ (k := 2) (j := 2) (l := 0) (u := 200) rfl
  have h421_ : (a0 2 1 ≤ 0 → a418_ 2 2 = 0) := hq418_0
  have hf422_ : jfr jW_X8_startReading a0 (jxu a0 2 2 0) := jfr_put (jfr_rf _ _) rfl
  have hf423_ : jfr jW_X8_startReading a0 (jxu (jxu a0 2 2 0) 2 3 0) := jfr_put hf422_ rfl
  have hf424_ : jfr jW_X8_startReading a0 a418_ := jfr_tr hf423_ hf418_ rfl
  have h425_ : a418_ 2 3 = 0 := hf418_ 2 3 rfl
  exact jt_rV ⟨hv418_, hf424_, rfl, (show a418_ 2 3 = 0 from by omega), (show (a0 2 1 = 0 → a418_ 2 2 = 0) from by omega), hq418_1⟩
def jWta : List (Nat × Nat) := [(75, 9999)]
def jWtb : List (Nat × Nat) := [(70, 9999), (71, 9999), (75, 9999)]
def jWtc : List (Nat × Nat) := [(73, 9999), (75, 9999)]
def jW_X7_add : List (Nat × Nat) := [(70, 9999), (71, 9999), (72, 9999), (73, 9999), (74, 9999), (75, 9999)]
abbrev jQ_X7_add (x1 x2 x3 x4 : Int) (a0 b0 : Nat → Nat → Int) : List jxV → (Nat → Nat → Int) → (Nat → Nat → Int) → Prop := rV (fun a b => (iv a) ∧ (jfr jW_X7_add a0 a) ∧ (b0 = b) ∧ (TAD a0 a x1 x2 x3 x4))
theorem cp_X7_add_104 (E : jxE) (d : Nat) (hd : Nat.ble 2 (d + 1) = true) (x1 x2 x3 x4 : Int) (a0 b0 : Nat → Nat → Int) (hv0 : iv a0) : ∀ (a : Nat → Nat → Int), iv a → jfr jW_X7_add a0 a → (TAD a0 a x1 x2 x3 x4) → jt (jxX E d 109 104 [none, none, none, none, none] [] (jxSH, a, b0)) (jQ_X7_add x1 x2 x3 x4 a0 b0) := by
  intro a hv hf htad
  refine jt_eq (bq_X7_add_104 E d a b0) ?_
  exact jt_rV ⟨hv, hf, rfl, htad⟩
theorem cp_X7_add_76 (E : jxE) (d : Nat) (hd : Nat.ble 2 (d + 1) = true) (x1 x2 x3 x4 : Int) (a0 b0 : Nat → Nat → Int) (hv0 : iv a0) : ∀ (y2 : Int) (a : Nat → Nat → Int), iv a → jfr jW_X7_add a0 a → 0 ≤ y2 → y2 ≤ 39 → (0 ≤ x1 ∧ x1 ≤ 39 ∧ 0 ≤ x2 ∧ x2 ≤ 39) → (jfr jWtc a0 a) → (y2 = x2) → (UP (a0 75) (a 75) x2.toNat x4) → x3 = 0 → (UP (a0 73) (a 73) x1.toNat (jxw (a0 73 x1.toNat + 1))) → jt (jxX E d 109 76 [some (.inr (.inr (.inl 69))), none, some (.inl y2), none, none] [] (jxSH, a, b0)) (jQ_X7_add x1 x2 x3 x4 a0 b0) := by
  intro y2 a hv hf hi0 hi1 hv4 hfe hy2 hu75 hi6 hu73
  refine jt_eq (bq_X7_add_76 E d y2 a b0) ?_
  refine jt_grd (by omega) ?_
  refine jt_grd (by omega) ?_
  have hv426_ : iv (jxu a 72 (y2.toNat) (jxw ((a 72 (y2.toNat)) + 1))) := iv_putf hv rfl
  have hf427_ : jfr jW_X7_add a0 (jxu a 72 (y2.toNat) (jxw ((a 72 (y2.toNat)) + 1))) := jfr_put hf rfl
  exact cp_X7_add_104 E d hd x1 x2 x3 x4 a0 b0 hv0 (jxu a 72 (y2.toNat) (jxw ((a 72 (y2.toNat)) + 1))) hv426_ hf427_ (TAD_b hv4 (by omega) (UP_cr hu75 (fun _ => rfl)) (by rw [hy2]; show UP (a0 72) (jxu a 72 x2.toNat (jxw (a 72 x2.toNat + 1)) 72) x2.toNat _; rw [show a 72 x2.toNat = a0 72 x2.toNat from hfe 72 _ rfl]; exact UP_put (fun j => hfe 72 j rfl)) (UP_cr hu73 (fun _ => rfl)) (fun j => hfe 70 j rfl) (fun j => hfe 71 j rfl) (fun j => hfe 74 j rfl))
theorem cp_X7_add_59 (E : jxE) (d : Nat) (hd : Nat.ble 2 (d + 1) = true) (x1 x2 x3 x4 : Int) (a0 b0 : Nat → Nat → Int) (hv0 : iv a0) : ∀ (a : Nat → Nat → Int), iv a → jfr jW_X7_add a0 a → (jfr jWtb a0 a) → (TAD a0 a x1 x2 x3 x4) → jt (jxX E d 109 59 [none, none, none, none, none] [] (jxSH, a, b0)) (jQ_X7_add x1 x2 x3 x4 a0 b0) := by
  intro a hv hf hfe htad
  refine jt_eq (bq_X7_add_59 E d a b0) ?_
  exact cp_X7_add_104 E d hd x1 x2 x3 x4 a0 b0 hv0 a hv hf htad
theorem cp_X7_add_39 (E : jxE) (d : Nat) (hd : Nat.ble 2 (d + 1) = true) (x1 x2 x3 x4 : Int) (a0 b0 : Nat → Nat → Int) (hv0 : iv a0) : ∀ (y1 y2 : Int) (a : Nat → Nat → Int), iv a → jfr jW_X7_add a0 a → 0 ≤ y1 → y1 ≤ 39 → 0 ≤ y2 → y2 ≤ 39 → (0 ≤ x1 ∧ x1 ≤ 39 ∧ 0 ≤ x2 ∧ x2 ≤ 39) → (jfr jWta a0 a) → (y1 = x1) → (y2 = x2) → (UP (a0 75) (a 75) x2.toNat x4) → (x3 = 1 ∨ x3 = 3) → jt (jxX E d 109 39 [some (.inr (.inr (.inl 69))), some (.inl y1), some (.inl y2), none, none] [] (jxSH, a, b0)) (jQ_X7_add x1 x2 x3 x4 a0 b0) := by
  intro y1 y2 a hv hf hi0 hi1 hi2 hi3 hv4 hfe hy1 hy2 hu75 hi9
  refine jt_eq (bq_X7_add_39 E d y1 y2 a b0) ?_
  refine jt_grd (by omega) ?_
  refine jt_grd (by omega) ?_
  refine jt_grd (by omega) ?_
  refine jt_grd (by omega) ?_
  have hv428_ : iv (jxu a 70 (y1.toNat) (jxw ((a 70 (y1.toNat)) + 1))) := iv_putf hv rfl
  have hv429_ : iv (jxu (jxu a 70 (y1.toNat) (jxw ((a 70 (y1.toNat)) + 1))) 71 (y2.toNat) (jxw ((a 71 (y2.toNat)) + 1))) := iv_putf hv428_ rfl
  have hf430_ : jfr jW_X7_add a0 (jxu a 70 (y1.toNat) (jxw ((a 70 (y1.toNat)) + 1))) := jfr_put hf rfl
  have hf431_ : jfr jW_X7_add a0 (jxu (jxu a 70 (y1.toNat) (jxw ((a 70 (y1.toNat)) + 1))) 71 (y2.toNat) (jxw ((a 71 (y2.toNat)) + 1))) := jfr_put hf430_ rfl
  have hf432_ : jfr jWtb a0 (jxu a 70 (y1.toNat) (jxw ((a 70 (y1.toNat)) + 1))) := jfr_put (jfr_tr (jfr_rf _ _) hfe rfl) rfl
  have hf433_ : jfr jWtb a0 (jxu (jxu a 70 (y1.toNat) (jxw ((a 70 (y1.toNat)) + 1))) 71 (y2.toNat) (jxw ((a 71 (y2.toNat)) + 1))) := jfr_put hf432_ rfl
  exact cp_X7_add_59 E d hd x1 x2 x3 x4 a0 b0 hv0 (jxu (jxu a 70 (y1.toNat) (jxw ((a 70 (y1.toNat)) + 1))) 71 (y2.toNat) (jxw ((a 71 (y2.toNat)) + 1))) hv429_ hf431_ hf433_ (TAD_a hv4 (by omega) (UP_cr hu75 (fun _ => rfl)) (by rw [hy1, hy2]; rw [show a 70 x1.toNat = a0 70 x1.toNat from hfe 70 _ rfl]; exact UP_put (fun j => hfe 70 j rfl)) (by rw [hy1, hy2]; show UP (a0 71) (jxu a 71 x2.toNat (jxw (a 71 x2.toNat + 1)) 71) x2.toNat _; rw [show a 71 x2.toNat = a0 71 x2.toNat from hfe 71 _ rfl]; exact UP_put (fun j => hfe 71 j rfl)) (fun j => hfe 72 j rfl) (fun j => hfe 73 j rfl) (fun j => hfe 74 j rfl))
theorem cp_X7_add_29 (E : jxE) (d : Nat) (hd : Nat.ble 2 (d + 1) = true) (x1 x2 x3 x4 : Int) (a0 b0 : Nat → Nat → Int) (hv0 : iv a0) : ∀ (y1 y2 y3 : Int) (a : Nat → Nat → Int), iv a → jfr jW_X7_add a0 a → 0 ≤ y1 → y1 ≤ 39 → 0 ≤ y2 → y2 ≤ 39 → (0 ≤ x1 ∧ x1 ≤ 39 ∧ 0 ≤ x2 ∧ x2 ≤ 39) → (jfr jWta a0 a) → (y1 = x1) → (y2 = x2) → (y3 = x3) → (UP (a0 75) (a 75) x2.toNat x4) → jt (jxX E d 109 29 [some (.inr (.inr (.inl 69))), some (.inl y1), some (.inl y2), some (.inl y3), none] [] (jxSH, a, b0)) (jQ_X7_add x1 x2 x3 x4 a0 b0) := by
  intro y1 y2 y3 a hv hf hi0 hi1 hi2 hi3 hv4 hfe hy1 hy2 hy3 hu75
  refine jt_eq (bq_X7_add_29 E d y1 y2 y3 a b0) ?_
  refine jt_ite (fun c434_ => ?_) (fun c434_ => ?_)
  ·
    exact cp_X7_add_39 E d hd x1 x2 x3 x4 a0 b0 hv0 y1 y2 a hv hf (show 0 ≤ y1 from by omega) (show y1 ≤ 39 from by omega) (show 0 ≤ y2 from by omega) (show y2 ≤ 39 from by omega) ⟨by omega, by omega, by omega, by omega⟩ hfe (by first | rfl | assumption) (by first | rfl | assumption) (by first | exact UP_put (fun _ => rfl) | exact hu75) (show (x3 = 1 ∨ x3 = 3) from by omega)
  ·
    refine jt_ite (fun c435_ => ?_) (fun c435_ => ?_)
    ·
      exact cp_X7_add_39 E d hd x1 x2 x3 x4 a0 b0 hv0 y1 y2 a hv hf (show 0 ≤ y1 from by omega) (show y1 ≤ 39 from by omega) (show 0 ≤ y2 from by omega) (show y2 ≤ 39 from by omega) ⟨by omega, by omega, by omega, by omega⟩ hfe (by first | rfl | assumption) (by first | rfl | assumption) (by first | exact UP_put (fun _ => rfl) | exact hu75) (show (x3 = 1 ∨ x3 = 3) from by omega)
    ·
      refine jt_ite (fun c436_ => ?_) (fun c436_ => ?_)
      ·
        refine jt_grd (by omega) ?_
        refine jt_grd (by omega) ?_
        have hv437_ : iv (jxu a 73 (y1.toNat) (jxw ((a 73 (y1.toNat)) + 1))) := iv_putf hv rfl
        have hf438_ : jfr jW_X7_add a0 (jxu a 73 (y1.toNat) (jxw ((a 73 (y1.toNat)) + 1))) := jfr_put hf rfl
        have hf439_ : jfr jWtc a0 (jxu a 73 (y1.toNat) (jxw ((a 73 (y1.toNat)) + 1))) := jfr_put (jfr_tr (jfr_rf _ _) hfe rfl) rfl
        exact cp_X7_add_76 E d hd x1 x2 x3 x4 a0 b0 hv0 y2 (jxu a 73 (y1.toNat) (jxw ((a 73 (y1.toNat)) + 1))) hv437_ hf438_ (show 0 ≤ y2 from by omega) (show y2 ≤ 39 from by omega) ⟨by omega, by omega, by omega, by omega⟩ hf439_ (by first | rfl | assumption) (by first | exact UP_put (fun _ => rfl) | exact hu75) (show x3 = 0 from by omega) (by rw [hy1]; rw [show a 73 x1.toNat = a0 73 x1.toNat from hfe 73 _ rfl]; exact UP_put (fun j => hfe 73 j rfl))
      ·
        refine jt_ite (fun c440_ => ?_) (fun c440_ => ?_)
        ·
          refine jt_grd (by omega) ?_
          refine jt_grd (by omega) ?_
          have hv441_ : iv (jxu a 74 (y1.toNat) (jxw ((a 74 (y1.toNat)) + 1))) := iv_putf hv rfl
          have hf442_ : jfr jW_X7_add a0 (jxu a 74 (y1.toNat) (jxw ((a 74 (y1.toNat)) + 1))) := jfr_put hf rfl
          exact cp_X7_add_104 E d hd x1 x2 x3 x4 a0 b0 hv0 (jxu a 74 (y1.toNat) (jxw ((a 74 (y1.toNat)) + 1))) hv441_ hf442_ (by first | exact TAD_c hv4 (by omega) (UP_cr hu75 (fun _ => rfl)) (by rw [hy1]; show UP (a0 74) (jxu a 74 x1.toNat (jxw (a 74 x1.toNat + 1)) 74) x1.toNat _; rw [show a 74 x1.toNat = a0 74 x1.toNat from hfe 74 _ rfl]; exact UP_put (fun j => hfe 74 j rfl)) (fun j => hfe 70 j rfl) (fun j => hfe 71 j rfl) (fun j => hfe 72 j rfl) (fun j => hfe 73 j rfl) | exact TAD_d hv4 (by omega) hu75 (fun j => hfe 70 j rfl) (fun j => hfe 71 j rfl) (fun j => hfe 72 j rfl) (fun j => hfe 73 j rfl) (fun j => hfe 74 j rfl))
        ·
          exact cp_X7_add_104 E d hd x1 x2 x3 x4 a0 b0 hv0 a hv hf (by first | exact TAD_c hv4 (by omega) (UP_cr hu75 (fun _ => rfl)) (by rw [hy1]; show UP (a0 74) (jxu a 74 x1.toNat (jxw (a 74 x1.toNat + 1)) 74) x1.toNat _; rw [show a 74 x1.toNat = a0 74 x1.toNat from hfe 74 _ rfl]; exact UP_put (fun j => hfe 74 j rfl)) (fun j => hfe 70 j rfl) (fun j => hfe 71 j rfl) (fun j => hfe 72 j rfl) (fun j => hfe 73 j rfl) | exact TAD_d hv4 (by omega) hu75 (fun j => hfe 70 j rfl) (fun j => hfe 71 j rfl) (fun j => hfe 72 j rfl) (fun j => hfe 73 j rfl) (fun j => hfe 74 j rfl))
theorem sp_X7_add (E : jxE) (d : Nat) (hd : Nat.ble 2 d = true) (x1 x2 x3 x4 : Int) (a0 b0 : Nat → Nat → Int) (hv0 : iv a0) : jt (jxC E d 109 [.inr (.inr (.inl 69)), .inl x1, .inl x2, .inl x3, .inl x4] (jxSH, a0, b0)) (jQ_X7_add x1 x2 x3 x4 a0 b0) := by
  obtain ⟨d, rfl⟩ := jd_succ hd
  refine jt_eq (bq_X7_add E d x1 x2 x3 x4 a0 b0) ?_
  refine jt_eI (eq_X11_within E d (jd_le hd rfl) x1 0 39 a0 b0) ?_
  have h443_ := f_X11_within_eq a0 b0 x1 0 39
  refine jt_ite (fun c444_ => ?_) (fun c444_ => ?_)
  ·
    exact jt_rV ⟨hv0, (jfr_rf _ _), rfl, (TAD_no (fun q => by omega))⟩
  ·
    refine jt_eI (eq_X11_within E d (jd_le hd rfl) x2 0 39 a0 b0) ?_
    have h445_ := f_X11_within_eq a0 b0 x2 0 39
    refine jt_ite (fun c446_ => ?_) (fun c446_ => ?_)
    ·
      exact jt_rV ⟨hv0, (jfr_rf _ _), rfl, (TAD_no (fun q => by omega))⟩
    ·
      refine jt_grd (by omega) ?_
      have hv447_ : iv (jxu a0 75 (x2.toNat) x4) := iv_putf hv0 rfl
      have hf448_ : jfr jW_X7_add a0 (jxu a0 75 (x2.toNat) x4) := jfr_put (jfr_rf _ _) rfl
      have hf449_ : jfr jWta a0 (jxu a0 75 (x2.toNat) x4) := jfr_put (jfr_rf _ _) rfl
      exact cp_X7_add_29 E d hd x1 x2 x3 x4 a0 b0 hv0 x1 x2 x3 (jxu a0 75 (x2.toNat) x4) hv447_ hf448_ (show 0 ≤ x1 from by omega) (show x1 ≤ 39 from by omega) (show 0 ≤ x2 from by omega) (show x2 ≤ 39 from by omega) ⟨by omega, by omega, by omega, by omega⟩ hf449_ (by first | rfl | assumption) (by first | rfl | assumption) (by first | rfl | assumption) (by first | exact UP_put (fun _ => rfl) | exact hu75)
def jW_X7_take_r58 : List (Nat × Nat) := [(70, 9999), (71, 9999), (72, 9999), (73, 9999), (74, 9999), (75, 9999)]
abbrev jQ_X7_take_r58 (x2 : Int) (a0 b0 : Nat → Nat → Int) : List jxV → (Nat → Nat → Int) → (Nat → Nat → Int) → Prop := rV (fun a b => (iv a) ∧ (jfr jW_X7_take_r58 a0 a) ∧ (b0 = b) ∧ (TSUM a0 b0 x2 a (a0 58 8).toNat))
theorem cp_X7_take_r58_58 (E : jxE) (d : Nat) (hd : Nat.ble 4 (d + 1) = true) (x2 : Int) (a0 b0 : Nat → Nat → Int) (hv0 : iv a0) : ∀ n : Nat, (∀ (y2 y3 : Int) (a : Nat → Nat → Int), (((300 - y3) * 1) + 0).toNat ≤ n → iv a → jfr jW_X7_take_r58 a0 a → 0 ≤ y3 → y3 ≤ 299 → y2 = x2 → 0 ≤ y3 → y3 < a 58 8 → (TSUM a0 b0 x2 a (y3.toNat + 1)) → jt (jxX E d 108 91 [some (.inr (.inr (.inl 69))), some (.inr (.inr (.inl 58))), some (.inl y2), some (.inl y3)] [] (jxSH, a, b0)) (jQ_X7_take_r58 x2 a0 b0)) ∧ (∀ (y2 y3 : Int) (a : Nat → Nat → Int), (((300 - y3) * 1) + 0).toNat ≤ n → iv a → jfr jW_X7_take_r58 a0 a → 0 ≤ y3 → y3 ≤ 300 → y2 = x2 → 0 ≤ y3 → y3 ≤ a 58 8 → (TSUM a0 b0 x2 a y3.toNat) → jt (jxX E d 108 58 [some (.inr (.inr (.inl 69))), some (.inr (.inr (.inl 58))), some (.inl y2), some (.inl y3)] [] (jxSH, a, b0)) (jQ_X7_take_r58 x2 a0 b0)) := by
  refine jx_ind fun n ih => ?_
  have ih91 : ∀ (y2 y3 : Int) (a : Nat → Nat → Int), (((300 - y3) * 1) + 0).toNat < n → iv a → jfr jW_X7_take_r58 a0 a → 0 ≤ y3 → y3 ≤ 299 → y2 = x2 → 0 ≤ y3 → y3 < a 58 8 → (TSUM a0 b0 x2 a (y3.toNat + 1)) → jt (jxX E d 108 91 [some (.inr (.inr (.inl 69))), some (.inr (.inr (.inl 58))), some (.inl y2), some (.inl y3)] [] (jxSH, a, b0)) (jQ_X7_take_r58 x2 a0 b0) := fun y2 y3 a hlt i0 i1 i2 i3 i4 i5 i6 i7 => (ih _ hlt).1 y2 y3 a (Nat.le_refl _) i0 i1 i2 i3 i4 i5 i6 i7
  have ih58 : ∀ (y2 y3 : Int) (a : Nat → Nat → Int), (((300 - y3) * 1) + 0).toNat < n → iv a → jfr jW_X7_take_r58 a0 a → 0 ≤ y3 → y3 ≤ 300 → y2 = x2 → 0 ≤ y3 → y3 ≤ a 58 8 → (TSUM a0 b0 x2 a y3.toNat) → jt (jxX E d 108 58 [some (.inr (.inr (.inl 69))), some (.inr (.inr (.inl 58))), some (.inl y2), some (.inl y3)] [] (jxSH, a, b0)) (jQ_X7_take_r58 x2 a0 b0) := fun y2 y3 a hlt i0 i1 i2 i3 i4 i5 i6 i7 => (ih _ hlt).2 y2 y3 a (Nat.le_refl _) i0 i1 i2 i3 i4 i5 i6 i7
  have hc91 : ∀ (y2 y3 : Int) (a : Nat → Nat → Int), (((300 - y3) * 1) + 0).toNat ≤ n → iv a → jfr jW_X7_take_r58 a0 a → 0 ≤ y3 → y3 ≤ 299 → y2 = x2 → 0 ≤ y3 → y3 < a 58 8 → (TSUM a0 b0 x2 a (y3.toNat + 1)) → jt (jxX E d 108 91 [some (.inr (.inr (.inl 69))), some (.inr (.inr (.inl 58))), some (.inl y2), some (.inl y3)] [] (jxSH, a, b0)) (jQ_X7_take_r58 x2 a0 b0) := by
    intro y2 y3 a hm hv hf hi0 hi1 hi2 hi3 hi4 hts
    refine jt_eq (bq_X7_take_r58_91 E d y2 y3 a b0) ?_
    have h450_ := iv_get hv (k := 58) (j := 8) (l := 0) (u := 300) rfl
    have h451_ : a 58 8 = a0 58 8 := hf 58 8 rfl
    have h452_ := iv_get hv0 (k := 58) (j := 8) (l := 0) (u := 300) rfl
    have h453_ : jxw (y3 + 1) = y3 + 1 := jxw_id (by omega) (by omega)
    exact ih58 y2 (jxw (y3 + 1)) a (show (((300 - (jxw (y3 + 1))) * 1) + 0).toNat < n from by omega) hv hf (show 0 ≤ jxw (y3 + 1) from by omega) (show jxw (y3 + 1) ≤ 300 from by omega) (show y2 = x2 from by omega) (show 0 ≤ jxw (y3 + 1) from by omega) (show jxw (y3 + 1) ≤ a 58 8 from by omega) (by first | exact TSUM_0 (fun m h => hz m (by omega)) | (rw [show (jxw (y3 + 1)).toNat = y3.toNat + 1 from by omega]; exact hts))
  have hc58 : ∀ (y2 y3 : Int) (a : Nat → Nat → Int), (((300 - y3) * 1) + 0).toNat ≤ n → iv a → jfr jW_X7_take_r58 a0 a → 0 ≤ y3 → y3 ≤ 300 → y2 = x2 → 0 ≤ y3 → y3 ≤ a 58 8 → (TSUM a0 b0 x2 a y3.toNat) → jt (jxX E d 108 58 [some (.inr (.inr (.inl 69))), some (.inr (.inr (.inl 58))), some (.inl y2), some (.inl y3)] [] (jxSH, a, b0)) (jQ_X7_take_r58 x2 a0 b0) := by
    intro y2 y3 a hm hv hf hi0 hi1 hi2 hi3 hi4 hts
    refine jt_eq (bq_X7_take_r58_58 E d y2 y3 a b0) ?_
    have h454_ := iv_get hv (k := 58) (j := 8) (l := 0) (u := 300) rfl
    have h455_ : a 58 8 = a0 58 8 := hf 58 8 rfl
    have h456_ := iv_get hv0 (k := 58) (j := 8) (l := 0) (u := 300) rfl
    have i588 := iv_get hv (k := 58) (j := 8) (l := 0) (u := 300) rfl
    have hr59 : a 59 y3.toNat = a0 59 y3.toNat := hf 59 _ rfl
    have hr60 : a 60 y3.toNat = a0 60 y3.toNat := hf 60 _ rfl
    have hr61 : a 61 y3.toNat = a0 61 y3.toNat := hf 61 _ rfl
    have hstn : f_X0_stateNow a b0 y3 x2 = f_X0_stateNow a0 b0 ((y3.toNat : Nat) : Int) x2 := by rw [show ((y3.toNat : Nat) : Int) = y3 from by omega]; exact stNow_fr (hf 58 8 rfl) (hf 58 12 rfl) (funext fun j => hf 61 j rfl) (funext fun j => hf 62 j rfl) (funext fun j => hf 64 j rfl) (funext fun j => hf 65 j rfl) (funext fun j => hf 67 j rfl) _ _
    refine jt_eI (eq_X0_size E d (jd_le hd rfl) a b0) ?_
    have h457_ := f_X0_size_eq a b0
    refine jt_ite (fun c458_ => ?_) (fun c458_ => ?_)
    ·
      refine jt_eI (eq_X0_fromOf E d (jd_le hd rfl) y3 a b0) ?_
      refine jt_eI (eq_X0_toOf E d (jd_le hd rfl) y3 a b0) ?_
      refine jt_eI (eq_X0_stateNow E d (jd_le hd rfl) y3 y2 a b0) ?_
      refine jt_eI (eq_X0_sentOnOf E d (jd_le hd rfl) y3 a b0) ?_
      refine jt_bV (sp_X7_add E d (jd_le hd rfl) (f_X0_fromOf a b0 y3) (f_X0_toOf a b0 y3) (f_X0_stateNow a b0 y3 y2) (f_X0_sentOnOf a b0 y3) a b0 hv) (fun a459_ b459_ h459_ => ?_)
      obtain ⟨hv459_, hf459_, rfl, hq459_0⟩ := h459_
      have hf460_ : jfr jW_X7_take_r58 a0 a459_ := jfr_tr hf hf459_ rfl
      have h461_ := iv_get hv459_ (k := 58) (j := 8) (l := 0) (u := 300) rfl
      have h462_ : a459_ 58 8 = a 58 8 := hf459_ 58 8 rfl
      exact hc91 y2 y3 a459_ (show (((300 - y3) * 1) + 0).toNat ≤ n from by omega) hv459_ hf460_ (show 0 ≤ y3 from by omega) (show y3 ≤ 299 from by omega) (show y2 = x2 from by omega) (show 0 ≤ y3 from by omega) (show y3 < a459_ 58 8 from by omega) (by have q := hq459_0; rw [fromOf_at (by omega) (by omega) i588.2, toOf_at (by omega) (by omega) i588.2, sentOf_at (by omega) (by omega) i588.2, show y2 = x2 from by omega, hstn, hr59, hr60, hr61] at q; exact TSUM_step hts (by omega) q)
    ·
      exact jt_rV ⟨hv, hf, rfl, (by rw [show (a0 58 8).toNat = y3.toNat from by omega]; exact hts)⟩
  exact ⟨hc91, hc58⟩
theorem cp_X7_take_r58_2 (E : jxE) (d : Nat) (hd : Nat.ble 4 (d + 1) = true) (x2 : Int) (a0 b0 : Nat → Nat → Int) (hv0 : iv a0) : ∀ n : Nat, (∀ (y2 y3 : Int) (a : Nat → Nat → Int), (((40 - y3) * 1) + 0).toNat ≤ n → iv a → jfr jW_X7_take_r58 a0 a → 0 ≤ y3 → y3 ≤ 39 → y2 = x2 → 0 ≤ y3 → (∀ m : Nat, (m : Int) < y3 + 1 → a 70 m = 0 ∧ a 71 m = 0 ∧ a 72 m = 0 ∧ a 73 m = 0 ∧ a 74 m = 0 ∧ a 75 m = -1) → jt (jxX E d 108 50 [some (.inr (.inr (.inl 69))), some (.inr (.inr (.inl 58))), some (.inl y2), some (.inl y3)] [] (jxSH, a, b0)) (jQ_X7_take_r58 x2 a0 b0)) ∧ (∀ (y2 y3 : Int) (a : Nat → Nat → Int), (((40 - y3) * 1) + 0).toNat ≤ n → iv a → jfr jW_X7_take_r58 a0 a → 0 ≤ y3 → y3 ≤ 39 → y2 = x2 → 0 ≤ y3 → (∀ m : Nat, (m : Int) < y3 → a 70 m = 0 ∧ a 71 m = 0 ∧ a 72 m = 0 ∧ a 73 m = 0 ∧ a 74 m = 0 ∧ a 75 m = -1) → (a 70 y3.toNat = 0 ∧ a 71 y3.toNat = 0 ∧ a 72 y3.toNat = 0) → jt (jxX E d 108 29 [some (.inr (.inr (.inl 69))), some (.inr (.inr (.inl 58))), some (.inl y2), some (.inl y3)] [] (jxSH, a, b0)) (jQ_X7_take_r58 x2 a0 b0)) ∧ (∀ (y2 y3 : Int) (a : Nat → Nat → Int), (((40 - y3) * 1) + 0).toNat ≤ n → iv a → jfr jW_X7_take_r58 a0 a → 0 ≤ y3 → y3 ≤ 40 → y2 = x2 → 0 ≤ y3 → (∀ m : Nat, (m : Int) < y3 → a 70 m = 0 ∧ a 71 m = 0 ∧ a 72 m = 0 ∧ a 73 m = 0 ∧ a 74 m = 0 ∧ a 75 m = -1) → jt (jxX E d 108 2 [some (.inr (.inr (.inl 69))), some (.inr (.inr (.inl 58))), some (.inl y2), some (.inl y3)] [] (jxSH, a, b0)) (jQ_X7_take_r58 x2 a0 b0)) := by
  refine jx_ind fun n ih => ?_
  have ih50 : ∀ (y2 y3 : Int) (a : Nat → Nat → Int), (((40 - y3) * 1) + 0).toNat < n → iv a → jfr jW_X7_take_r58 a0 a → 0 ≤ y3 → y3 ≤ 39 → y2 = x2 → 0 ≤ y3 → (∀ m : Nat, (m : Int) < y3 + 1 → a 70 m = 0 ∧ a 71 m = 0 ∧ a 72 m = 0 ∧ a 73 m = 0 ∧ a 74 m = 0 ∧ a 75 m = -1) → jt (jxX E d 108 50 [some (.inr (.inr (.inl 69))), some (.inr (.inr (.inl 58))), some (.inl y2), some (.inl y3)] [] (jxSH, a, b0)) (jQ_X7_take_r58 x2 a0 b0) := fun y2 y3 a hlt i0 i1 i2 i3 i4 i5 i6 => (ih _ hlt).1 y2 y3 a (Nat.le_refl _) i0 i1 i2 i3 i4 i5 i6
  have ih29 : ∀ (y2 y3 : Int) (a : Nat → Nat → Int), (((40 - y3) * 1) + 0).toNat < n → iv a → jfr jW_X7_take_r58 a0 a → 0 ≤ y3 → y3 ≤ 39 → y2 = x2 → 0 ≤ y3 → (∀ m : Nat, (m : Int) < y3 → a 70 m = 0 ∧ a 71 m = 0 ∧ a 72 m = 0 ∧ a 73 m = 0 ∧ a 74 m = 0 ∧ a 75 m = -1) → (a 70 y3.toNat = 0 ∧ a 71 y3.toNat = 0 ∧ a 72 y3.toNat = 0) → jt (jxX E d 108 29 [some (.inr (.inr (.inl 69))), some (.inr (.inr (.inl 58))), some (.inl y2), some (.inl y3)] [] (jxSH, a, b0)) (jQ_X7_take_r58 x2 a0 b0) := fun y2 y3 a hlt i0 i1 i2 i3 i4 i5 i6 i7 => (ih _ hlt).2.1 y2 y3 a (Nat.le_refl _) i0 i1 i2 i3 i4 i5 i6 i7
  have ih2 : ∀ (y2 y3 : Int) (a : Nat → Nat → Int), (((40 - y3) * 1) + 0).toNat < n → iv a → jfr jW_X7_take_r58 a0 a → 0 ≤ y3 → y3 ≤ 40 → y2 = x2 → 0 ≤ y3 → (∀ m : Nat, (m : Int) < y3 → a 70 m = 0 ∧ a 71 m = 0 ∧ a 72 m = 0 ∧ a 73 m = 0 ∧ a 74 m = 0 ∧ a 75 m = -1) → jt (jxX E d 108 2 [some (.inr (.inr (.inl 69))), some (.inr (.inr (.inl 58))), some (.inl y2), some (.inl y3)] [] (jxSH, a, b0)) (jQ_X7_take_r58 x2 a0 b0) := fun y2 y3 a hlt i0 i1 i2 i3 i4 i5 i6 => (ih _ hlt).2.2 y2 y3 a (Nat.le_refl _) i0 i1 i2 i3 i4 i5 i6
  have hc50 : ∀ (y2 y3 : Int) (a : Nat → Nat → Int), (((40 - y3) * 1) + 0).toNat ≤ n → iv a → jfr jW_X7_take_r58 a0 a → 0 ≤ y3 → y3 ≤ 39 → y2 = x2 → 0 ≤ y3 → (∀ m : Nat, (m : Int) < y3 + 1 → a 70 m = 0 ∧ a 71 m = 0 ∧ a 72 m = 0 ∧ a 73 m = 0 ∧ a 74 m = 0 ∧ a 75 m = -1) → jt (jxX E d 108 50 [some (.inr (.inr (.inl 69))), some (.inr (.inr (.inl 58))), some (.inl y2), some (.inl y3)] [] (jxSH, a, b0)) (jQ_X7_take_r58 x2 a0 b0) := by
    intro y2 y3 a hm hv hf hi0 hi1 hi2 hi3 hz
    refine jt_eq (bq_X7_take_r58_50 E d y2 y3 a b0) ?_
    have h463_ : jxw (y3 + 1) = y3 + 1 := jxw_id (by omega) (by omega)
    exact ih2 y2 (jxw (y3 + 1)) a (show (((40 - (jxw (y3 + 1))) * 1) + 0).toNat < n from by omega) hv hf (show 0 ≤ jxw (y3 + 1) from by omega) (show jxw (y3 + 1) ≤ 40 from by omega) (show y2 = x2 from by omega) (show 0 ≤ jxw (y3 + 1) from by omega) (by first | exact (fun m h => absurd h (by omega)) | exact (fun m h => hz m (by omega)))
  have hc29 : ∀ (y2 y3 : Int) (a : Nat → Nat → Int), (((40 - y3) * 1) + 0).toNat ≤ n → iv a → jfr jW_X7_take_r58 a0 a → 0 ≤ y3 → y3 ≤ 39 → y2 = x2 → 0 ≤ y3 → (∀ m : Nat, (m : Int) < y3 → a 70 m = 0 ∧ a 71 m = 0 ∧ a 72 m = 0 ∧ a 73 m = 0 ∧ a 74 m = 0 ∧ a 75 m = -1) → (a 70 y3.toNat = 0 ∧ a 71 y3.toNat = 0 ∧ a 72 y3.toNat = 0) → jt (jxX E d 108 29 [some (.inr (.inr (.inl 69))), some (.inr (.inr (.inl 58))), some (.inl y2), some (.inl y3)] [] (jxSH, a, b0)) (jQ_X7_take_r58 x2 a0 b0) := by
    intro y2 y3 a hm hv hf hi0 hi1 hi2 hi3 hz hz3
    refine jt_eq (bq_X7_take_r58_29 E d y2 y3 a b0) ?_
    refine jt_grd (by omega) ?_
    refine jt_grd (by omega) ?_
    refine jt_grd (by omega) ?_
    have hv464_ : iv (jxu a 73 (y3.toNat) 0) := iv_putf hv rfl
    have hv465_ : iv (jxu (jxu a 73 (y3.toNat) 0) 74 (y3.toNat) 0) := iv_putf hv464_ rfl
    have hv466_ : iv (jxu (jxu (jxu a 73 (y3.toNat) 0) 74 (y3.toNat) 0) 75 (y3.toNat) (-1)) := iv_putf hv465_ rfl
    have hf467_ : jfr jW_X7_take_r58 a0 (jxu a 73 (y3.toNat) 0) := jfr_put hf rfl
    have hf468_ : jfr jW_X7_take_r58 a0 (jxu (jxu a 73 (y3.toNat) 0) 74 (y3.toNat) 0) := jfr_put hf467_ rfl
    have hf469_ : jfr jW_X7_take_r58 a0 (jxu (jxu (jxu a 73 (y3.toNat) 0) 74 (y3.toNat) 0) 75 (y3.toNat) (-1)) := jfr_put hf468_ rfl
    exact hc50 y2 y3 (jxu (jxu (jxu a 73 (y3.toNat) 0) 74 (y3.toNat) 0) 75 (y3.toNat) (-1)) (show (((40 - y3) * 1) + 0).toNat ≤ n from by omega) hv466_ hf469_ (show 0 ≤ y3 from by omega) (show y3 ≤ 39 from by omega) (show y2 = x2 from by omega) (show 0 ≤ y3 from by omega) (fun m h => by by_cases e : m = y3.toNat <;> first | (rw [e]; refine ⟨hz3.1, hz3.2.1, hz3.2.2, ?_, ?_, ?_⟩ <;> (show (if y3.toNat = y3.toNat then _ else _) = _; rw [if_pos rfl])) | (have q := hz m (by omega); refine ⟨q.1, q.2.1, q.2.2.1, ?_, ?_, ?_⟩ <;> (show (if m = y3.toNat then _ else _) = _; rw [if_neg e]) <;> first | exact q.2.2.2.1 | exact q.2.2.2.2.1 | exact q.2.2.2.2.2))
  have hc2 : ∀ (y2 y3 : Int) (a : Nat → Nat → Int), (((40 - y3) * 1) + 0).toNat ≤ n → iv a → jfr jW_X7_take_r58 a0 a → 0 ≤ y3 → y3 ≤ 40 → y2 = x2 → 0 ≤ y3 → (∀ m : Nat, (m : Int) < y3 → a 70 m = 0 ∧ a 71 m = 0 ∧ a 72 m = 0 ∧ a 73 m = 0 ∧ a 74 m = 0 ∧ a 75 m = -1) → jt (jxX E d 108 2 [some (.inr (.inr (.inl 69))), some (.inr (.inr (.inl 58))), some (.inl y2), some (.inl y3)] [] (jxSH, a, b0)) (jQ_X7_take_r58 x2 a0 b0) := by
    intro y2 y3 a hm hv hf hi0 hi1 hi2 hi3 hz
    refine jt_eq (bq_X7_take_r58_2 E d y2 y3 a b0) ?_
    refine jt_ite (fun c470_ => ?_) (fun c470_ => ?_)
    ·
      refine jt_grd (by omega) ?_
      refine jt_grd (by omega) ?_
      refine jt_grd (by omega) ?_
      have hv471_ : iv (jxu a 70 (y3.toNat) 0) := iv_putf hv rfl
      have hv472_ : iv (jxu (jxu a 70 (y3.toNat) 0) 71 (y3.toNat) 0) := iv_putf hv471_ rfl
      have hv473_ : iv (jxu (jxu (jxu a 70 (y3.toNat) 0) 71 (y3.toNat) 0) 72 (y3.toNat) 0) := iv_putf hv472_ rfl
      have hf474_ : jfr jW_X7_take_r58 a0 (jxu a 70 (y3.toNat) 0) := jfr_put hf rfl
      have hf475_ : jfr jW_X7_take_r58 a0 (jxu (jxu a 70 (y3.toNat) 0) 71 (y3.toNat) 0) := jfr_put hf474_ rfl
      have hf476_ : jfr jW_X7_take_r58 a0 (jxu (jxu (jxu a 70 (y3.toNat) 0) 71 (y3.toNat) 0) 72 (y3.toNat) 0) := jfr_put hf475_ rfl
      exact hc29 y2 y3 (jxu (jxu (jxu a 70 (y3.toNat) 0) 71 (y3.toNat) 0) 72 (y3.toNat) 0) (show (((40 - y3) * 1) + 0).toNat ≤ n from by omega) hv473_ hf476_ (show 0 ≤ y3 from by omega) (show y3 ≤ 39 from by omega) (show y2 = x2 from by omega) (show 0 ≤ y3 from by omega) (fun m h => by have q := hz m (by omega); refine ⟨?_, ?_, ?_, q.2.2.2.1, q.2.2.2.2.1, q.2.2.2.2.2⟩ <;> (show (if m = y3.toNat then 0 else _) = 0; rw [if_neg (by omega)]) <;> first | exact q.1 | exact q.2.1 | exact q.2.2.1) (by refine ⟨?_, ?_, ?_⟩ <;> (show (if y3.toNat = y3.toNat then 0 else _) = 0; rw [if_pos rfl]))
    ·
      have h477_ := iv_get hv (k := 58) (j := 8) (l := 0) (u := 300) rfl
      have h478_ : a 58 8 = a0 58 8 := hf 58 8 rfl
      have h479_ := iv_get hv0 (k := 58) (j := 8) (l := 0) (u := 300) rfl
      exact (cp_X7_take_r58_58 E d hd x2 a0 b0 hv0 _).2 y2 0 a (Nat.le_refl _) hv hf (show 0 ≤ 0 from by omega) (show 0 ≤ 300 from by omega) (show y2 = x2 from by omega) (show 0 ≤ 0 from by omega) (show 0 ≤ a 58 8 from by omega) (by first | exact TSUM_0 (fun m h => hz m (by omega)) | (rw [show (jxw (y3 + 1)).toNat = y3.toNat + 1 from by omega]; exact hts))
  exact ⟨hc50, hc29, hc2⟩
theorem sp_X7_take_r58 (E : jxE) (d : Nat) (hd : Nat.ble 4 d = true) (x2 : Int) (a0 b0 : Nat → Nat → Int) (hv0 : iv a0) : jt (jxC E d 108 [.inr (.inr (.inl 69)), .inr (.inr (.inl 58)), .inl x2] (jxSH, a0, b0)) (jQ_X7_take_r58 x2 a0 b0) := by
  obtain ⟨d, rfl⟩ := jd_succ hd
  refine jt_eq (bq_X7_take_r58 E d x2 a0 b0) ?_
  exact (cp_X7_take_r58_2 E d hd x2 a0 b0 hv0 _).2.2 x2 0 a0 (Nat.le_refl _) hv0 (jfr_rf _ _) (show 0 ≤ 0 from by omega) (show 0 ≤ 40 from by omega) (show x2 = x2 from by omega) (show 0 ≤ 0 from by omega) (by first | exact (fun m h => absurd h (by omega)) | exact (fun m h => hz m (by omega)))
def jW_X11_about : List (Nat × Nat) := [(70, 9999), (71, 9999), (72, 9999), (73, 9999), (74, 9999), (75, 9999)]
abbrev jQ_X11_about (x1 x2 : Int) (a0 b0 : Nat → Nat → Int) : List jxV → (Nat → Nat → Int) → (Nat → Nat → Int) → Prop := rI (fun r a b => (iv a) ∧ (jfr jW_X11_about a0 a) ∧ (b0 = b) ∧ ((a0 4 6 = 0 → ((x2 = 5 ∧ r = 0 - 1000) ∨ (¬ x2 = 5 ∧ r = 0 - 1)))) ∧ (0 ≤ x1 ∧ x1 < a0 4 6 → ∃ a1, jfr jWtk a0 a1 ∧ TSUM a0 b0 (a0 0 0) a1 (a0 58 8).toNat ∧ (x2 = 0 → r = f_X7_givenBy a1 b0 x1) ∧ (x2 = 1 → r = f_X7_gotBy a1 b0 x1) ∧ (x2 = 2 → r = f_X7_comingTo a1 b0 x1) ∧ (x2 = 3 → r = f_X7_outOf a1 b0 x1) ∧ (x2 = 4 → r = f_X3_creditOf a1 b0 x1) ∧ (x2 = 5 → r = f_X11_owed a1 b0 x1) ∧ (x2 = 6 → r = (if f_X11_mayAsk a1 b0 x1 = 0 then 0 else 1)) ∧ (x2 = 7 → r = f_X3_landOf a1 b0 x1) ∧ (x2 = 8 → r = (if f_X3_isThere a1 b0 x1 = 0 then 0 else 1)) ∧ (x2 = 9 → r = f_X3_cameOnOf a1 b0 x1) ∧ (x2 = 10 → r = f_X7_lostOf a1 b0 x1) ∧ (x2 < 0 ∨ 10 < x2 → r = -1)) ∧ (¬ (0 ≤ x1 ∧ x1 < a0 4 6) → r = if x2 = 5 then -1000 else -1) ∧ (cvC a = cvC a0))
theorem cp_X11_about_100 (E : jxE) (d : Nat) (hd : Nat.ble 5 (d + 1) = true) (x1 x2 : Int) (a0 b0 : Nat → Nat → Int) (hv0 : iv a0) : ∀ (y1 : Int) (a : Nat → Nat → Int), iv a → jfr jW_X11_about a0 a → 0 ≤ y1 → y1 ≤ 39 → (jfr jWtk a0 a) → (TSUM a0 b0 (a0 0 0) a (a0 58 8).toNat) → (0 ≤ x1 ∧ x1 < a 4 6) → (y1 = x1) → x2 = 0 → 1 ≤ a0 4 6 → jt (jxX E d 181 100 [some (.inr (.inr (.inl 0))), some (.inl y1), none] [] (jxSH, a, b0)) (jQ_X11_about x1 x2 a0 b0) := by
  intro y1 a hv hf hi0 hi1 hfe hts hi4 hy1 hi6 hi7
  refine jt_eq (bq_X11_about_100 E d y1 a b0) ?_
  have h480_ := iv_get hv (k := 4) (j := 6) (l := 0) (u := 40) rfl
  have h481_ : a 4 6 = a0 4 6 := hf 4 6 rfl
  have h482_ := iv_get hv0 (k := 4) (j := 6) (l := 0) (u := 40) rfl
  refine jt_eI (eq_X7_givenBy E d (jd_le hd rfl) y1 a b0) ?_
  have h483_ := f_X7_givenBy_eq a b0 y1
  have h484_ := f_X11_entry_r70_eq a b0 40 y1
  exact jt_rI ⟨hv, hf, rfl, (show (a0 4 6 = 0 → ((x2 = 5 ∧ f_X7_givenBy a b0 y1 = 0 - 1000) ∨ (¬ x2 = 5 ∧ f_X7_givenBy a b0 y1 = 0 - 1))) from by omega), (fun _ => ⟨a, hfe, hts, (fun _ => by rw [← hy1]; first | done | rw [if_pos (by assumption)] | rw [if_neg (by assumption)]), (fun h => absurd (by omega : False) id), (fun h => absurd (by omega : False) id), (fun h => absurd (by omega : False) id), (fun h => absurd (by omega : False) id), (fun h => absurd (by omega : False) id), (fun h => absurd (by omega : False) id), (fun h => absurd (by omega : False) id), (fun h => absurd (by omega : False) id), (fun h => absurd (by omega : False) id), (fun h => absurd (by omega : False) id), (fun h => absurd (by omega : False) id)⟩), (fun h => absurd (by omega) h), (cvC_fr hfe rfl)⟩
theorem cp_X11_about_109 (E : jxE) (d : Nat) (hd : Nat.ble 5 (d + 1) = true) (x1 x2 : Int) (a0 b0 : Nat → Nat → Int) (hv0 : iv a0) : ∀ (y1 : Int) (a : Nat → Nat → Int), iv a → jfr jW_X11_about a0 a → 0 ≤ y1 → y1 ≤ 39 → (jfr jWtk a0 a) → (TSUM a0 b0 (a0 0 0) a (a0 58 8).toNat) → (0 ≤ x1 ∧ x1 < a 4 6) → (y1 = x1) → x2 = 1 → 1 ≤ a0 4 6 → jt (jxX E d 181 109 [some (.inr (.inr (.inl 0))), some (.inl y1), none] [] (jxSH, a, b0)) (jQ_X11_about x1 x2 a0 b0) := by
  intro y1 a hv hf hi0 hi1 hfe hts hi4 hy1 hi6 hi7
  refine jt_eq (bq_X11_about_109 E d y1 a b0) ?_
  have h485_ := iv_get hv (k := 4) (j := 6) (l := 0) (u := 40) rfl
  have h486_ : a 4 6 = a0 4 6 := hf 4 6 rfl
  have h487_ := iv_get hv0 (k := 4) (j := 6) (l := 0) (u := 40) rfl
  refine jt_eI (eq_X7_gotBy E d (jd_le hd rfl) y1 a b0) ?_
  have h488_ := f_X7_gotBy_eq a b0 y1
  have h489_ := f_X11_entry_r71_eq a b0 40 y1
  exact jt_rI ⟨hv, hf, rfl, (show (a0 4 6 = 0 → ((x2 = 5 ∧ f_X7_gotBy a b0 y1 = 0 - 1000) ∨ (¬ x2 = 5 ∧ f_X7_gotBy a b0 y1 = 0 - 1))) from by omega), (fun _ => ⟨a, hfe, hts, (fun h => absurd (by omega : False) id), (fun _ => by rw [← hy1]; first | done | rw [if_pos (by assumption)] | rw [if_neg (by assumption)]), (fun h => absurd (by omega : False) id), (fun h => absurd (by omega : False) id), (fun h => absurd (by omega : False) id), (fun h => absurd (by omega : False) id), (fun h => absurd (by omega : False) id), (fun h => absurd (by omega : False) id), (fun h => absurd (by omega : False) id), (fun h => absurd (by omega : False) id), (fun h => absurd (by omega : False) id), (fun h => absurd (by omega : False) id)⟩), (fun h => absurd (by omega) h), (cvC_fr hfe rfl)⟩
theorem cp_X11_about_118 (E : jxE) (d : Nat) (hd : Nat.ble 5 (d + 1) = true) (x1 x2 : Int) (a0 b0 : Nat → Nat → Int) (hv0 : iv a0) : ∀ (y1 : Int) (a : Nat → Nat → Int), iv a → jfr jW_X11_about a0 a → 0 ≤ y1 → y1 ≤ 39 → (jfr jWtk a0 a) → (TSUM a0 b0 (a0 0 0) a (a0 58 8).toNat) → (0 ≤ x1 ∧ x1 < a 4 6) → (y1 = x1) → x2 = 2 → 1 ≤ a0 4 6 → jt (jxX E d 181 118 [some (.inr (.inr (.inl 0))), some (.inl y1), none] [] (jxSH, a, b0)) (jQ_X11_about x1 x2 a0 b0) := by
  intro y1 a hv hf hi0 hi1 hfe hts hi4 hy1 hi6 hi7
  refine jt_eq (bq_X11_about_118 E d y1 a b0) ?_
  have h490_ := iv_get hv (k := 4) (j := 6) (l := 0) (u := 40) rfl
  have h491_ : a 4 6 = a0 4 6 := hf 4 6 rfl
  have h492_ := iv_get hv0 (k := 4) (j := 6) (l := 0) (u := 40) rfl
  refine jt_eI (eq_X7_comingTo E d (jd_le hd rfl) y1 a b0) ?_
  have h493_ := f_X7_comingTo_eq a b0 y1
  have h494_ := f_X11_entry_r72_eq a b0 40 y1
  exact jt_rI ⟨hv, hf, rfl, (show (a0 4 6 = 0 → ((x2 = 5 ∧ f_X7_comingTo a b0 y1 = 0 - 1000) ∨ (¬ x2 = 5 ∧ f_X7_comingTo a b0 y1 = 0 - 1))) from by omega), (fun _ => ⟨a, hfe, hts, (fun h => absurd (by omega : False) id), (fun h => absurd (by omega : False) id), (fun _ => by rw [← hy1]; first | done | rw [if_pos (by assumption)] | rw [if_neg (by assumption)]), (fun h => absurd (by omega : False) id), (fun h => absurd (by omega : False) id), (fun h => absurd (by omega : False) id), (fun h => absurd (by omega : False) id), (fun h => absurd (by omega : False) id), (fun h => absurd (by omega : False) id), (fun h => absurd (by omega : False) id), (fun h => absurd (by omega : False) id), (fun h => absurd (by omega : False) id)⟩), (fun h => absurd (by omega) h), (cvC_fr hfe rfl)⟩
theorem cp_X11_about_127 (E : jxE) (d : Nat) (hd : Nat.ble 5 (d + 1) = true) (x1 x2 : Int) (a0 b0 : Nat → Nat → Int) (hv0 : iv a0) : ∀ (y1 : Int) (a : Nat → Nat → Int), iv a → jfr jW_X11_about a0 a → 0 ≤ y1 → y1 ≤ 39 → (jfr jWtk a0 a) → (TSUM a0 b0 (a0 0 0) a (a0 58 8).toNat) → (0 ≤ x1 ∧ x1 < a 4 6) → (y1 = x1) → x2 = 3 → 1 ≤ a0 4 6 → jt (jxX E d 181 127 [some (.inr (.inr (.inl 0))), some (.inl y1), none] [] (jxSH, a, b0)) (jQ_X11_about x1 x2 a0 b0) := by
  intro y1 a hv hf hi0 hi1 hfe hts hi4 hy1 hi6 hi7
  refine jt_eq (bq_X11_about_127 E d y1 a b0) ?_
  have h495_ := iv_get hv (k := 4) (j := 6) (l := 0) (u := 40) rfl
  have h496_ : a 4 6 = a0 4 6 := hf 4 6 rfl
  have h497_ := iv_get hv0 (k := 4) (j := 6) (l := 0) (u := 40) rfl
  refine jt_eI (eq_X7_outOf E d (jd_le hd rfl) y1 a b0) ?_
  have h498_ := f_X7_outOf_eq a b0 y1
  have h499_ := f_X11_entry_r73_eq a b0 40 y1
  exact jt_rI ⟨hv, hf, rfl, (show (a0 4 6 = 0 → ((x2 = 5 ∧ f_X7_outOf a b0 y1 = 0 - 1000) ∨ (¬ x2 = 5 ∧ f_X7_outOf a b0 y1 = 0 - 1))) from by omega), (fun _ => ⟨a, hfe, hts, (fun h => absurd (by omega : False) id), (fun h => absurd (by omega : False) id), (fun h => absurd (by omega : False) id), (fun _ => by rw [← hy1]; first | done | rw [if_pos (by assumption)] | rw [if_neg (by assumption)]), (fun h => absurd (by omega : False) id), (fun h => absurd (by omega : False) id), (fun h => absurd (by omega : False) id), (fun h => absurd (by omega : False) id), (fun h => absurd (by omega : False) id), (fun h => absurd (by omega : False) id), (fun h => absurd (by omega : False) id), (fun h => absurd (by omega : False) id)⟩), (fun h => absurd (by omega) h), (cvC_fr hfe rfl)⟩
theorem cp_X11_about_136 (E : jxE) (d : Nat) (hd : Nat.ble 5 (d + 1) = true) (x1 x2 : Int) (a0 b0 : Nat → Nat → Int) (hv0 : iv a0) : ∀ (y1 : Int) (a : Nat → Nat → Int), iv a → jfr jW_X11_about a0 a → 0 ≤ y1 → y1 ≤ 39 → (jfr jWtk a0 a) → (TSUM a0 b0 (a0 0 0) a (a0 58 8).toNat) → (0 ≤ x1 ∧ x1 < a 4 6) → (y1 = x1) → x2 = 4 → 1 ≤ a0 4 6 → jt (jxX E d 181 136 [some (.inr (.inr (.inl 0))), some (.inl y1), none] [] (jxSH, a, b0)) (jQ_X11_about x1 x2 a0 b0) := by
  intro y1 a hv hf hi0 hi1 hfe hts hi4 hy1 hi6 hi7
  refine jt_eq (bq_X11_about_136 E d y1 a b0) ?_
  have h500_ := iv_get hv (k := 4) (j := 6) (l := 0) (u := 40) rfl
  have h501_ : a 4 6 = a0 4 6 := hf 4 6 rfl
  have h502_ := iv_get hv0 (k := 4) (j := 6) (l := 0) (u := 40) rfl
  refine jt_eI (eq_X3_creditOf E d (jd_le hd rfl) y1 a b0) ?_
  have h503_ := f_X3_creditOf_eq a b0 y1
  have h504_ := f_X3_has_eq a b0 y1
  have h505_ : a 9 (y1.toNat) = a0 9 (y1.toNat) := hf 9 (y1.toNat) rfl
  exact jt_rI ⟨hv, hf, rfl, (show (a0 4 6 = 0 → ((x2 = 5 ∧ f_X3_creditOf a b0 y1 = 0 - 1000) ∨ (¬ x2 = 5 ∧ f_X3_creditOf a b0 y1 = 0 - 1))) from by omega), (fun _ => ⟨a, hfe, hts, (fun h => absurd (by omega : False) id), (fun h => absurd (by omega : False) id), (fun h => absurd (by omega : False) id), (fun h => absurd (by omega : False) id), (fun _ => by rw [← hy1]; first | done | rw [if_pos (by assumption)] | rw [if_neg (by assumption)]), (fun h => absurd (by omega : False) id), (fun h => absurd (by omega : False) id), (fun h => absurd (by omega : False) id), (fun h => absurd (by omega : False) id), (fun h => absurd (by omega : False) id), (fun h => absurd (by omega : False) id), (fun h => absurd (by omega : False) id)⟩), (fun h => absurd (by omega) h), (cvC_fr hfe rfl)⟩
theorem cp_X11_about_145 (E : jxE) (d : Nat) (hd : Nat.ble 5 (d + 1) = true) (x1 x2 : Int) (a0 b0 : Nat → Nat → Int) (hv0 : iv a0) : ∀ (y1 : Int) (a : Nat → Nat → Int), iv a → jfr jW_X11_about a0 a → 0 ≤ y1 → y1 ≤ 39 → (jfr jWtk a0 a) → (TSUM a0 b0 (a0 0 0) a (a0 58 8).toNat) → (0 ≤ x1 ∧ x1 < a 4 6) → (y1 = x1) → x2 = 5 → 1 ≤ a0 4 6 → jt (jxX E d 181 145 [some (.inr (.inr (.inl 0))), some (.inl y1), none] [] (jxSH, a, b0)) (jQ_X11_about x1 x2 a0 b0) := by
  intro y1 a hv hf hi0 hi1 hfe hts hi4 hy1 hi6 hi7
  refine jt_eq (bq_X11_about_145 E d y1 a b0) ?_
  have h506_ := iv_get hv (k := 4) (j := 6) (l := 0) (u := 40) rfl
  have h507_ : a 4 6 = a0 4 6 := hf 4 6 rfl
  have h508_ := iv_get hv0 (k := 4) (j := 6) (l := 0) (u := 40) rfl
  refine jt_eI (eq_X11_owed E d (jd_le hd rfl) y1 a b0) ?_
  have h509_ := f_X11_owed_eq a b0 y1
  have h510_ := f_X7_givenBy_eq a b0 y1
  have h511_ := f_X11_entry_r70_eq a b0 40 y1
  have h512_ := f_X3_creditOf_eq a b0 y1
  have h513_ := f_X3_has_eq a b0 y1
  have h514_ : a 9 (y1.toNat) = a0 9 (y1.toNat) := hf 9 (y1.toNat) rfl
  have h515_ := jxw_im ((f_X7_givenBy a b0 y1) + (f_X3_creditOf a b0 y1))
  have h516_ := jxw_rg ((f_X7_givenBy a b0 y1) + (f_X3_creditOf a b0 y1))
  have h517_ := f_X7_gotBy_eq a b0 y1
  have h518_ := f_X11_entry_r71_eq a b0 40 y1
  have h519_ := jxw_im ((jxw ((f_X7_givenBy a b0 y1) + (f_X3_creditOf a b0 y1))) - (f_X7_gotBy a b0 y1))
  have h520_ := jxw_rg ((jxw ((f_X7_givenBy a b0 y1) + (f_X3_creditOf a b0 y1))) - (f_X7_gotBy a b0 y1))
  have h521_ := f_X7_comingTo_eq a b0 y1
  have h522_ := f_X11_entry_r72_eq a b0 40 y1
  have h523_ := jxw_im ((jxw ((jxw ((f_X7_givenBy a b0 y1) + (f_X3_creditOf a b0 y1))) - (f_X7_gotBy a b0 y1))) - (f_X7_comingTo a b0 y1))
  have h524_ := jxw_rg ((jxw ((jxw ((f_X7_givenBy a b0 y1) + (f_X3_creditOf a b0 y1))) - (f_X7_gotBy a b0 y1))) - (f_X7_comingTo a b0 y1))
  exact jt_rI ⟨hv, hf, rfl, (show (a0 4 6 = 0 → ((x2 = 5 ∧ f_X11_owed a b0 y1 = 0 - 1000) ∨ (¬ x2 = 5 ∧ f_X11_owed a b0 y1 = 0 - 1))) from by omega), (fun _ => ⟨a, hfe, hts, (fun h => absurd (by omega : False) id), (fun h => absurd (by omega : False) id), (fun h => absurd (by omega : False) id), (fun h => absurd (by omega : False) id), (fun h => absurd (by omega : False) id), (fun _ => by rw [← hy1]; first | done | rw [if_pos (by assumption)] | rw [if_neg (by assumption)]), (fun h => absurd (by omega : False) id), (fun h => absurd (by omega : False) id), (fun h => absurd (by omega : False) id), (fun h => absurd (by omega : False) id), (fun h => absurd (by omega : False) id), (fun h => absurd (by omega : False) id)⟩), (fun h => absurd (by omega) h), (cvC_fr hfe rfl)⟩
theorem cp_X11_about_151 (E : jxE) (d : Nat) (hd : Nat.ble 5 (d + 1) = true) (x1 x2 : Int) (a0 b0 : Nat → Nat → Int) (hv0 : iv a0) : ∀ (y1 : Int) (a : Nat → Nat → Int), iv a → jfr jW_X11_about a0 a → 0 ≤ y1 → y1 ≤ 39 → (jfr jWtk a0 a) → (TSUM a0 b0 (a0 0 0) a (a0 58 8).toNat) → (0 ≤ x1 ∧ x1 < a 4 6) → (y1 = x1) → x2 = 6 → 1 ≤ a0 4 6 → jt (jxX E d 181 151 [some (.inr (.inr (.inl 0))), some (.inl y1), none] [] (jxSH, a, b0)) (jQ_X11_about x1 x2 a0 b0) := by
  intro y1 a hv hf hi0 hi1 hfe hts hi4 hy1 hi6 hi7
  refine jt_eq (bq_X11_about_151 E d y1 a b0) ?_
  have h525_ := iv_get hv (k := 4) (j := 6) (l := 0) (u := 40) rfl
  have h526_ : a 4 6 = a0 4 6 := hf 4 6 rfl
  have h527_ := iv_get hv0 (k := 4) (j := 6) (l := 0) (u := 40) rfl
  refine jt_eI (eq_X11_mayAsk E d (jd_le hd rfl) y1 a b0) ?_
  have h528_ := f_X11_mayAsk_bool a b0 y1
  refine jt_ite (fun c529_ => ?_) (fun c529_ => ?_)
  ·
    exact jt_rI ⟨hv, hf, rfl, (show (a0 4 6 = 0 → ((x2 = 5 ∧ 0 = 0 - 1000) ∨ (¬ x2 = 5 ∧ 0 = 0 - 1))) from by omega), (fun _ => ⟨a, hfe, hts, (fun h => absurd (by omega : False) id), (fun h => absurd (by omega : False) id), (fun h => absurd (by omega : False) id), (fun h => absurd (by omega : False) id), (fun h => absurd (by omega : False) id), (fun h => absurd (by omega : False) id), (fun _ => by rw [← hy1]; first | done | rw [if_pos (by assumption)] | rw [if_neg (by assumption)]), (fun h => absurd (by omega : False) id), (fun h => absurd (by omega : False) id), (fun h => absurd (by omega : False) id), (fun h => absurd (by omega : False) id), (fun h => absurd (by omega : False) id)⟩), (fun h => absurd (by omega) h), (cvC_fr hfe rfl)⟩
  ·
    exact jt_rI ⟨hv, hf, rfl, (show (a0 4 6 = 0 → ((x2 = 5 ∧ 1 = 0 - 1000) ∨ (¬ x2 = 5 ∧ 1 = 0 - 1))) from by omega), (fun _ => ⟨a, hfe, hts, (fun h => absurd (by omega : False) id), (fun h => absurd (by omega : False) id), (fun h => absurd (by omega : False) id), (fun h => absurd (by omega : False) id), (fun h => absurd (by omega : False) id), (fun h => absurd (by omega : False) id), (fun _ => by rw [← hy1]; first | done | rw [if_pos (by assumption)] | rw [if_neg (by assumption)]), (fun h => absurd (by omega : False) id), (fun h => absurd (by omega : False) id), (fun h => absurd (by omega : False) id), (fun h => absurd (by omega : False) id), (fun h => absurd (by omega : False) id)⟩), (fun h => absurd (by omega) h), (cvC_fr hfe rfl)⟩
theorem cp_X11_about_165 (E : jxE) (d : Nat) (hd : Nat.ble 5 (d + 1) = true) (x1 x2 : Int) (a0 b0 : Nat → Nat → Int) (hv0 : iv a0) : ∀ (y1 : Int) (a : Nat → Nat → Int), iv a → jfr jW_X11_about a0 a → 0 ≤ y1 → y1 ≤ 39 → (jfr jWtk a0 a) → (TSUM a0 b0 (a0 0 0) a (a0 58 8).toNat) → (0 ≤ x1 ∧ x1 < a 4 6) → (y1 = x1) → x2 = 7 → 1 ≤ a0 4 6 → jt (jxX E d 181 165 [some (.inr (.inr (.inl 0))), some (.inl y1), none] [] (jxSH, a, b0)) (jQ_X11_about x1 x2 a0 b0) := by
  intro y1 a hv hf hi0 hi1 hfe hts hi4 hy1 hi6 hi7
  refine jt_eq (bq_X11_about_165 E d y1 a b0) ?_
  have h530_ := iv_get hv (k := 4) (j := 6) (l := 0) (u := 40) rfl
  have h531_ : a 4 6 = a0 4 6 := hf 4 6 rfl
  have h532_ := iv_get hv0 (k := 4) (j := 6) (l := 0) (u := 40) rfl
  refine jt_eI (eq_X3_landOf E d (jd_le hd rfl) y1 a b0) ?_
  have h533_ := f_X3_landOf_eq a b0 y1
  have h534_ := f_X11_entry_r5_eq a b0 (a 4 6) y1
  have h535_ : a 5 (y1.toNat) = a0 5 (y1.toNat) := hf 5 (y1.toNat) rfl
  exact jt_rI ⟨hv, hf, rfl, (show (a0 4 6 = 0 → ((x2 = 5 ∧ f_X3_landOf a b0 y1 = 0 - 1000) ∨ (¬ x2 = 5 ∧ f_X3_landOf a b0 y1 = 0 - 1))) from by omega), (fun _ => ⟨a, hfe, hts, (fun h => absurd (by omega : False) id), (fun h => absurd (by omega : False) id), (fun h => absurd (by omega : False) id), (fun h => absurd (by omega : False) id), (fun h => absurd (by omega : False) id), (fun h => absurd (by omega : False) id), (fun h => absurd (by omega : False) id), (fun _ => by rw [← hy1]; first | done | rw [if_pos (by assumption)] | rw [if_neg (by assumption)]), (fun h => absurd (by omega : False) id), (fun h => absurd (by omega : False) id), (fun h => absurd (by omega : False) id), (fun h => absurd (by omega : False) id)⟩), (fun h => absurd (by omega) h), (cvC_fr hfe rfl)⟩
theorem cp_X11_about_174 (E : jxE) (d : Nat) (hd : Nat.ble 5 (d + 1) = true) (x1 x2 : Int) (a0 b0 : Nat → Nat → Int) (hv0 : iv a0) : ∀ (y1 : Int) (a : Nat → Nat → Int), iv a → jfr jW_X11_about a0 a → 0 ≤ y1 → y1 ≤ 39 → (jfr jWtk a0 a) → (TSUM a0 b0 (a0 0 0) a (a0 58 8).toNat) → (0 ≤ x1 ∧ x1 < a 4 6) → (y1 = x1) → x2 = 8 → 1 ≤ a0 4 6 → jt (jxX E d 181 174 [some (.inr (.inr (.inl 0))), some (.inl y1), none] [] (jxSH, a, b0)) (jQ_X11_about x1 x2 a0 b0) := by
  intro y1 a hv hf hi0 hi1 hfe hts hi4 hy1 hi6 hi7
  refine jt_eq (bq_X11_about_174 E d y1 a b0) ?_
  have h536_ := iv_get hv (k := 4) (j := 6) (l := 0) (u := 40) rfl
  have h537_ : a 4 6 = a0 4 6 := hf 4 6 rfl
  have h538_ := iv_get hv0 (k := 4) (j := 6) (l := 0) (u := 40) rfl
  refine jt_eI (eq_X3_isThere E d (jd_le hd rfl) y1 a b0) ?_
  have h539_ := f_X3_isThere_eq a b0 y1
  have h540_ := f_X3_has_eq a b0 y1
  have h541_ : a 10 (y1.toNat) = a0 10 (y1.toNat) := hf 10 (y1.toNat) rfl
  refine jt_ite (fun c542_ => ?_) (fun c542_ => ?_)
  ·
    exact jt_rI ⟨hv, hf, rfl, (show (a0 4 6 = 0 → ((x2 = 5 ∧ 0 = 0 - 1000) ∨ (¬ x2 = 5 ∧ 0 = 0 - 1))) from by omega), (fun _ => ⟨a, hfe, hts, (fun h => absurd (by omega : False) id), (fun h => absurd (by omega : False) id), (fun h => absurd (by omega : False) id), (fun h => absurd (by omega : False) id), (fun h => absurd (by omega : False) id), (fun h => absurd (by omega : False) id), (fun h => absurd (by omega : False) id), (fun h => absurd (by omega : False) id), (fun _ => by rw [← hy1]; first | done | rw [if_pos (by assumption)] | rw [if_neg (by assumption)]), (fun h => absurd (by omega : False) id), (fun h => absurd (by omega : False) id), (fun h => absurd (by omega : False) id)⟩), (fun h => absurd (by omega) h), (cvC_fr hfe rfl)⟩
  ·
    exact jt_rI ⟨hv, hf, rfl, (show (a0 4 6 = 0 → ((x2 = 5 ∧ 1 = 0 - 1000) ∨ (¬ x2 = 5 ∧ 1 = 0 - 1))) from by omega), (fun _ => ⟨a, hfe, hts, (fun h => absurd (by omega : False) id), (fun h => absurd (by omega : False) id), (fun h => absurd (by omega : False) id), (fun h => absurd (by omega : False) id), (fun h => absurd (by omega : False) id), (fun h => absurd (by omega : False) id), (fun h => absurd (by omega : False) id), (fun h => absurd (by omega : False) id), (fun _ => by rw [← hy1]; first | done | rw [if_pos (by assumption)] | rw [if_neg (by assumption)]), (fun h => absurd (by omega : False) id), (fun h => absurd (by omega : False) id), (fun h => absurd (by omega : False) id)⟩), (fun h => absurd (by omega) h), (cvC_fr hfe rfl)⟩
theorem cp_X11_about_191 (E : jxE) (d : Nat) (hd : Nat.ble 5 (d + 1) = true) (x1 x2 : Int) (a0 b0 : Nat → Nat → Int) (hv0 : iv a0) : ∀ (y1 : Int) (a : Nat → Nat → Int), iv a → jfr jW_X11_about a0 a → 0 ≤ y1 → y1 ≤ 39 → (jfr jWtk a0 a) → (TSUM a0 b0 (a0 0 0) a (a0 58 8).toNat) → (0 ≤ x1 ∧ x1 < a 4 6) → (y1 = x1) → x2 = 9 → 1 ≤ a0 4 6 → jt (jxX E d 181 191 [some (.inr (.inr (.inl 0))), some (.inl y1), none] [] (jxSH, a, b0)) (jQ_X11_about x1 x2 a0 b0) := by
  intro y1 a hv hf hi0 hi1 hfe hts hi4 hy1 hi6 hi7
  refine jt_eq (bq_X11_about_191 E d y1 a b0) ?_
  have h543_ := iv_get hv (k := 4) (j := 6) (l := 0) (u := 40) rfl
  have h544_ : a 4 6 = a0 4 6 := hf 4 6 rfl
  have h545_ := iv_get hv0 (k := 4) (j := 6) (l := 0) (u := 40) rfl
  refine jt_eI (eq_X3_cameOnOf E d (jd_le hd rfl) y1 a b0) ?_
  have h546_ := f_X3_cameOnOf_eq a b0 y1
  have h547_ := f_X11_entry_r8_eq a b0 (a 4 6) y1
  have h548_ : a 8 (y1.toNat) = a0 8 (y1.toNat) := hf 8 (y1.toNat) rfl
  exact jt_rI ⟨hv, hf, rfl, (show (a0 4 6 = 0 → ((x2 = 5 ∧ f_X3_cameOnOf a b0 y1 = 0 - 1000) ∨ (¬ x2 = 5 ∧ f_X3_cameOnOf a b0 y1 = 0 - 1))) from by omega), (fun _ => ⟨a, hfe, hts, (fun h => absurd (by omega : False) id), (fun h => absurd (by omega : False) id), (fun h => absurd (by omega : False) id), (fun h => absurd (by omega : False) id), (fun h => absurd (by omega : False) id), (fun h => absurd (by omega : False) id), (fun h => absurd (by omega : False) id), (fun h => absurd (by omega : False) id), (fun h => absurd (by omega : False) id), (fun _ => by rw [← hy1]; first | done | rw [if_pos (by assumption)] | rw [if_neg (by assumption)]), (fun h => absurd (by omega : False) id), (fun h => absurd (by omega : False) id)⟩), (fun h => absurd (by omega) h), (cvC_fr hfe rfl)⟩
theorem cp_X11_about_200 (E : jxE) (d : Nat) (hd : Nat.ble 5 (d + 1) = true) (x1 x2 : Int) (a0 b0 : Nat → Nat → Int) (hv0 : iv a0) : ∀ (y1 : Int) (a : Nat → Nat → Int), iv a → jfr jW_X11_about a0 a → 0 ≤ y1 → y1 ≤ 39 → (jfr jWtk a0 a) → (TSUM a0 b0 (a0 0 0) a (a0 58 8).toNat) → (0 ≤ x1 ∧ x1 < a 4 6) → (y1 = x1) → x2 = 10 → 1 ≤ a0 4 6 → jt (jxX E d 181 200 [some (.inr (.inr (.inl 0))), some (.inl y1), none] [] (jxSH, a, b0)) (jQ_X11_about x1 x2 a0 b0) := by
  intro y1 a hv hf hi0 hi1 hfe hts hi4 hy1 hi6 hi7
  refine jt_eq (bq_X11_about_200 E d y1 a b0) ?_
  have h549_ := iv_get hv (k := 4) (j := 6) (l := 0) (u := 40) rfl
  have h550_ : a 4 6 = a0 4 6 := hf 4 6 rfl
  have h551_ := iv_get hv0 (k := 4) (j := 6) (l := 0) (u := 40) rfl
  refine jt_eI (eq_X7_lostOf E d (jd_le hd rfl) y1 a b0) ?_
  have h552_ := f_X7_lostOf_eq a b0 y1
  have h553_ := f_X11_entry_r74_eq a b0 40 y1
  exact jt_rI ⟨hv, hf, rfl, (show (a0 4 6 = 0 → ((x2 = 5 ∧ f_X7_lostOf a b0 y1 = 0 - 1000) ∨ (¬ x2 = 5 ∧ f_X7_lostOf a b0 y1 = 0 - 1))) from by omega), (fun _ => ⟨a, hfe, hts, (fun h => absurd (by omega : False) id), (fun h => absurd (by omega : False) id), (fun h => absurd (by omega : False) id), (fun h => absurd (by omega : False) id), (fun h => absurd (by omega : False) id), (fun h => absurd (by omega : False) id), (fun h => absurd (by omega : False) id), (fun h => absurd (by omega : False) id), (fun h => absurd (by omega : False) id), (fun h => absurd (by omega : False) id), (fun _ => by rw [← hy1]; first | done | rw [if_pos (by assumption)] | rw [if_neg (by assumption)]), (fun h => absurd (by omega : False) id)⟩), (fun h => absurd (by omega) h), (cvC_fr hfe rfl)⟩
theorem cp_X11_about_209 (E : jxE) (d : Nat) (hd : Nat.ble 5 (d + 1) = true) (x1 x2 : Int) (a0 b0 : Nat → Nat → Int) (hv0 : iv a0) : ∀ (a : Nat → Nat → Int), iv a → jfr jW_X11_about a0 a → (jfr jWtk a0 a) → (TSUM a0 b0 (a0 0 0) a (a0 58 8).toNat) → (0 ≤ x1 ∧ x1 < a 4 6) → (x2 < 0 ∨ 10 < x2) → 1 ≤ a0 4 6 → jt (jxX E d 181 209 [none, none, none] [] (jxSH, a, b0)) (jQ_X11_about x1 x2 a0 b0) := by
  intro a hv hf hfe hts hi2 hi3 hi4
  refine jt_eq (bq_X11_about_209 E d a b0) ?_
  have h554_ := iv_get hv (k := 4) (j := 6) (l := 0) (u := 40) rfl
  have h555_ : a 4 6 = a0 4 6 := hf 4 6 rfl
  have h556_ := iv_get hv0 (k := 4) (j := 6) (l := 0) (u := 40) rfl
  exact jt_rI ⟨hv, hf, rfl, (show (a0 4 6 = 0 → ((x2 = 5 ∧ (-1) = 0 - 1000) ∨ (¬ x2 = 5 ∧ (-1) = 0 - 1))) from by omega), (fun _ => ⟨a, hfe, hts, (fun h => absurd (by omega : False) id), (fun h => absurd (by omega : False) id), (fun h => absurd (by omega : False) id), (fun h => absurd (by omega : False) id), (fun h => absurd (by omega : False) id), (fun h => absurd (by omega : False) id), (fun h => absurd (by omega : False) id), (fun h => absurd (by omega : False) id), (fun h => absurd (by omega : False) id), (fun h => absurd (by omega : False) id), (fun h => absurd (by omega : False) id), (fun _ => rfl)⟩), (fun h => absurd (by omega) h), (cvC_fr hfe rfl)⟩
theorem sp_X11_about (E : jxE) (d : Nat) (hd : Nat.ble 5 d = true) (x1 x2 : Int) (a0 b0 : Nat → Nat → Int) (hv0 : iv a0) : jt (jxC E d 181 [.inr (.inr (.inl 0)), .inl x1, .inl x2] (jxSH, a0, b0)) (jQ_X11_about x1 x2 a0 b0) := by
  obtain ⟨d, rfl⟩ := jd_succ hd
  refine jt_eq (bq_X11_about E d x1 x2 a0 b0) ?_
  refine jt_eI (eq_X3_has E d (jd_le hd rfl) x1 a0 b0) ?_
  have h557_ := f_X3_has_eq a0 b0 x1
  have h558_ := iv_get hv0 (k := 4) (j := 6) (l := 0) (u := 40) rfl
  refine jt_ite (fun c559_ => ?_) (fun c559_ => ?_)
  ·
    refine jt_ite (fun c560_ => ?_) (fun c560_ => ?_)
    ·
      exact jt_rI ⟨hv0, (jfr_rf _ _), rfl, (show (a0 4 6 = 0 → ((x2 = 5 ∧ (-1000) = 0 - 1000) ∨ (¬ x2 = 5 ∧ (-1000) = 0 - 1))) from by omega), (fun h => absurd (by omega : False) id), (fun _ => by first | rw [if_pos (by assumption)] | rw [if_neg (by assumption)]), rfl⟩
    ·
      exact jt_rI ⟨hv0, (jfr_rf _ _), rfl, (show (a0 4 6 = 0 → ((x2 = 5 ∧ (-1) = 0 - 1000) ∨ (¬ x2 = 5 ∧ (-1) = 0 - 1))) from by omega), (fun h => absurd (by omega : False) id), (fun _ => by first | rw [if_pos (by assumption)] | rw [if_neg (by assumption)]), rfl⟩
  ·
    refine jt_bV (sp_X7_take_r58 E d (jd_le hd rfl) (a0 0 0) a0 b0 hv0) (fun a561_ b561_ h561_ => ?_)
    obtain ⟨hv561_, hf561_, rfl, hq561_0⟩ := h561_
    refine jt_ite (fun c562_ => ?_) (fun c562_ => ?_)
    ·
      have hf563_ : jfr jW_X11_about a0 a561_ := jfr_tr (jfr_rf _ _) hf561_ rfl
      have hf564_ : jfr jWtk a0 a561_ := jfr_tr (jfr_rf _ _) hf561_ rfl
      have h565_ := iv_get hv561_ (k := 4) (j := 6) (l := 0) (u := 40) rfl
      have h566_ : a561_ 4 6 = a0 4 6 := hf561_ 4 6 rfl
      exact cp_X11_about_209 E d hd x1 x2 a0 b0 hv0 a561_ hv561_ hf563_ hf564_ hq561_0 (show (0 ≤ x1 ∧ x1 < a561_ 4 6) from by omega) (show (x2 < 0 ∨ 10 < x2) from by omega) (show 1 ≤ a0 4 6 from by omega)
    ·
      refine jt_ite (fun c567_ => ?_) (fun c567_ => ?_)
      ·
        have hf568_ : jfr jW_X11_about a0 a561_ := jfr_tr (jfr_rf _ _) hf561_ rfl
        have hf569_ : jfr jWtk a0 a561_ := jfr_tr (jfr_rf _ _) hf561_ rfl
        have h570_ := iv_get hv561_ (k := 4) (j := 6) (l := 0) (u := 40) rfl
        have h571_ : a561_ 4 6 = a0 4 6 := hf561_ 4 6 rfl
        exact cp_X11_about_100 E d hd x1 x2 a0 b0 hv0 x1 a561_ hv561_ hf568_ (show 0 ≤ x1 from by omega) (show x1 ≤ 39 from by omega) hf569_ hq561_0 (show (0 ≤ x1 ∧ x1 < a561_ 4 6) from by omega) (by first | rfl | assumption) (show x2 = 0 from by omega) (show 1 ≤ a0 4 6 from by omega)
      ·
        refine jt_ite (fun c572_ => ?_) (fun c572_ => ?_)
        ·
          have hf573_ : jfr jW_X11_about a0 a561_ := jfr_tr (jfr_rf _ _) hf561_ rfl
          have hf574_ : jfr jWtk a0 a561_ := jfr_tr (jfr_rf _ _) hf561_ rfl
          have h575_ := iv_get hv561_ (k := 4) (j := 6) (l := 0) (u := 40) rfl
          have h576_ : a561_ 4 6 = a0 4 6 := hf561_ 4 6 rfl
          exact cp_X11_about_109 E d hd x1 x2 a0 b0 hv0 x1 a561_ hv561_ hf573_ (show 0 ≤ x1 from by omega) (show x1 ≤ 39 from by omega) hf574_ hq561_0 (show (0 ≤ x1 ∧ x1 < a561_ 4 6) from by omega) (by first | rfl | assumption) (show x2 = 1 from by omega) (show 1 ≤ a0 4 6 from by omega)
        ·
          refine jt_ite (fun c577_ => ?_) (fun c577_ => ?_)
          ·
            have hf578_ : jfr jW_X11_about a0 a561_ := jfr_tr (jfr_rf _ _) hf561_ rfl
            have hf579_ : jfr jWtk a0 a561_ := jfr_tr (jfr_rf _ _) hf561_ rfl
            have h580_ := iv_get hv561_ (k := 4) (j := 6) (l := 0) (u := 40) rfl
            have h581_ : a561_ 4 6 = a0 4 6 := hf561_ 4 6 rfl
            exact cp_X11_about_118 E d hd x1 x2 a0 b0 hv0 x1 a561_ hv561_ hf578_ (show 0 ≤ x1 from by omega) (show x1 ≤ 39 from by omega) hf579_ hq561_0 (show (0 ≤ x1 ∧ x1 < a561_ 4 6) from by omega) (by first | rfl | assumption) (show x2 = 2 from by omega) (show 1 ≤ a0 4 6 from by omega)
          ·
            refine jt_ite (fun c582_ => ?_) (fun c582_ => ?_)
            ·
              have hf583_ : jfr jW_X11_about a0 a561_ := jfr_tr (jfr_rf _ _) hf561_ rfl
              have hf584_ : jfr jWtk a0 a561_ := jfr_tr (jfr_rf _ _) hf561_ rfl
              have h585_ := iv_get hv561_ (k := 4) (j := 6) (l := 0) (u := 40) rfl
              have h586_ : a561_ 4 6 = a0 4 6 := hf561_ 4 6 rfl
              exact cp_X11_about_127 E d hd x1 x2 a0 b0 hv0 x1 a561_ hv561_ hf583_ (show 0 ≤ x1 from by omega) (show x1 ≤ 39 from by omega) hf584_ hq561_0 (show (0 ≤ x1 ∧ x1 < a561_ 4 6) from by omega) (by first | rfl | assumption) (show x2 = 3 from by omega) (show 1 ≤ a0 4 6 from by omega)
            ·
              refine jt_ite (fun c587_ => ?_) (fun c587_ => ?_)
              ·
                have hf588_ : jfr jW_X11_about a0 a561_ := jfr_tr (jfr_rf _ _) hf561_ rfl
                have hf589_ : jfr jWtk a0 a561_ := jfr_tr (jfr_rf _ _) hf561_ rfl
                have h590_ := iv_get hv561_ (k := 4) (j := 6) (l := 0) (u := 40) rfl
                have h591_ : a561_ 4 6 = a0 4 6 := hf561_ 4 6 rfl
                exact cp_X11_about_136 E d hd x1 x2 a0 b0 hv0 x1 a561_ hv561_ hf588_ (show 0 ≤ x1 from by omega) (show x1 ≤ 39 from by omega) hf589_ hq561_0 (show (0 ≤ x1 ∧ x1 < a561_ 4 6) from by omega) (by first | rfl | assumption) (show x2 = 4 from by omega) (show 1 ≤ a0 4 6 from by omega)
              ·
                refine jt_ite (fun c592_ => ?_) (fun c592_ => ?_)
                ·
                  have hf593_ : jfr jW_X11_about a0 a561_ := jfr_tr (jfr_rf _ _) hf561_ rfl
                  have hf594_ : jfr jWtk a0 a561_ := jfr_tr (jfr_rf _ _) hf561_ rfl
                  have h595_ := iv_get hv561_ (k := 4) (j := 6) (l := 0) (u := 40) rfl
                  have h596_ : a561_ 4 6 = a0 4 6 := hf561_ 4 6 rfl
                  exact cp_X11_about_145 E d hd x1 x2 a0 b0 hv0 x1 a561_ hv561_ hf593_ (show 0 ≤ x1 from by omega) (show x1 ≤ 39 from by omega) hf594_ hq561_0 (show (0 ≤ x1 ∧ x1 < a561_ 4 6) from by omega) (by first | rfl | assumption) (show x2 = 5 from by omega) (show 1 ≤ a0 4 6 from by omega)
                ·
                  refine jt_ite (fun c597_ => ?_) (fun c597_ => ?_)
                  ·
                    have hf598_ : jfr jW_X11_about a0 a561_ := jfr_tr (jfr_rf _ _) hf561_ rfl
                    have hf599_ : jfr jWtk a0 a561_ := jfr_tr (jfr_rf _ _) hf561_ rfl
                    have h600_ := iv_get hv561_ (k := 4) (j := 6) (l := 0) (u := 40) rfl
                    have h601_ : a561_ 4 6 = a0 4 6 := hf561_ 4 6 rfl
                    exact cp_X11_about_151 E d hd x1 x2 a0 b0 hv0 x1 a561_ hv561_ hf598_ (show 0 ≤ x1 from by omega) (show x1 ≤ 39 from by omega) hf599_ hq561_0 (show (0 ≤ x1 ∧ x1 < a561_ 4 6) from by omega) (by first | rfl | assumption) (show x2 = 6 from by omega) (show 1 ≤ a0 4 6 from by omega)
                  ·
                    refine jt_ite (fun c602_ => ?_) (fun c602_ => ?_)
                    ·
                      have hf603_ : jfr jW_X11_about a0 a561_ := jfr_tr (jfr_rf _ _) hf561_ rfl
                      have hf604_ : jfr jWtk a0 a561_ := jfr_tr (jfr_rf _ _) hf561_ rfl
                      have h605_ := iv_get hv561_ (k := 4) (j := 6) (l := 0) (u := 40) rfl
                      have h606_ : a561_ 4 6 = a0 4 6 := hf561_ 4 6 rfl
                      exact cp_X11_about_165 E d hd x1 x2 a0 b0 hv0 x1 a561_ hv561_ hf603_ (show 0 ≤ x1 from by omega) (show x1 ≤ 39 from by omega) hf604_ hq561_0 (show (0 ≤ x1 ∧ x1 < a561_ 4 6) from by omega) (by first | rfl | assumption) (show x2 = 7 from by omega) (show 1 ≤ a0 4 6 from by omega)
                    ·
                      refine jt_ite (fun c607_ => ?_) (fun c607_ => ?_)
                      ·
                        have hf608_ : jfr jW_X11_about a0 a561_ := jfr_tr (jfr_rf _ _) hf561_ rfl
                        have hf609_ : jfr jWtk a0 a561_ := jfr_tr (jfr_rf _ _) hf561_ rfl
                        have h610_ := iv_get hv561_ (k := 4) (j := 6) (l := 0) (u := 40) rfl
                        have h611_ : a561_ 4 6 = a0 4 6 := hf561_ 4 6 rfl
                        exact cp_X11_about_174 E d hd x1 x2 a0 b0 hv0 x1 a561_ hv561_ hf608_ (show 0 ≤ x1 from by omega) (show x1 ≤ 39 from by omega) hf609_ hq561_0 (show (0 ≤ x1 ∧ x1 < a561_ 4 6) from by omega) (by first | rfl | assumption) (show x2 = 8 from by omega) (show 1 ≤ a0 4 6 from by omega)
                      ·
                        refine jt_ite (fun c612_ => ?_) (fun c612_ => ?_)
                        ·
                          have hf613_ : jfr jW_X11_about a0 a561_ := jfr_tr (jfr_rf _ _) hf561_ rfl
                          have hf614_ : jfr jWtk a0 a561_ := jfr_tr (jfr_rf _ _) hf561_ rfl
                          have h615_ := iv_get hv561_ (k := 4) (j := 6) (l := 0) (u := 40) rfl
                          have h616_ : a561_ 4 6 = a0 4 6 := hf561_ 4 6 rfl
                          exact cp_X11_about_191 E d hd x1 x2 a0 b0 hv0 x1 a561_ hv561_ hf613_ (show 0 ≤ x1 from by omega) (show x1 ≤ 39 from by omega) hf614_ hq561_0 (show (0 ≤ x1 ∧ x1 < a561_ 4 6) from by omega) (by first | rfl | assumption) (show x2 = 9 from by omega) (show 1 ≤ a0 4 6 from by omega)
                        ·
                          refine jt_ite (fun c617_ => ?_) (fun c617_ => ?_)
                          ·
                            have hf618_ : jfr jW_X11_about a0 a561_ := jfr_tr (jfr_rf _ _) hf561_ rfl
                            have hf619_ : jfr jWtk a0 a561_ := jfr_tr (jfr_rf _ _) hf561_ rfl
                            have h620_ := iv_get hv561_ (k := 4) (j := 6) (l := 0) (u := 40) rfl
                            have h621_ : a561_ 4 6 = a0 4 6 := hf561_ 4 6 rfl
                            exact cp_X11_about_200 E d hd x1 x2 a0 b0 hv0 x1 a561_ hv561_ hf618_ (show 0 ≤ x1 from by omega) (show x1 ≤ 39 from by omega) hf619_ hq561_0 (show (0 ≤ x1 ∧ x1 < a561_ 4 6) from by omega) (by first | rfl | assumption) (show x2 = 10 from by omega) (show 1 ≤ a0 4 6 from by omega)
                          ·
                            exact absurd (by omega : False) id
abbrev jQ_X11_album (x1 : Int) (a0 b0 : Nat → Nat → Int) : List jxV → (Nat → Nat → Int) → (Nat → Nat → Int) → Prop := rI (fun r a b => (a0 = a) ∧ (b0 = b) ∧ ((a0 4 6 = 0 → r = 0 - 1)) ∧ (0 ≤ x1 ∧ x1 < a0 4 6 → r = ALC a0 b0 x1 (a0 0 0) (a0 58 8).toNat) ∧ (¬ (0 ≤ x1 ∧ x1 < a0 4 6) → r = -1))
theorem sp_X11_album (E : jxE) (d : Nat) (hd : Nat.ble 5 d = true) (x1 : Int) (a0 b0 : Nat → Nat → Int) (hv0 : iv a0) : jt (jxC E d 182 [.inr (.inr (.inl 0)), .inl x1] (jxSH, a0, b0)) (jQ_X11_album x1 a0 b0) := by
  obtain ⟨d, rfl⟩ := jd_succ hd
  refine jt_eq (bq_X11_album E d x1 a0 b0) ?_
  refine jt_eI (eq_X3_has E d (jd_le hd rfl) x1 a0 b0) ?_
  have h622_ := f_X3_has_eq a0 b0 x1
  have h623_ := iv_get hv0 (k := 4) (j := 6) (l := 0) (u := 40) rfl
  refine jt_ite (fun c624_ => ?_) (fun c624_ => ?_)
  ·
    exact jt_rI ⟨rfl, rfl, (show (a0 4 6 = 0 → (-1) = 0 - 1) from by omega), (fun h => absurd h (by omega)), (fun _ => rfl)⟩
  ·
    refine jt_bI (sp_X0_landsArrivedTo E d (jd_le hd rfl) x1 (a0 0 0) a0 b0 hv0) (fun r625_ a625_ b625_ h625_ => ?_)
    obtain ⟨rfl, rfl, hq625_0⟩ := h625_
    exact jt_rI ⟨rfl, rfl, (show (a0 4 6 = 0 → r625_ = 0 - 1) from by omega), (fun _ => hq625_0), (fun h => absurd (by omega) h)⟩
def jW_X11_arrive : List (Nat × Nat) := [(58, 12), (65, 9999), (66, 9999), (67, 9999), (68, 9999)]
abbrev jQ_X11_arrive (x1 x2 : Int) (a0 b0 : Nat → Nat → Int) : List jxV → (Nat → Nat → Int) → (Nat → Nat → Int) → Prop := rI (fun r a b => (iv a) ∧ (jfr jW_X11_arrive a0 a) ∧ (b0 = b) ∧ ((0 ≤ r ∧ r ≤ 1)) ∧ ((a0 58 8 = 0 → r = 0)) ∧ ((((((((r = 1 ∧ 0 ≤ x1) ∧ x1 < a0 58 8) ∧ a0 64 (x1.toNat) = 0 - 1) ∧ a0 58 12 < 600) ∧ a0 61 (x1.toNat) ≤ x2) ∧ x2 ≤ a0 0 0) ∨ (r = 0 ∧ (((((x1 < 0 ∨ a0 58 8 ≤ x1) ∨ ¬ a0 64 (x1.toNat) = 0 - 1) ∨ 600 ≤ a0 58 12) ∨ x2 < a0 61 (x1.toNat)) ∨ a0 0 0 < x2)))) ∧ (r = 1 → cvC a = vTell (cvC a0) x1 x2 (a0 0 0)) ∧ (r = 0 → cvC a = cvC a0))
theorem sp_X11_arrive (E : jxE) (d : Nat) (hd : Nat.ble 4 d = true) (x1 x2 : Int) (a0 b0 : Nat → Nat → Int) (hv0 : iv a0) : jt (jxC E d 177 [.inr (.inr (.inl 0)), .inl x1, .inl x2] (jxSH, a0, b0)) (jQ_X11_arrive x1 x2 a0 b0) := by
  obtain ⟨d, rfl⟩ := jd_succ hd
  refine jt_eq (bq_X11_arrive E d x1 x2 a0 b0) ?_
  refine jt_bI (sp_X0_tellArrival E d (jd_le hd rfl) x1 x2 (a0 0 0) a0 b0 hv0) (fun r626_ a626_ b626_ h626_ => ?_)
  obtain ⟨hv626_, hf626_, rfl, hq626_0, hq626_1, hq626_2, hq626_3, hq626_4⟩ := h626_
  have h627_ := iv_get hv0 (k := 58) (j := 8) (l := 0) (u := 300) rfl
  have h628_ := iv_get hv0 (k := 58) (j := 12) (l := 0) (u := 600) rfl
  have h629_ := iv_get hv0 (k := 0) (j := 0) (l := 0) (u := 1999) rfl
  refine jt_grd (by omega) ?_
  have hf630_ : jfr jW_X11_arrive a0 a626_ := jfr_tr (jfr_rf _ _) hf626_ rfl
  exact jt_rI ⟨hv626_, hf630_, rfl, (show (0 ≤ r626_ ∧ r626_ ≤ 1) from by omega), (show (a0 58 8 = 0 → r626_ = 0) from by omega), (show (((((((r626_ = 1 ∧ 0 ≤ x1) ∧ x1 < a0 58 8) ∧ a0 64 (x1.toNat) = 0 - 1) ∧ a0 58 12 < 600) ∧ a0 61 (x1.toNat) ≤ x2) ∧ x2 ≤ a0 0 0) ∨ (r626_ = 0 ∧ (((((x1 < 0 ∨ a0 58 8 ≤ x1) ∨ ¬ a0 64 (x1.toNat) = 0 - 1) ∨ 600 ≤ a0 58 12) ∨ x2 < a0 61 (x1.toNat)) ∨ a0 0 0 < x2))) from by omega), hq626_3, hq626_4⟩
abbrev jQ_X11_unhappy (x1 x2 : Int) (a0 b0 : Nat → Nat → Int) : List jxV → (Nat → Nat → Int) → (Nat → Nat → Int) → Prop := rI (fun r a b => (a0 = a) ∧ (b0 = b) ∧ (0 ≤ x1 → x1 < a0 4 6 → 0 ≤ x2 → x2 < a0 4 6 → r = UNC a0 b0 x1 x2))
theorem cp_X11_unhappy_21 (E : jxE) (d : Nat) (hd : Nat.ble 6 (d + 1) = true) (x1 x2 : Int) (a0 b0 : Nat → Nat → Int) (hv0 : iv a0) (hp0 : WISHR a0) : ∀ (y1 y2 s0 : Int), 0 ≤ s0 → s0 ≤ 1 → (y1 = x1) → (y2 = x2) → (0 ≤ x1 → x1 < a0 4 6 → 0 ≤ x2 → x2 < a0 4 6 → s0 = (if METX a0 b0 x1 x2 (a0 0 0) = 0 then 1 else 0)) → jt (jxX E d 173 21 [some (.inr (.inr (.inl 0))), some (.inl y1), some (.inl y2)] [.inl s0] (jxSH, a0, b0)) (jQ_X11_unhappy x1 x2 a0 b0) := by
  intro y1 y2 s0 hi0 hi1 hy1 hy2 hs0
  refine jt_eq (bq_X11_unhappy_21 E d y1 y2 s0 a0 b0) ?_
  refine jt_bI (sp_X10_isMet E d (jd_le hd rfl) y2 y1 (a0 0 0) a0 b0 hv0 hp0) (fun r631_ a631_ b631_ h631_ => ?_)
  obtain ⟨rfl, rfl, hq631_0, hq631_1⟩ := h631_
  refine jt_ite (fun c632_ => ?_) (fun c632_ => ?_)
  ·
    have h633_ : jxw (s0 + 1) = s0 + 1 := jxw_id (by omega) (by omega)
    exact jt_rI ⟨rfl, rfl, (fun h1 h2 h3 h4 => by unfold UNC unh; rw [← hs0 h1 h2 h3 h4]; have q := hq631_1 (by omega) (by omega) (by omega) (by omega); rw [hy1, hy2] at q; rw [← q]; first | rw [if_pos (by assumption)] | rw [if_neg (by assumption)])⟩
  ·
    have h634_ : jxw (s0 + 0) = s0 + 0 := jxw_id (by omega) (by omega)
    exact jt_rI ⟨rfl, rfl, (fun h1 h2 h3 h4 => by unfold UNC unh; rw [← hs0 h1 h2 h3 h4]; have q := hq631_1 (by omega) (by omega) (by omega) (by omega); rw [hy1, hy2] at q; rw [← q]; first | rw [if_pos (by assumption)] | rw [if_neg (by assumption)])⟩
theorem sp_X11_unhappy (E : jxE) (d : Nat) (hd : Nat.ble 6 d = true) (x1 x2 : Int) (a0 b0 : Nat → Nat → Int) (hv0 : iv a0) (hp0 : WISHR a0) : jt (jxC E d 173 [.inr (.inr (.inl 0)), .inl x1, .inl x2] (jxSH, a0, b0)) (jQ_X11_unhappy x1 x2 a0 b0) := by
  obtain ⟨d, rfl⟩ := jd_succ hd
  refine jt_eq (bq_X11_unhappy E d x1 x2 a0 b0) ?_
  refine jt_bI (sp_X10_isMet E d (jd_le hd rfl) x1 x2 (a0 0 0) a0 b0 hv0 hp0) (fun r635_ a635_ b635_ h635_ => ?_)
  obtain ⟨rfl, rfl, hq635_0, hq635_1⟩ := h635_
  refine jt_ite (fun c636_ => ?_) (fun c636_ => ?_)
  ·
    exact cp_X11_unhappy_21 E d hd x1 x2 a0 b0 hv0 hp0 x1 x2 1 (show 0 ≤ 1 from by omega) (show 1 ≤ 1 from by omega) (by first | rfl | assumption) (by first | rfl | assumption) (fun h1 h2 h3 h4 => by rw [← hq635_1 h1 h2 h3 h4]; first | rw [if_pos (by assumption)] | rw [if_neg (by assumption)])
  ·
    exact cp_X11_unhappy_21 E d hd x1 x2 a0 b0 hv0 hp0 x1 x2 0 (show 0 ≤ 0 from by omega) (show 0 ≤ 1 from by omega) (by first | rfl | assumption) (by first | rfl | assumption) (fun h1 h2 h3 h4 => by rw [← hq635_1 h1 h2 h3 h4]; first | rw [if_pos (by assumption)] | rw [if_neg (by assumption)])
abbrev jQ_X11_isAhead (x1 x2 x3 : Int) (a0 b0 : Nat → Nat → Int) : List jxV → (Nat → Nat → Int) → (Nat → Nat → Int) → Prop := rI (fun r a b => (a0 = a) ∧ (b0 = b) ∧ ((0 ≤ r ∧ r ≤ 1)) ∧ (0 ≤ x1 → x1 < a0 4 6 → 0 ≤ x2 → x2 < a0 4 6 → 0 ≤ x3 → x3 < a0 4 6 → r = AHF a0 b0 x1 x2 x3))
theorem cp_X11_isAhead_26 (E : jxE) (d : Nat) (hd : Nat.ble 7 (d + 1) = true) (x1 x2 x3 : Int) (a0 b0 : Nat → Nat → Int) (hv0 : iv a0) (hp0 : WISHR a0) : (AHF a0 b0 x1 x2 x3 = 1) → jt (jxX E d 175 26 [none, none, none, none, none, none] [] (jxSH, a0, b0)) (jQ_X11_isAhead x1 x2 x3 a0 b0) := by
  intro hah
  refine jt_eq (bq_X11_isAhead_26 E d a0 b0) ?_
  exact jt_rI ⟨rfl, rfl, (show (0 ≤ 1 ∧ 1 ≤ 1) from by omega), (fun _ _ _ _ _ _ => hah.symm)⟩
theorem cp_X11_isAhead_30 (E : jxE) (d : Nat) (hd : Nat.ble 7 (d + 1) = true) (x1 x2 x3 : Int) (a0 b0 : Nat → Nat → Int) (hv0 : iv a0) (hp0 : WISHR a0) : (AHF a0 b0 x1 x2 x3 = 0) → jt (jxX E d 175 30 [none, none, none, none, none, none] [] (jxSH, a0, b0)) (jQ_X11_isAhead x1 x2 x3 a0 b0) := by
  intro hah
  refine jt_eq (bq_X11_isAhead_30 E d a0 b0) ?_
  exact jt_rI ⟨rfl, rfl, (show (0 ≤ 0 ∧ 0 ≤ 1) from by omega), (fun _ _ _ _ _ _ => hah.symm)⟩
theorem cp_X11_isAhead_48 (E : jxE) (d : Nat) (hd : Nat.ble 7 (d + 1) = true) (x1 x2 x3 : Int) (a0 b0 : Nat → Nat → Int) (hv0 : iv a0) (hp0 : WISHR a0) : ∀ (y2 y3 y4 y5 : Int), (y2 = x2) → (y3 = x3) → (0 ≤ x1 → x1 < a0 4 6 → 0 ≤ x2 → x2 < a0 4 6 → 0 ≤ x3 → x3 < a0 4 6 → y4 = UNC a0 b0 x1 x2 ∧ y5 = UNC a0 b0 x1 x3) → (f_X11_owed a0 b0 x2 = f_X11_owed a0 b0 x3) → jt (jxX E d 175 48 [some (.inr (.inr (.inl 0))), none, some (.inl y2), some (.inl y3), some (.inl y4), some (.inl y5)] [] (jxSH, a0, b0)) (jQ_X11_isAhead x1 x2 x3 a0 b0) := by
  intro y2 y3 y4 y5 hy2 hy3 hun how
  refine jt_eq (bq_X11_isAhead_48 E d y2 y3 y4 y5 a0 b0) ?_
  refine jt_ite (fun c637_ => ?_) (fun c637_ => ?_)
  ·
    refine jt_eI (eq_X7_lastSentTo E d (jd_le hd rfl) y2 a0 b0) ?_
    refine jt_eI (eq_X7_lastSentTo E d (jd_le hd rfl) y3 a0 b0) ?_
    have h638_ := f_X7_lastSentTo_eq a0 b0 y2
    have h639_ := f_X11_entry_r75_eq a0 b0 40 y2
    have h640_ := f_X7_lastSentTo_eq a0 b0 y3
    have h641_ := f_X11_entry_r75_eq a0 b0 40 y3
    refine jt_ite (fun c642_ => ?_) (fun c642_ => ?_)
    ·
      exact jt_rI ⟨rfl, rfl, (show (0 ≤ 1 ∧ 1 ≤ 1) from by omega), (fun h1 h2 h3 h4 h5 h6 => by obtain ⟨u1, u2⟩ := hun h1 h2 h3 h4 h5 h6; unfold AHF; rw [if_pos how, ← u1, ← u2, ← hy2, ← hy3]; repeat (first | rw [if_pos (by assumption)] | rw [if_neg (by assumption)]))⟩
    ·
      exact jt_rI ⟨rfl, rfl, (show (0 ≤ 0 ∧ 0 ≤ 1) from by omega), (fun h1 h2 h3 h4 h5 h6 => by obtain ⟨u1, u2⟩ := hun h1 h2 h3 h4 h5 h6; unfold AHF; rw [if_pos how, ← u1, ← u2, ← hy2, ← hy3]; repeat (first | rw [if_pos (by assumption)] | rw [if_neg (by assumption)]))⟩
  ·
    refine jt_ite (fun c643_ => ?_) (fun c643_ => ?_)
    ·
      exact jt_rI ⟨rfl, rfl, (show (0 ≤ 1 ∧ 1 ≤ 1) from by omega), (fun h1 h2 h3 h4 h5 h6 => by obtain ⟨u1, u2⟩ := hun h1 h2 h3 h4 h5 h6; unfold AHF; rw [if_pos how, ← u1, ← u2, ← hy2, ← hy3]; repeat (first | rw [if_pos (by assumption)] | rw [if_neg (by assumption)]))⟩
    ·
      exact jt_rI ⟨rfl, rfl, (show (0 ≤ 0 ∧ 0 ≤ 1) from by omega), (fun h1 h2 h3 h4 h5 h6 => by obtain ⟨u1, u2⟩ := hun h1 h2 h3 h4 h5 h6; unfold AHF; rw [if_pos how, ← u1, ← u2, ← hy2, ← hy3]; repeat (first | rw [if_pos (by assumption)] | rw [if_neg (by assumption)]))⟩
theorem sp_X11_isAhead (E : jxE) (d : Nat) (hd : Nat.ble 7 d = true) (x1 x2 x3 : Int) (a0 b0 : Nat → Nat → Int) (hv0 : iv a0) (hp0 : WISHR a0) : jt (jxC E d 175 [.inr (.inr (.inl 0)), .inl x1, .inl x2, .inl x3] (jxSH, a0, b0)) (jQ_X11_isAhead x1 x2 x3 a0 b0) := by
  obtain ⟨d, rfl⟩ := jd_succ hd
  refine jt_eq (bq_X11_isAhead E d x1 x2 x3 a0 b0) ?_
  refine jt_eI (eq_X11_owed E d (jd_le hd rfl) x2 a0 b0) ?_
  refine jt_eI (eq_X11_owed E d (jd_le hd rfl) x3 a0 b0) ?_
  have h644_ := f_X11_owed_eq a0 b0 x2
  have h645_ := f_X7_givenBy_eq a0 b0 x2
  have h646_ := f_X11_entry_r70_eq a0 b0 40 x2
  have h647_ := f_X3_creditOf_eq a0 b0 x2
  have h648_ := f_X3_has_eq a0 b0 x2
  have h649_ := iv_get hv0 (k := 4) (j := 6) (l := 0) (u := 40) rfl
  have h650_ := jxw_im ((f_X7_givenBy a0 b0 x2) + (f_X3_creditOf a0 b0 x2))
  have h651_ := jxw_rg ((f_X7_givenBy a0 b0 x2) + (f_X3_creditOf a0 b0 x2))
  have h652_ := f_X7_gotBy_eq a0 b0 x2
  have h653_ := f_X11_entry_r71_eq a0 b0 40 x2
  have h654_ := jxw_im ((jxw ((f_X7_givenBy a0 b0 x2) + (f_X3_creditOf a0 b0 x2))) - (f_X7_gotBy a0 b0 x2))
  have h655_ := jxw_rg ((jxw ((f_X7_givenBy a0 b0 x2) + (f_X3_creditOf a0 b0 x2))) - (f_X7_gotBy a0 b0 x2))
  have h656_ := f_X7_comingTo_eq a0 b0 x2
  have h657_ := f_X11_entry_r72_eq a0 b0 40 x2
  have h658_ := jxw_im ((jxw ((jxw ((f_X7_givenBy a0 b0 x2) + (f_X3_creditOf a0 b0 x2))) - (f_X7_gotBy a0 b0 x2))) - (f_X7_comingTo a0 b0 x2))
  have h659_ := jxw_rg ((jxw ((jxw ((f_X7_givenBy a0 b0 x2) + (f_X3_creditOf a0 b0 x2))) - (f_X7_gotBy a0 b0 x2))) - (f_X7_comingTo a0 b0 x2))
  have h660_ := f_X11_owed_eq a0 b0 x3
  have h661_ := f_X7_givenBy_eq a0 b0 x3
  have h662_ := f_X11_entry_r70_eq a0 b0 40 x3
  have h663_ := f_X3_creditOf_eq a0 b0 x3
  have h664_ := f_X3_has_eq a0 b0 x3
  have h665_ := jxw_im ((f_X7_givenBy a0 b0 x3) + (f_X3_creditOf a0 b0 x3))
  have h666_ := jxw_rg ((f_X7_givenBy a0 b0 x3) + (f_X3_creditOf a0 b0 x3))
  have h667_ := f_X7_gotBy_eq a0 b0 x3
  have h668_ := f_X11_entry_r71_eq a0 b0 40 x3
  have h669_ := jxw_im ((jxw ((f_X7_givenBy a0 b0 x3) + (f_X3_creditOf a0 b0 x3))) - (f_X7_gotBy a0 b0 x3))
  have h670_ := jxw_rg ((jxw ((f_X7_givenBy a0 b0 x3) + (f_X3_creditOf a0 b0 x3))) - (f_X7_gotBy a0 b0 x3))
  have h671_ := f_X7_comingTo_eq a0 b0 x3
  have h672_ := f_X11_entry_r72_eq a0 b0 40 x3
  have h673_ := jxw_im ((jxw ((jxw ((f_X7_givenBy a0 b0 x3) + (f_X3_creditOf a0 b0 x3))) - (f_X7_gotBy a0 b0 x3))) - (f_X7_comingTo a0 b0 x3))
  have h674_ := jxw_rg ((jxw ((jxw ((f_X7_givenBy a0 b0 x3) + (f_X3_creditOf a0 b0 x3))) - (f_X7_gotBy a0 b0 x3))) - (f_X7_comingTo a0 b0 x3))
  refine jt_ite (fun c675_ => ?_) (fun c675_ => ?_)
  ·
    refine jt_bI (sp_X11_unhappy E d (jd_le hd rfl) x1 x2 a0 b0 hv0 hp0) (fun r676_ a676_ b676_ h676_ => ?_)
    obtain ⟨rfl, rfl, hq676_0⟩ := h676_
    refine jt_bI (sp_X11_unhappy E d (jd_le hd rfl) x1 x3 a0 b0 hv0 hp0) (fun r677_ a677_ b677_ h677_ => ?_)
    obtain ⟨rfl, rfl, hq677_0⟩ := h677_
    exact cp_X11_isAhead_48 E d hd x1 x2 x3 a0 b0 hv0 hp0 x2 x3 r676_ r677_ (by first | rfl | assumption) (by first | rfl | assumption) (fun h1 h2 h3 h4 h5 h6 => ⟨hq676_0 h1 h2 h3 h4, hq677_0 h1 h2 h5 h6⟩) (by assumption)
  ·
    refine jt_eI (eq_X11_owed E d (jd_le hd rfl) x2 a0 b0) ?_
    refine jt_eI (eq_X11_owed E d (jd_le hd rfl) x3 a0 b0) ?_
    refine jt_ite (fun c678_ => ?_) (fun c678_ => ?_)
    ·
      exact cp_X11_isAhead_26 E d hd x1 x2 x3 a0 b0 hv0 hp0 (by unfold AHF; rw [if_neg (by assumption), if_pos (by assumption)])
    ·
      exact cp_X11_isAhead_30 E d hd x1 x2 x3 a0 b0 hv0 hp0 (by unfold AHF; rw [if_neg (by assumption), if_neg (by assumption)])
abbrev jQ_X11_mayGet (x1 x2 x3 : Int) (a0 b0 : Nat → Nat → Int) : List jxV → (Nat → Nat → Int) → (Nat → Nat → Int) → Prop := rI (fun r a b => (a0 = a) ∧ (b0 = b) ∧ ((0 ≤ r ∧ r ≤ 1)) ∧ (0 ≤ x1 → x1 < a0 4 6 → r = MGF a0 b0 x1 x2 x3))
theorem cp_X11_mayGet_65 (E : jxE) (d : Nat) (hd : Nat.ble 7 (d + 1) = true) (x1 x2 x3 : Int) (a0 b0 : Nat → Nat → Int) (hv0 : iv a0) (hp0 : WISHR a0) : (0 ≤ x1 → x1 < a0 4 6 → MGF a0 b0 x1 x2 x3 = 1) → jt (jxX E d 172 65 [none, none, none, none, none] [] (jxSH, a0, b0)) (jQ_X11_mayGet x1 x2 x3 a0 b0) := by
  intro hmg
  refine jt_eq (bq_X11_mayGet_65 E d a0 b0) ?_
  exact jt_rI ⟨rfl, rfl, (show (0 ≤ 1 ∧ 1 ≤ 1) from by omega), (fun h1 h2 => (hmg h1 h2).symm)⟩
theorem cp_X11_mayGet_69 (E : jxE) (d : Nat) (hd : Nat.ble 7 (d + 1) = true) (x1 x2 x3 : Int) (a0 b0 : Nat → Nat → Int) (hv0 : iv a0) (hp0 : WISHR a0) : (0 ≤ x1 → x1 < a0 4 6 → MGF a0 b0 x1 x2 x3 = 0) → jt (jxX E d 172 69 [none, none, none, none, none] [] (jxSH, a0, b0)) (jQ_X11_mayGet x1 x2 x3 a0 b0) := by
  intro hmg
  refine jt_eq (bq_X11_mayGet_69 E d a0 b0) ?_
  exact jt_rI ⟨rfl, rfl, (show (0 ≤ 0 ∧ 0 ≤ 1) from by omega), (fun h1 h2 => (hmg h1 h2).symm)⟩
theorem cp_X11_mayGet_33 (E : jxE) (d : Nat) (hd : Nat.ble 7 (d + 1) = true) (x1 x2 x3 : Int) (a0 b0 : Nat → Nat → Int) (hv0 : iv a0) (hp0 : WISHR a0) : ∀ (y1 y2 : Int), 0 ≤ y2 → y2 ≤ 39 → (y1 = x1) → (y2 = x2) → (0 ≤ x2 ∧ x2 < a0 4 6) → (MGF a0 b0 x1 x2 x3 = if ¬ 0 < jxw (f_X11_owed a0 b0 x2 + f_X6_slack a0 b0) then 0 else if f_X6_strict a0 b0 < UNC a0 b0 x1 x2 then 0 else 1) → jt (jxX E d 172 33 [some (.inr (.inr (.inl 0))), some (.inl y1), some (.inl y2), none, none] [] (jxSH, a0, b0)) (jQ_X11_mayGet x1 x2 x3 a0 b0) := by
  intro y1 y2 hi0 hi1 hy1 hy2 hi4 hmg
  refine jt_eq (bq_X11_mayGet_33 E d y1 y2 a0 b0) ?_
  have h679_ := iv_get hv0 (k := 4) (j := 6) (l := 0) (u := 40) rfl
  refine jt_eI (eq_X11_owed E d (jd_le hd rfl) y2 a0 b0) ?_
  refine jt_eI (eq_X6_slack E d (jd_le hd rfl) a0 b0) ?_
  have h680_ := f_X11_owed_eq a0 b0 y2
  have h681_ := f_X7_givenBy_eq a0 b0 y2
  have h682_ := f_X11_entry_r70_eq a0 b0 40 y2
  have h683_ := f_X3_creditOf_eq a0 b0 y2
  have h684_ := f_X3_has_eq a0 b0 y2
  have h685_ := jxw_im ((f_X7_givenBy a0 b0 y2) + (f_X3_creditOf a0 b0 y2))
  have h686_ := jxw_rg ((f_X7_givenBy a0 b0 y2) + (f_X3_creditOf a0 b0 y2))
  have h687_ := f_X7_gotBy_eq a0 b0 y2
  have h688_ := f_X11_entry_r71_eq a0 b0 40 y2
  have h689_ := jxw_im ((jxw ((f_X7_givenBy a0 b0 y2) + (f_X3_creditOf a0 b0 y2))) - (f_X7_gotBy a0 b0 y2))
  have h690_ := jxw_rg ((jxw ((f_X7_givenBy a0 b0 y2) + (f_X3_creditOf a0 b0 y2))) - (f_X7_gotBy a0 b0 y2))
  have h691_ := f_X7_comingTo_eq a0 b0 y2
  have h692_ := f_X11_entry_r72_eq a0 b0 40 y2
  have h693_ := jxw_im ((jxw ((jxw ((f_X7_givenBy a0 b0 y2) + (f_X3_creditOf a0 b0 y2))) - (f_X7_gotBy a0 b0 y2))) - (f_X7_comingTo a0 b0 y2))
  have h694_ := jxw_rg ((jxw ((jxw ((f_X7_givenBy a0 b0 y2) + (f_X3_creditOf a0 b0 y2))) - (f_X7_gotBy a0 b0 y2))) - (f_X7_comingTo a0 b0 y2))
  have h695_ := f_X6_slack_eq a0 b0
  have h696_ := jxw_im ((f_X11_owed a0 b0 y2) + (f_X6_slack a0 b0))
  have h697_ := jxw_rg ((f_X11_owed a0 b0 y2) + (f_X6_slack a0 b0))
  refine jt_ite (fun c698_ => ?_) (fun c698_ => ?_)
  ·
    refine jt_bI (sp_X11_unhappy E d (jd_le hd rfl) y1 y2 a0 b0 hv0 hp0) (fun r699_ a699_ b699_ h699_ => ?_)
    obtain ⟨rfl, rfl, hq699_0⟩ := h699_
    refine jt_eI (eq_X6_strict E d (jd_le hd rfl) a0 b0) ?_
    have h700_ := f_X6_strict_eq a0 b0
    refine jt_ite (fun c701_ => ?_) (fun c701_ => ?_)
    ·
      exact cp_X11_mayGet_69 E d hd x1 x2 x3 a0 b0 hv0 hp0 (fun h1 h2 => by have q := hq699_0 (by omega) (by omega) (by omega) (by omega); rw [hy1, hy2] at q; rw [hmg, if_neg (by rw [← hy2]; omega), ← q]; first | rw [if_pos (by assumption)] | rw [if_neg (by assumption)])
    ·
      exact cp_X11_mayGet_65 E d hd x1 x2 x3 a0 b0 hv0 hp0 (fun h1 h2 => by have q := hq699_0 (by omega) (by omega) (by omega) (by omega); rw [hy1, hy2] at q; rw [hmg, if_neg (by rw [← hy2]; omega), ← q]; first | rw [if_pos (by assumption)] | rw [if_neg (by assumption)])
  ·
    exact cp_X11_mayGet_69 E d hd x1 x2 x3 a0 b0 hv0 hp0 (fun _ _ => by rw [hmg, if_pos (by rw [← hy2]; assumption)])
theorem sp_X11_mayGet (E : jxE) (d : Nat) (hd : Nat.ble 7 d = true) (x1 x2 x3 : Int) (a0 b0 : Nat → Nat → Int) (hv0 : iv a0) (hp0 : WISHR a0) : jt (jxC E d 172 [.inr (.inr (.inl 0)), .inl x1, .inl x2, .inr (.inl x3)] (jxSH, a0, b0)) (jQ_X11_mayGet x1 x2 x3 a0 b0) := by
  obtain ⟨d, rfl⟩ := jd_succ hd
  refine jt_eq (bq_X11_mayGet E d x1 x2 x3 a0 b0) ?_
  refine jt_eI (eq_X3_isThere E d (jd_le hd rfl) x2 a0 b0) ?_
  have h702_ := f_X3_isThere_eq a0 b0 x2
  have h703_ := f_X3_has_eq a0 b0 x2
  have h704_ := iv_get hv0 (k := 4) (j := 6) (l := 0) (u := 40) rfl
  refine jt_ite (fun c705_ => ?_) (fun c705_ => ?_)
  ·
    exact cp_X11_mayGet_69 E d hd x1 x2 x3 a0 b0 hv0 hp0 (fun _ _ => by unfold MGF; first | rw [if_pos (by assumption)] | (rw [if_neg (by omega), if_pos (by omega)]) | (rw [if_neg (by omega), if_neg (by omega), if_pos (by omega)]))
  ·
    refine jt_eI (eq_X3_areKin E d (jd_le hd rfl) x1 x2 a0 b0) ?_
    have h706_ := f_X3_areKin_bool a0 b0 x1 x2
    refine jt_ite (fun c707_ => ?_) (fun c707_ => ?_)
    ·
      have h708_ := jxlcmp_b (jxandl (jxshrl x3 x2) 1) 0
      refine jt_ite (fun c709_ => ?_) (fun c709_ => ?_)
      ·
        exact cp_X11_mayGet_33 E d hd x1 x2 x3 a0 b0 hv0 hp0 x1 x2 (show 0 ≤ x2 from by omega) (show x2 ≤ 39 from by omega) (by first | rfl | assumption) (by first | rfl | assumption) (show (0 ≤ x2 ∧ x2 < a0 4 6) from by omega) (by unfold MGF; rw [if_neg (by omega), if_neg (by omega), if_neg (by omega)])
      ·
        exact cp_X11_mayGet_69 E d hd x1 x2 x3 a0 b0 hv0 hp0 (fun _ _ => by unfold MGF; first | rw [if_pos (by assumption)] | (rw [if_neg (by omega), if_pos (by omega)]) | (rw [if_neg (by omega), if_neg (by omega), if_pos (by omega)]))
    ·
      exact cp_X11_mayGet_69 E d hd x1 x2 x3 a0 b0 hv0 hp0 (fun _ _ => by unfold MGF; first | rw [if_pos (by assumption)] | (rw [if_neg (by omega), if_pos (by omega)]) | (rw [if_neg (by omega), if_neg (by omega), if_pos (by omega)]))
abbrev jQ_X11_firstReceiver (x1 : Int) (a0 b0 : Nat → Nat → Int) : List jxV → (Nat → Nat → Int) → (Nat → Nat → Int) → Prop := rI (fun r a b => (a0 = a) ∧ (b0 = b) ∧ (0 ≤ x1 → x1 < a0 4 6 → r = FRC a0 b0 x1 (RBC a0 b0 x1 (a0 58 8).toNat) (a0 4 6).toNat))
theorem cp_X11_firstReceiver_15 (E : jxE) (d : Nat) (hd : Nat.ble 8 (d + 1) = true) (x1 : Int) (a0 b0 : Nat → Nat → Int) (hv0 : iv a0) (hp0 : WISHR a0) : ∀ n : Nat, (∀ (y1 y2 y5 : Int), (((40 - y5) * 1) + 0).toNat ≤ n → 0 ≤ y5 → y5 ≤ 39 → y1 = x1 → 0 ≤ y5 → y5 < a0 4 6 → (y2 = RBC a0 b0 x1 (a0 58 8).toNat) → (0 ≤ x1 → x1 < a0 4 6 → y5 = FRC a0 b0 x1 (RBC a0 b0 x1 (a0 58 8).toNat) (y5.toNat + 1)) → jt (jxX E d 174 56 [some (.inr (.inr (.inl 0))), some (.inl y1), some (.inr (.inl y2)), none, none, some (.inl y5)] [] (jxSH, a0, b0)) (jQ_X11_firstReceiver x1 a0 b0)) ∧ (∀ (y1 y2 y4 y5 : Int), (((40 - y5) * 1) + 0).toNat ≤ n → 0 ≤ y4 → y4 ≤ 39 → 0 ≤ y5 → y5 ≤ 39 → y1 = x1 → 0 ≤ y5 → y5 < a0 4 6 → (y2 = RBC a0 b0 x1 (a0 58 8).toNat) → (0 ≤ x1 → x1 < a0 4 6 → y4 = FRC a0 b0 x1 (RBC a0 b0 x1 (a0 58 8).toNat) y5.toNat) → (0 ≤ x1 → x1 < a0 4 6 → MGF a0 b0 x1 y5 (RBC a0 b0 x1 (a0 58 8).toNat) ≠ 0) → ¬ y4 = 0 - 1 → jt (jxX E d 174 44 [some (.inr (.inr (.inl 0))), some (.inl y1), some (.inr (.inl y2)), none, some (.inl y4), some (.inl y5)] [] (jxSH, a0, b0)) (jQ_X11_firstReceiver x1 a0 b0)) ∧ (∀ (y1 y2 y4 y5 : Int), (((40 - y5) * 1) + 0).toNat ≤ n → 0 - 1 ≤ y4 → y4 ≤ 39 → 0 ≤ y5 → y5 ≤ 40 → y1 = x1 → 0 ≤ y5 → y5 ≤ a0 4 6 → (y2 = RBC a0 b0 x1 (a0 58 8).toNat) → (0 ≤ x1 → x1 < a0 4 6 → y4 = FRC a0 b0 x1 (RBC a0 b0 x1 (a0 58 8).toNat) y5.toNat) → jt (jxX E d 174 15 [some (.inr (.inr (.inl 0))), some (.inl y1), some (.inr (.inl y2)), none, some (.inl y4), some (.inl y5)] [] (jxSH, a0, b0)) (jQ_X11_firstReceiver x1 a0 b0)) := by
  refine jx_ind fun n ih => ?_
  have ih56 : ∀ (y1 y2 y5 : Int), (((40 - y5) * 1) + 0).toNat < n → 0 ≤ y5 → y5 ≤ 39 → y1 = x1 → 0 ≤ y5 → y5 < a0 4 6 → (y2 = RBC a0 b0 x1 (a0 58 8).toNat) → (0 ≤ x1 → x1 < a0 4 6 → y5 = FRC a0 b0 x1 (RBC a0 b0 x1 (a0 58 8).toNat) (y5.toNat + 1)) → jt (jxX E d 174 56 [some (.inr (.inr (.inl 0))), some (.inl y1), some (.inr (.inl y2)), none, none, some (.inl y5)] [] (jxSH, a0, b0)) (jQ_X11_firstReceiver x1 a0 b0) := fun y1 y2 y5 hlt i0 i1 i2 i3 i4 i5 i6 => (ih _ hlt).1 y1 y2 y5 (Nat.le_refl _) i0 i1 i2 i3 i4 i5 i6
  have ih44 : ∀ (y1 y2 y4 y5 : Int), (((40 - y5) * 1) + 0).toNat < n → 0 ≤ y4 → y4 ≤ 39 → 0 ≤ y5 → y5 ≤ 39 → y1 = x1 → 0 ≤ y5 → y5 < a0 4 6 → (y2 = RBC a0 b0 x1 (a0 58 8).toNat) → (0 ≤ x1 → x1 < a0 4 6 → y4 = FRC a0 b0 x1 (RBC a0 b0 x1 (a0 58 8).toNat) y5.toNat) → (0 ≤ x1 → x1 < a0 4 6 → MGF a0 b0 x1 y5 (RBC a0 b0 x1 (a0 58 8).toNat) ≠ 0) → ¬ y4 = 0 - 1 → jt (jxX E d 174 44 [some (.inr (.inr (.inl 0))), some (.inl y1), some (.inr (.inl y2)), none, some (.inl y4), some (.inl y5)] [] (jxSH, a0, b0)) (jQ_X11_firstReceiver x1 a0 b0) := fun y1 y2 y4 y5 hlt i0 i1 i2 i3 i4 i5 i6 i7 i8 i9 i10 => (ih _ hlt).2.1 y1 y2 y4 y5 (Nat.le_refl _) i0 i1 i2 i3 i4 i5 i6 i7 i8 i9 i10
  have ih15 : ∀ (y1 y2 y4 y5 : Int), (((40 - y5) * 1) + 0).toNat < n → 0 - 1 ≤ y4 → y4 ≤ 39 → 0 ≤ y5 → y5 ≤ 40 → y1 = x1 → 0 ≤ y5 → y5 ≤ a0 4 6 → (y2 = RBC a0 b0 x1 (a0 58 8).toNat) → (0 ≤ x1 → x1 < a0 4 6 → y4 = FRC a0 b0 x1 (RBC a0 b0 x1 (a0 58 8).toNat) y5.toNat) → jt (jxX E d 174 15 [some (.inr (.inr (.inl 0))), some (.inl y1), some (.inr (.inl y2)), none, some (.inl y4), some (.inl y5)] [] (jxSH, a0, b0)) (jQ_X11_firstReceiver x1 a0 b0) := fun y1 y2 y4 y5 hlt i0 i1 i2 i3 i4 i5 i6 i7 i8 => (ih _ hlt).2.2 y1 y2 y4 y5 (Nat.le_refl _) i0 i1 i2 i3 i4 i5 i6 i7 i8
  have hc56 : ∀ (y1 y2 y5 : Int), (((40 - y5) * 1) + 0).toNat ≤ n → 0 ≤ y5 → y5 ≤ 39 → y1 = x1 → 0 ≤ y5 → y5 < a0 4 6 → (y2 = RBC a0 b0 x1 (a0 58 8).toNat) → (0 ≤ x1 → x1 < a0 4 6 → y5 = FRC a0 b0 x1 (RBC a0 b0 x1 (a0 58 8).toNat) (y5.toNat + 1)) → jt (jxX E d 174 56 [some (.inr (.inr (.inl 0))), some (.inl y1), some (.inr (.inl y2)), none, none, some (.inl y5)] [] (jxSH, a0, b0)) (jQ_X11_firstReceiver x1 a0 b0) := by
    intro y1 y2 y5 hm hi0 hi1 hi2 hi3 hi4 hy2 hf1
    refine jt_eq (bq_X11_firstReceiver_56 E d y1 y2 y5 a0 b0) ?_
    have h710_ := iv_get hv0 (k := 4) (j := 6) (l := 0) (u := 40) rfl
    have h711_ : jxw (y5 + 1) = y5 + 1 := jxw_id (by omega) (by omega)
    exact ih15 y1 y2 y5 (jxw (y5 + 1)) (show (((40 - (jxw (y5 + 1))) * 1) + 0).toNat < n from by omega) (show 0 - 1 ≤ y5 from by omega) (show y5 ≤ 39 from by omega) (show 0 ≤ jxw (y5 + 1) from by omega) (show jxw (y5 + 1) ≤ 40 from by omega) (show y1 = x1 from by omega) (show 0 ≤ jxw (y5 + 1) from by omega) (show jxw (y5 + 1) ≤ a0 4 6 from by omega) hy2 (fun h1 h2 => by rw [show (jxw (y5 + 1)).toNat = y5.toNat + 1 from by omega]; exact hf1 h1 h2)
  have hc44 : ∀ (y1 y2 y4 y5 : Int), (((40 - y5) * 1) + 0).toNat ≤ n → 0 ≤ y4 → y4 ≤ 39 → 0 ≤ y5 → y5 ≤ 39 → y1 = x1 → 0 ≤ y5 → y5 < a0 4 6 → (y2 = RBC a0 b0 x1 (a0 58 8).toNat) → (0 ≤ x1 → x1 < a0 4 6 → y4 = FRC a0 b0 x1 (RBC a0 b0 x1 (a0 58 8).toNat) y5.toNat) → (0 ≤ x1 → x1 < a0 4 6 → MGF a0 b0 x1 y5 (RBC a0 b0 x1 (a0 58 8).toNat) ≠ 0) → ¬ y4 = 0 - 1 → jt (jxX E d 174 44 [some (.inr (.inr (.inl 0))), some (.inl y1), some (.inr (.inl y2)), none, some (.inl y4), some (.inl y5)] [] (jxSH, a0, b0)) (jQ_X11_firstReceiver x1 a0 b0) := by
    intro y1 y2 y4 y5 hm hi0 hi1 hi2 hi3 hi4 hi5 hi6 hy2 hf1 hmg1 hi10
    refine jt_eq (bq_X11_firstReceiver_44 E d y1 y2 y4 y5 a0 b0) ?_
    have h712_ := iv_get hv0 (k := 4) (j := 6) (l := 0) (u := 40) rfl
    have hst : FRC a0 b0 x1 (RBC a0 b0 x1 (a0 58 8).toNat) (y5.toNat + 1) = if MGF a0 b0 x1 ((y5.toNat : Nat) : Int) (RBC a0 b0 x1 (a0 58 8).toNat) = 0 then FRC a0 b0 x1 (RBC a0 b0 x1 (a0 58 8).toNat) y5.toNat else if FRC a0 b0 x1 (RBC a0 b0 x1 (a0 58 8).toNat) y5.toNat = -1 then ((y5.toNat : Nat) : Int) else if AHF a0 b0 x1 ((y5.toNat : Nat) : Int) (FRC a0 b0 x1 (RBC a0 b0 x1 (a0 58 8).toNat) y5.toNat) = 0 then FRC a0 b0 x1 (RBC a0 b0 x1 (a0 58 8).toNat) y5.toNat else ((y5.toNat : Nat) : Int) := rfl
    rw [show ((y5.toNat : Nat) : Int) = y5 from by omega] at hst
    have hrg := FRC_rg a0 b0 x1 (RBC a0 b0 x1 (a0 58 8).toNat) y5.toNat
    refine jt_bI (sp_X11_isAhead E d (jd_le hd rfl) y1 y5 y4 a0 b0 hv0 hp0) (fun r713_ a713_ b713_ h713_ => ?_)
    obtain ⟨rfl, rfl, hq713_0, hq713_1⟩ := h713_
    refine jt_ite (fun c714_ => ?_) (fun c714_ => ?_)
    ·
      have h715_ : jxw (y5 + 1) = y5 + 1 := jxw_id (by omega) (by omega)
      exact ih15 y1 y2 y4 (jxw (y5 + 1)) (show (((40 - (jxw (y5 + 1))) * 1) + 0).toNat < n from by omega) (show 0 - 1 ≤ y4 from by omega) (show y4 ≤ 39 from by omega) (show 0 ≤ jxw (y5 + 1) from by omega) (show jxw (y5 + 1) ≤ 40 from by omega) (show y1 = x1 from by omega) (show 0 ≤ jxw (y5 + 1) from by omega) (show jxw (y5 + 1) ≤ a0 4 6 from by omega) hy2 (fun h1 h2 => by rw [show (jxw (y5 + 1)).toNat = y5.toNat + 1 from by omega]; have e := hf1 h1 h2; have qa := hq713_1 (by omega) (by omega) (by omega) (by omega) (by omega) (by omega); rw [show y1 = x1 from by omega, e] at qa; rw [hst, if_neg (hmg1 h1 h2), if_neg (by omega), if_pos (by omega)]; exact e)
    ·
      exact hc56 y1 y2 y5 (show (((40 - y5) * 1) + 0).toNat ≤ n from by omega) (show 0 ≤ y5 from by omega) (show y5 ≤ 39 from by omega) (show y1 = x1 from by omega) (show 0 ≤ y5 from by omega) (show y5 < a0 4 6 from by omega) hy2 (fun h1 h2 => by have e := hf1 h1 h2; have qa := hq713_1 (by omega) (by omega) (by omega) (by omega) (by omega) (by omega); rw [show y1 = x1 from by omega, e] at qa; rw [hst, if_neg (hmg1 h1 h2), if_neg (by omega), if_neg (by omega)])
  have hc15 : ∀ (y1 y2 y4 y5 : Int), (((40 - y5) * 1) + 0).toNat ≤ n → 0 - 1 ≤ y4 → y4 ≤ 39 → 0 ≤ y5 → y5 ≤ 40 → y1 = x1 → 0 ≤ y5 → y5 ≤ a0 4 6 → (y2 = RBC a0 b0 x1 (a0 58 8).toNat) → (0 ≤ x1 → x1 < a0 4 6 → y4 = FRC a0 b0 x1 (RBC a0 b0 x1 (a0 58 8).toNat) y5.toNat) → jt (jxX E d 174 15 [some (.inr (.inr (.inl 0))), some (.inl y1), some (.inr (.inl y2)), none, some (.inl y4), some (.inl y5)] [] (jxSH, a0, b0)) (jQ_X11_firstReceiver x1 a0 b0) := by
    intro y1 y2 y4 y5 hm hi0 hi1 hi2 hi3 hi4 hi5 hi6 hy2 hf1
    refine jt_eq (bq_X11_firstReceiver_15 E d y1 y2 y4 y5 a0 b0) ?_
    have h716_ := iv_get hv0 (k := 4) (j := 6) (l := 0) (u := 40) rfl
    have hst : FRC a0 b0 x1 (RBC a0 b0 x1 (a0 58 8).toNat) (y5.toNat + 1) = if MGF a0 b0 x1 ((y5.toNat : Nat) : Int) (RBC a0 b0 x1 (a0 58 8).toNat) = 0 then FRC a0 b0 x1 (RBC a0 b0 x1 (a0 58 8).toNat) y5.toNat else if FRC a0 b0 x1 (RBC a0 b0 x1 (a0 58 8).toNat) y5.toNat = -1 then ((y5.toNat : Nat) : Int) else if AHF a0 b0 x1 ((y5.toNat : Nat) : Int) (FRC a0 b0 x1 (RBC a0 b0 x1 (a0 58 8).toNat) y5.toNat) = 0 then FRC a0 b0 x1 (RBC a0 b0 x1 (a0 58 8).toNat) y5.toNat else ((y5.toNat : Nat) : Int) := rfl
    rw [show ((y5.toNat : Nat) : Int) = y5 from by omega] at hst
    have hrg := FRC_rg a0 b0 x1 (RBC a0 b0 x1 (a0 58 8).toNat) y5.toNat
    refine jt_eI (eq_X3_size E d (jd_le hd rfl) a0 b0) ?_
    have h717_ := f_X3_size_eq a0 b0
    refine jt_ite (fun c718_ => ?_) (fun c718_ => ?_)
    ·
      refine jt_bI (sp_X11_mayGet E d (jd_le hd rfl) y1 y5 y2 a0 b0 hv0 hp0) (fun r719_ a719_ b719_ h719_ => ?_)
      obtain ⟨rfl, rfl, hq719_0, hq719_1⟩ := h719_
      refine jt_ite (fun c720_ => ?_) (fun c720_ => ?_)
      ·
        have h721_ : jxw (y5 + 1) = y5 + 1 := jxw_id (by omega) (by omega)
        exact ih15 y1 y2 y4 (jxw (y5 + 1)) (show (((40 - (jxw (y5 + 1))) * 1) + 0).toNat < n from by omega) (show 0 - 1 ≤ y4 from by omega) (show y4 ≤ 39 from by omega) (show 0 ≤ jxw (y5 + 1) from by omega) (show jxw (y5 + 1) ≤ 40 from by omega) (show y1 = x1 from by omega) (show 0 ≤ jxw (y5 + 1) from by omega) (show jxw (y5 + 1) ≤ a0 4 6 from by omega) hy2 (fun h1 h2 => by rw [show (jxw (y5 + 1)).toNat = y5.toNat + 1 from by omega]; have qm := hq719_1 (by omega) (by omega); rw [show y1 = x1 from by omega, hy2] at qm; rw [hst, if_pos (by omega)]; exact hf1 h1 h2)
      ·
        refine jt_ite (fun c722_ => ?_) (fun c722_ => ?_)
        ·
          exact hc56 y1 y2 y5 (show (((40 - y5) * 1) + 0).toNat ≤ n from by omega) (show 0 ≤ y5 from by omega) (show y5 ≤ 39 from by omega) (show y1 = x1 from by omega) (show 0 ≤ y5 from by omega) (show y5 < a0 4 6 from by omega) hy2 (fun h1 h2 => by have qm := hq719_1 (by omega) (by omega); rw [show y1 = x1 from by omega, hy2] at qm; rw [hst, if_neg (by omega), if_pos (by rw [← hf1 h1 h2]; omega)])
        ·
          exact hc44 y1 y2 y4 y5 (show (((40 - y5) * 1) + 0).toNat ≤ n from by omega) (show 0 ≤ y4 from by omega) (show y4 ≤ 39 from by omega) (show 0 ≤ y5 from by omega) (show y5 ≤ 39 from by omega) (show y1 = x1 from by omega) (show 0 ≤ y5 from by omega) (show y5 < a0 4 6 from by omega) hy2 hf1 (fun h1 h2 => by have qm := hq719_1 (by omega) (by omega); rw [show y1 = x1 from by omega, hy2] at qm; omega) (show ¬ y4 = 0 - 1 from by omega)
    ·
      exact jt_rI ⟨rfl, rfl, (fun h1 h2 => by rw [show (a0 4 6).toNat = y5.toNat from by omega]; exact hf1 h1 h2)⟩
  exact ⟨hc56, hc44, hc15⟩
theorem sp_X11_firstReceiver (E : jxE) (d : Nat) (hd : Nat.ble 8 d = true) (x1 : Int) (a0 b0 : Nat → Nat → Int) (hv0 : iv a0) (hp0 : WISHR a0) : jt (jxC E d 174 [.inr (.inr (.inl 0)), .inl x1] (jxSH, a0, b0)) (jQ_X11_firstReceiver x1 a0 b0) := by
  obtain ⟨d, rfl⟩ := jd_succ hd
  refine jt_eq (bq_X11_firstReceiver E d x1 a0 b0) ?_
  refine jt_bJ (sp_X0_reachedBy E d (jd_le hd rfl) x1 a0 b0 hv0) (fun r723_ a723_ b723_ h723_ => ?_)
  obtain ⟨rfl, rfl, hq723_0⟩ := h723_
  have h724_ := iv_get hv0 (k := 4) (j := 6) (l := 0) (u := 40) rfl
  exact (cp_X11_firstReceiver_15 E d hd x1 a0 b0 hv0 hp0 _).2.2 x1 r723_ (-1) 0 (Nat.le_refl _) (show 0 - 1 ≤ (-1) from by omega) (show (-1) ≤ 39 from by omega) (show 0 ≤ 0 from by omega) (show 0 ≤ 40 from by omega) (show x1 = x1 from by omega) (show 0 ≤ 0 from by omega) (show 0 ≤ a0 4 6 from by omega) hq723_0 (fun _ _ => rfl)
def jWsd : List (Nat × Nat) := [(58, 13), (58, 14), (58, 15)]
def jW_X11_send : List (Nat × Nat) := [(58, 8), (58, 13), (58, 14), (58, 15), (59, 9999), (60, 9999), (61, 9999), (62, 9999), (63, 9999), (64, 9999), (65, 9999)]
abbrev jQ_X11_send (x1 x2 x3 : Int) (a0 b0 : Nat → Nat → Int) : List jxV → (Nat → Nat → Int) → (Nat → Nat → Int) → Prop := rI (fun r a b => (iv a) ∧ (jfr jW_X11_send a0 a) ∧ (b0 = b) ∧ (a0 58 8 < 300 → cvC a = vAdd (cvC a0) x1 x2 (a0 0 0) (BNC a0 b0 (f_X3_landOf a0 b0 x1) (f_X3_landOf a0 b0 x2) (f_X6_lost a0 b0)) x3) ∧ (((a0 58 8 < 300 ∧ r = a0 58 8) ∨ (300 ≤ a0 58 8 ∧ r = 0 - 1))) ∧ (300 ≤ a0 58 8 → cvC a = cvC a0))
theorem cp_X11_send_32 (E : jxE) (d : Nat) (hd : Nat.ble 5 (d + 1) = true) (x1 x2 x3 : Int) (a0 b0 : Nat → Nat → Int) (hv0 : iv a0) : ∀ (y1 y2 y3 y4 : Int) (a : Nat → Nat → Int), iv a → jfr jW_X11_send a0 a → (jfr jWsd a0 a) → (y1 = x1) → (y2 = x2) → (y3 = x3) → (y4 = BNC a0 b0 (f_X3_landOf a0 b0 x1) (f_X3_landOf a0 b0 x2) (f_X6_lost a0 b0)) → jt (jxX E d 176 32 [some (.inr (.inr (.inl 0))), some (.inl y1), some (.inl y2), some (.inl y3), some (.inl y4)] [] (jxSH, a, b0)) (jQ_X11_send x1 x2 x3 a0 b0) := by
  intro y1 y2 y3 y4 a hv hf hfe hy1 hy2 hy3 hy4
  refine jt_eq (bq_X11_send_32 E d y1 y2 y3 y4 a b0) ?_
  have e588 := hfe 58 8 rfl
  refine jt_bI (sp_X0_add E d (jd_le hd rfl) y1 y2 (a 0 0) y4 y3 a b0 hv) (fun r725_ a725_ b725_ h725_ => ?_)
  obtain ⟨hv725_, hf725_, rfl, hq725_0, hq725_1, hq725_2⟩ := h725_
  have h726_ := iv_get hv (k := 58) (j := 8) (l := 0) (u := 300) rfl
  have hf727_ : jfr jW_X11_send a0 a725_ := jfr_tr hf hf725_ rfl
  have h728_ := iv_get hv0 (k := 58) (j := 8) (l := 0) (u := 300) rfl
  exact jt_rI ⟨hv725_, hf727_, rfl, (fun h => by have q := hq725_0 (by rw [hfe 58 8 rfl]; exact h); rw [hy1, hy2, hy3, hy4, hfe 0 0 rfl, show cvC a = cvC a0 from cvC_fr hfe rfl] at q; exact q), (show ((a0 58 8 < 300 ∧ r725_ = a0 58 8) ∨ (300 ≤ a0 58 8 ∧ r725_ = 0 - 1)) from by omega), (fun h => (hq725_2 (by rw [hfe 58 8 rfl]; exact h)).trans (cvC_fr hfe rfl))⟩
theorem sp_X11_send (E : jxE) (d : Nat) (hd : Nat.ble 5 d = true) (x1 x2 x3 : Int) (a0 b0 : Nat → Nat → Int) (hv0 : iv a0) : jt (jxC E d 176 [.inr (.inr (.inl 0)), .inl x1, .inl x2, .inl x3] (jxSH, a0, b0)) (jQ_X11_send x1 x2 x3 a0 b0) := by
  obtain ⟨d, rfl⟩ := jd_succ hd
  refine jt_eq (bq_X11_send E d x1 x2 x3 a0 b0) ?_
  refine jt_eI (eq_X3_landOf E d (jd_le hd rfl) x1 a0 b0) ?_
  refine jt_eI (eq_X3_landOf E d (jd_le hd rfl) x2 a0 b0) ?_
  refine jt_eI (eq_X6_lost E d (jd_le hd rfl) a0 b0) ?_
  refine jt_bI (sp_X0_boundBetween E d (jd_le hd rfl) (f_X3_landOf a0 b0 x1) (f_X3_landOf a0 b0 x2) (f_X6_lost a0 b0) a0 b0 hv0) (fun r729_ a729_ b729_ h729_ => ?_)
  obtain ⟨hv729_, hf729_, rfl, hq729_0⟩ := h729_
  have hf730_ : jfr jW_X11_send a0 a729_ := jfr_tr (jfr_rf _ _) hf729_ rfl
  have hf731_ : jfr jWsd a0 a729_ := jfr_tr (jfr_rf _ _) hf729_ rfl
  exact cp_X11_send_32 E d hd x1 x2 x3 a0 b0 hv0 x1 x2 x3 r729_ a729_ hv729_ hf730_ hf731_ (by first | rfl | assumption) (by first | rfl | assumption) (by first | rfl | assumption) hq729_0
