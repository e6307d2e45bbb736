/-! a step, a run, a call: the machine does what the small machine says -/
section JX10
variable {p : Program} {l : Launch} {e : Env} {R : Room} {s : State} {m : MethodId} {args : Array Value} {below : List Frame} {meth : Method} {c : Code} {Q : State → Prop}
variable {B : Nat} {ad : Nat → Nat} {ac : Nat → ClassId} {D : va_G} {E : jxE} {nL n0 m0 d : Nat} {C : jxD}
variable {cc : ByteArray} {pc own y : Nat} {L : jxL} {st : List jxV} {S : jxS} {r : jxR} {go : jxG}
def jxretI (c : Nat) (a : Int) : Prop := c = 1 ∨ (c = 2 ∧ (a = 0 ∨ a = 1)) ∨ (c = 3 ∧ 0 ≤ a ∧ a < 65536) ∨ (c = 4 ∧ -128 ≤ a ∧ a < 128)
def jxretP (y : Nat) (cc : ByteArray) (pc : Nat) (v : List jxV) : Prop := (v = [] ∧ jxret y = 0 ∧ decode cc pc = .ok (.return_, 1)) ∨ (∃ a, v = [.inl a] ∧ decode cc pc = .ok (.ireturn, 1) ∧ jxretI (jxret y) a) ∨ (∃ a, v = [.inr (.inl a)] ∧ jxret y = 5 ∧ decode cc pc = .ok (.lreturn, 1))
theorem jxcond_some {c : Bool} {x : Option jxR} (h : (bif c then x else none) = some r) : c = true ∧ x = some r := by
  cases c
  · cases h
  · exact ⟨rfl, h⟩
theorem jx_char {a : Int} (h : 0 ≤ a ∧ a < 65536) : narrow .char (.int (Int32.ofInt a)) = .int (Int32.ofInt a) := by
  have e : (Int32.ofInt a).toUInt32.toUInt16.toUInt32.toInt32 = Int32.ofInt a := by
    have hx : (Int32.ofInt a).toInt = a := jx_ti ⟨by omega, by omega⟩
    generalize Int32.ofInt a = x at hx ⊢
    have hb : x.toBitVec.toNat < 65536 := by
      have h1 : x.toBitVec.toInt = a := hx
      rw [BitVec.toInt_eq_toNat_cond] at h1
      have := x.toBitVec.isLt
      split at h1 <;> omega
    apply Int32.toBitVec_inj.mp
    apply BitVec.eq_of_toNat_eq
    show ((x.toBitVec.setWidth 16).setWidth 32).toNat = x.toBitVec.toNat
    rw [BitVec.toNat_setWidth, BitVec.toNat_setWidth]
    omega
  show Value.int _ = _
  rw [e]
theorem jx_cat_rev : ∀ l : List jxV, jxcat l.reverse = jxcat l
  | [] => rfl
  | v :: l => by
    have h : ∀ (a b : List jxV), jxcat (a ++ b) = jxcat a + jxcat b := fun a b => by
      induction a with
      | nil => simp [jxcat]
      | cons x a ih => simp [jxcat, ih, Nat.add_assoc]
    rw [List.reverse_cons, h, jx_cat_rev l]
    simp [jxcat, Nat.add_comm]
set_option maxHeartbeats 2000000 in
theorem jxs_inv {idx sp : Nat} (hx : p.tables.exec = Jvm.exec) (hb : c.code = cc) (hml : c.maxLocals = nL) (hts : ∀ w ∈ jxgoodw, w.before args s = true) (hown : s.vm.findClass (jxcn own) = some m.cls) (hst : jxst B ad ac D E s) (hsp3 : sp < 3) (hdg : decode cc pc = .ok (if sp = 0 then .invokestatic idx else if sp = 1 then .invokevirtual idx else .invokespecial idx, 3)) (h : jxinv C S own idx sp st (fun st' S' => go (pc + 3) L st' S') = some r) (hgo : ∀ pc L st S, go pc L st S = some r → jxSim p l e R s m args below meth c Q B ad ac D nL n0 m0 pc L st S) (hle : ∀ pc L st S, go pc L st S = some r → jxle S r.2) (hRc : r.2.1.length - n0 ≤ R.cells) (hRs : jxsz r.2.1 - m0 ≤ R.slots) (hC : ∀ z as q, z < 306 → z ≠ 305 → jxokS S → (∀ v ∈ as, jxokV v) → as.length = jxna z → jxcat as ≤ jxmaxl z → C z as S = some q → jxMet l B ad ac D E d z as S q) (hCle : ∀ z as q, C z as S = some q → jxle S q.2) (hRf : d + 1 ≤ R.frames) (hRl : 41 * (d + 1) ≤ R.locals) : jxSim p l e R s m args below meth c Q B ad ac D nL n0 m0 pc L st S := by
  unfold jxinv at h
  split at h
  · rename_i z hz
    cases hz9 : Nat.beq z 9999 <;> rw [hz9] at h <;> simp only [cond_true, cond_false] at h
    · have hz9n : z ≠ 9999 := Nat.ne_of_beq_eq_false hz9
      cases hg : (Nat.beq (jxkind z) sp && Nat.ble (jxcat (st.drop (jxna z))) 8 && Nat.beq (st.take (jxna z)).length (jxna z) && (Nat.beq sp 0 || jxrcv S z (st.take (jxna z)).reverse) && Nat.ble (jxcat (st.take (jxna z))) (jxmaxl z)) <;> rw [hg] at h <;> simp only [cond_true, cond_false] at h
      · cases h
      · simp only [Bool.and_eq_true, Bool.or_eq_true] at hg
        obtain ⟨⟨⟨⟨g1, g2⟩, g3⟩, g4⟩, g5⟩ := hg
        have g1 := Nat.eq_of_beq_eq_true g1
        have g2 := Nat.le_of_ble_eq_true g2
        have g3 := Nat.eq_of_beq_eq_true g3
        have g5 := Nat.le_of_ble_eq_true g5
        have hL := jxall_at jxchkL_ok hz
        have hzr : z < 306 ∧ z ≠ 305 := by
          unfold jxchkL at hL
          split at hL
          · cases hL
          · rw [hz9] at hL
            simp only [cond_false, Bool.and_eq_true, Bool.not_eq_true'] at hL
            exact ⟨by have := Nat.le_of_ble_eq_true hL.1.1; omega, Nat.ne_of_beq_eq_false hL.1.2⟩
        intro H locs ls hd hl hs
        have has : ∀ v ∈ (st.take (jxna z)).reverse, jxokV v := fun v hv => hs v (List.mem_of_mem_take (List.mem_reverse.mp hv))
        have hrest : ∀ v ∈ st.drop (jxna z), jxokV v := fun v hv => hs v (List.mem_of_mem_drop hv)
        have hst0 : st.map (jxg B ad) = (((st.take (jxna z)).reverse).map (jxg B ad)).reverse ++ (st.drop (jxna z)).map (jxg B ad) := by
          rw [List.map_reverse, List.reverse_reverse, ← List.map_append, List.take_append_drop]
        have hrl : R.frames ≥ d + 1 := hRf
        have key : ∀ (q : jxR), C z (st.take (jxna z)).reverse S = some q → (∀ (H1 : Heap) (locs1 : List Loc), jxdyn B ad ac D s n0 m0 q.2 H1 locs1 → (∀ v ∈ q.1, jxokV v) → W p l e R s m args below meth c H1 locs1 (q.2.1.length - n0) (jxsz q.2.1 - m0) Q (F0 m (pc + 3) ls (q.1.map (jxg B ad) ++ (st.drop (jxna z)).map (jxg B ad)))) → jxle q.2 r.2 → W p l e R s m args below meth c H locs (S.1.length - n0) (jxsz S.1 - m0) Q (F0 m pc ls (st.map (jxg B ad))) := fun q hq kk hqr => by
          have hle1 := hCle _ _ _ hq
          have hM := hC z _ q hzr.1 hzr.2 hd.2.1 has (by rw [List.length_reverse]; exact g3) (by rw [jx_cat_rev]; exact g5) hq
          have hd5 := hd.2.2.2.2
          have q1 := hle1.1
          have q2 := hle1.2
          have q3 := hqr.1
          have q4 := hqr.2
          have e1 : S.1.length - n0 + (q.2.1.length - S.1.length) = q.2.1.length - n0 := by omega
          have e2 : jxsz S.1 - m0 + (jxsz q.2.1 - jxsz S.1) = jxsz q.2.1 - m0 := by omega
          rw [hst0]
          refine jx_back hd hle1 (jx_call hx hb hml hts hown hst hl.1 hz hz9n hdg g1 g2 (by rw [List.length_reverse]; exact g3) (fun h0 => ?_) hd hM hRf hRl (by rw [e1]; omega) (by rw [e2]; omega)) (fun H1 locs1 hd1 hv1 => ?_)
          · rcases g4 with g4 | g4
            · exact absurd (Nat.eq_of_beq_eq_true g4) h0
            · exact g4
          · rw [e1, e2]
            exact kk H1 locs1 hd1 hv1
        cases hs2 : Nat.beq sp 2 <;> rw [hs2] at h <;> simp only [cond_true, cond_false] at h
        · split at h
          · unfold jxbV at h
            split at h
            · rename_i sh a b hq
              cases hsm : jxsame sh S.1 <;> rw [hsm] at h <;> simp only [cond_true, cond_false] at h
              · cases h
              · have : sh = S.1 := of_decide_eq_true hsm
                subst this
                exact key _ hq (fun H1 locs1 hd1 hv1 => hgo _ _ _ _ h H1 locs1 ls hd1 hl hrest) (hle _ _ _ _ h)
            · cases h
          · unfold jxbJ at h
            split at h
            · rename_i v sh a b hq
              cases hsm : jxsame sh S.1 <;> rw [hsm] at h <;> simp only [cond_true, cond_false] at h
              · cases h
              · have : sh = S.1 := of_decide_eq_true hsm
                subst this
                exact key _ hq (fun H1 locs1 hd1 hv1 => hgo _ _ _ _ h H1 locs1 ls hd1 hl (List.forall_mem_cons.mpr ⟨hv1 _ List.mem_cons_self, hrest⟩)) (hle _ _ _ _ h)
            · cases h
          · unfold jxbI at h
            split at h
            · rename_i v sh a b hq
              cases hsm : jxsame sh S.1 <;> rw [hsm] at h <;> simp only [cond_true, cond_false] at h
              · cases h
              · have : sh = S.1 := of_decide_eq_true hsm
                subst this
                exact key _ hq (fun H1 locs1 hd1 hv1 => hgo _ _ _ _ h H1 locs1 ls hd1 hl (List.forall_mem_cons.mpr ⟨hv1 _ List.mem_cons_self, hrest⟩)) (hle _ _ _ _ h)
            · cases h
        · unfold jxbN at h
          split at h
          · rename_i S1 hq
            exact key _ hq (fun H1 locs1 hd1 hv1 => hgo _ _ _ _ h H1 locs1 ls hd1 hl hrest) (hle _ _ _ _ h)
          · cases h
    · have h9 := Nat.eq_of_beq_eq_true hz9
      subst h9
      cases hs2 : Nat.beq sp 2 <;> rw [hs2] at h <;> simp only [cond_true, cond_false] at h
      · cases h
      · have hs2 := Nat.eq_of_beq_eq_true hs2
        subst hs2
        split at h
        · rename_i r0 rest
          cases hg : (Nat.ble 1000 r0 || !(Nat.ble (jxcat rest) 8)) <;> rw [hg] at h <;> simp only [cond_true, cond_false] at h
          · simp only [Bool.or_eq_false_iff, Bool.not_eq_false'] at hg
            have hc8 := Nat.le_of_ble_eq_true hg.2
            have hr0 : r0 < 1000 := Nat.lt_of_not_le (fun q => by rw [Nat.ble_eq_true_of_le q] at hg; cases hg.1)
            intro H locs ls hd hl hs
            rw [List.map_cons, jx_gw hr0]
            have hL := jxall_at jxchkL_ok hz
            unfold jxchkL at hL
            split at hL
            · cases hL
            · simp only [show Nat.beq 9999 9999 = true from rfl, cond_true] at hL
              have hO := jxchkO_ok
              simp only [Bool.and_eq_true] at hO
              refine W.objInit hx hb hown (hts _ (jxat_mem hL)) (hts _ (jxat_mem hO.1)) (hts _ (jxat_mem hO.2)) rfl (by rw [hml]; exact hl.1) rfl hdg (by omega) ?_ ?_
              · have : 2 * (F0 m pc ls (Value.ref (B + r0) :: rest.map (jxg B ad))).monitorRoom + ((rest.map (jxg B ad)).map fun v => v.category).sum ≤ 8 := lv_room (by rw [jx_cat8]; exact hc8)
                omega
              · exact hgo _ _ _ _ h H locs ls hd hl (fun v hv => hs v (List.mem_cons_of_mem _ hv))
          · cases h
        · cases h
  · cases h
theorem jx_ofnl (n : Nat) : Int64.ofInt (n : Int) = Int64.ofNat n := by
  apply Int64.toInt_inj.mp
  rw [Int64.toInt_ofInt, Int64.toInt_ofNat']
theorem jx_i8 {v : Int} (h : -128 ≤ v ∧ v < 128) : (Int8.ofInt v).toInt32 = Int32.ofInt v := by
  apply Int32.toInt_inj.mp
  rw [Int8.toInt_toInt32, Int8.toInt_ofInt_of_le h.1 h.2, jx_ti ⟨by omega, by omega⟩]
theorem jx_i16 {v : Int} (h : -32768 ≤ v ∧ v < 32768) : (Int16.ofInt v).toInt32 = Int32.ofInt v := by
  apply Int32.toInt_inj.mp
  rw [Int16.toInt_toInt32, Int16.toInt_ofInt_of_le h.1 h.2, jx_ti ⟨by omega, by omega⟩]
theorem jx_dg {i : Instr} {n k : Nat} (h : decode cc pc = .ok (i, n)) (hk : Nat.beq n k = true) : decode cc pc = .ok (i, k) := by rw [← Nat.eq_of_beq_eq_true hk]; exact h
theorem jx_dg2 {i : Instr} {n k : Nat} {b : Bool} (h : decode cc pc = .ok (i, n)) (hk : (Nat.beq n k && b) = true) : decode cc pc = .ok (i, k) := by
  simp only [Bool.and_eq_true] at hk
  exact jx_dg h hk.1
theorem jx_ok2 {v lo hi : Int} {b : Bool} (hk : (b && jxint v lo hi) = true) : lo ≤ v ∧ v < hi := by
  simp only [Bool.and_eq_true] at hk
  exact of_decide_eq_true hk.2
set_option maxHeartbeats 4000000 in
theorem jxsim_ins {i : Instr} {n : Nat} (hx : p.tables.exec = Jvm.exec) (hb : c.code = cc) (hml : c.maxLocals = nL) (hts : ∀ w ∈ jxgoodw, w.before args s = true) (hown : s.vm.findClass (jxcn own) = some m.cls) (hst : jxst B ad ac D E s) (hin : jxkind y = 2 → meth.name = "<init>") (hdec : decode cc pc = .ok (i, n)) (hiok : jxiok i n = true) (h : jxins E C y own i go pc L st S = some r) (hgo : ∀ pc L st S, go pc L st S = some r → jxSim p l e R s m args below meth c Q B ad ac D nL n0 m0 pc L st S) (hle : ∀ pc L st S, go pc L st S = some r → jxle S r.2) (hRc : r.2.1.length - n0 ≤ R.cells) (hRs : jxsz r.2.1 - m0 ≤ R.slots) (hC : ∀ z as q, z < 306 → z ≠ 305 → jxokS S → (∀ v ∈ as, jxokV v) → as.length = jxna z → jxcat as ≤ jxmaxl z → C z as S = some q → jxMet l B ad ac D E d z as S q) (hCle : ∀ z as q, C z as S = some q → jxle S q.2) (hRf : d + 1 ≤ R.frames) (hRl : 41 * (d + 1) ≤ R.locals) (hK : ∀ (H : Heap) (locs : List Loc) (ls : Array Slot) (pc : Nat), jxdyn B ad ac D s n0 m0 r.2 H locs → (∀ v ∈ r.1, jxokV v) → jxretP y cc pc r.1 → W p l e R s m args below meth c H locs (r.2.1.length - n0) (jxsz r.2.1 - m0) Q (F0 m pc ls (r.1.map (jxg B ad)))) : jxSim p l e R s m args below meth c Q B ad ac D nL n0 m0 pc L st S := by
  unfold jxins at h
  cases i
  case iadd =>
    dsimp only at h
    unfold jxiok at hiok
    dsimp only at hiok
    exact jxs_p2 (fun H locs k1 k2 ls rest x y k => lv_iadd hx hb (jx_dg hdec hiok) k) (fun a b ha hb => jx_add ha hb) (fun a b => jx_w_in _) h hgo
  case isub =>
    dsimp only at h
    unfold jxiok at hiok
    dsimp only at hiok
    exact jxs_p2 (fun H locs k1 k2 ls rest x y k => lv_isub hx hb (jx_dg hdec hiok) k) (fun a b ha hb => jx_sub ha hb) (fun a b => jx_w_in _) h hgo
  case imul =>
    dsimp only at h
    unfold jxiok at hiok
    dsimp only at hiok
    exact jxs_p2 (fun H locs k1 k2 ls rest x y k => lv_imul hx hb (jx_dg hdec hiok) k) (fun a b ha hb => jx_mul ha hb) (fun a b => jx_w_in _) h hgo
  case idiv =>
    dsimp only at h
    unfold jxiok at hiok
    dsimp only at hiok
    exact jxs_p2d (fun H locs k1 k2 ls rest x y hy k => lv_idiv hx hb (jx_dg hdec hiok) hy k) (fun a b ha hb => jx_div ha hb) (fun a b => jx_w_in _) h hgo
  case irem =>
    dsimp only at h
    unfold jxiok at hiok
    dsimp only at hiok
    exact jxs_p2d (fun H locs k1 k2 ls rest x y hy k => lv_irem hx hb (jx_dg hdec hiok) hy k) (fun a b ha hb => jx_rem ha hb) (fun a b => jx_w_in _) h hgo
  case iand =>
    dsimp only at h
    unfold jxiok at hiok
    dsimp only at hiok
    exact jxs_p2 (fun H locs k1 k2 ls rest x y k => lv_iand hx hb (jx_dg hdec hiok) k) (fun a b _ _ => (jx_of _).symm) (fun a b => jx_in _) h hgo
  case ior =>
    dsimp only at h
    unfold jxiok at hiok
    dsimp only at hiok
    exact jxs_p2 (fun H locs k1 k2 ls rest x y k => lv_ior hx hb (jx_dg hdec hiok) k) (fun a b _ _ => (jx_of _).symm) (fun a b => jx_in _) h hgo
  case ixor =>
    dsimp only at h
    unfold jxiok at hiok
    dsimp only at hiok
    exact jxs_p2 (fun H locs k1 k2 ls rest x y k => lv_ixor hx hb (jx_dg hdec hiok) k) (fun a b _ _ => (jx_of _).symm) (fun a b => jx_in _) h hgo
  case ishl =>
    dsimp only at h
    unfold jxiok at hiok
    dsimp only at hiok
    exact jxs_p2 (fun H locs k1 k2 ls rest x y k => lv_ishl hx hb (jx_dg hdec hiok) k) (fun a b _ _ => (jx_of _).symm) (fun a b => jx_in _) h hgo
  case ishr =>
    dsimp only at h
    unfold jxiok at hiok
    dsimp only at hiok
    exact jxs_p2 (fun H locs k1 k2 ls rest x y k => lv_ishr hx hb (jx_dg hdec hiok) k) (fun a b _ _ => (jx_of _).symm) (fun a b => jx_in _) h hgo
  case iushr =>
    dsimp only at h
    unfold jxiok at hiok
    dsimp only at hiok
    exact jxs_p2 (f := fun x y => (x.toUInt32 >>> (y.toUInt32 &&& Int32.toUInt32 31)).toInt32) (fun H locs k1 k2 ls rest x y k => lv_iushr hx hb (jx_dg hdec hiok) rfl k) (fun a b _ _ => (jx_of _).symm) (fun a b => jx_in _) h hgo
  case ineg =>
    dsimp only at h
    unfold jxiok at hiok
    dsimp only at hiok
    exact jxs_p1 (fun H locs k1 k2 ls rest x k => lv_ineg hx hb (jx_dg hdec hiok) k) (fun a ha => jx_neg ha) (fun a => jx_w_in _) h hgo
  case i2b =>
    dsimp only at h
    unfold jxiok at hiok
    dsimp only at hiok
    exact jxs_p1 (f := fun x => x.toInt8.toInt32) (fun H locs k1 k2 ls rest x k => lv_i2b hx hb (jx_dg hdec hiok) rfl k) (fun a _ => (jx_of _).symm) (fun a => jx_in _) h hgo
  case i2c =>
    dsimp only at h
    unfold jxiok at hiok
    dsimp only at hiok
    exact jxs_p1 (f := fun x => (x.toUInt32 % 65536).toInt32) (fun H locs k1 k2 ls rest x k => lv_i2c hx hb (jx_dg hdec hiok) rfl k) (fun a _ => (jx_of _).symm) (fun a => jx_in _) h hgo
  case i2l =>
    dsimp only at h
    unfold jxiok at hiok
    dsimp only at hiok
    exact jxs_i2l (fun H locs k1 k2 ls rest x k => lv_i2l hx hb (jx_dg hdec hiok) rfl k) h hgo
  case l2i =>
    dsimp only at h
    unfold jxiok at hiok
    dsimp only at hiok
    exact jxs_l2i (fun H locs k1 k2 ls rest x k => lv_l2i hx hb (jx_dg hdec hiok) rfl k) h hgo
  case ladd =>
    dsimp only at h
    unfold jxiok at hiok
    dsimp only at hiok
    exact jxs_p2l (fun H locs k1 k2 ls rest x y k => lv_ladd hx hb (jx_dg hdec hiok) k) (fun a b ha hb => jx_addl ha hb) (fun a b => jx_wl_in _) h hgo
  case lsub =>
    dsimp only at h
    unfold jxiok at hiok
    dsimp only at hiok
    exact jxs_p2l (fun H locs k1 k2 ls rest x y k => lv_lsub hx hb (jx_dg hdec hiok) k) (fun a b ha hb => jx_subl ha hb) (fun a b => jx_wl_in _) h hgo
  case lmul =>
    dsimp only at h
    unfold jxiok at hiok
    dsimp only at hiok
    exact jxs_p2l (fun H locs k1 k2 ls rest x y k => lv_lmul hx hb (jx_dg hdec hiok) k) (fun a b ha hb => jx_mull ha hb) (fun a b => jx_wl_in _) h hgo
  case land =>
    dsimp only at h
    unfold jxiok at hiok
    dsimp only at hiok
    exact jxs_p2l (fun H locs k1 k2 ls rest x y k => lv_land hx hb (jx_dg hdec hiok) k) (fun a b _ _ => (jx_ofl _).symm) (fun a b => jx_inl _) h hgo
  case lor =>
    dsimp only at h
    unfold jxiok at hiok
    dsimp only at hiok
    exact jxs_p2l (fun H locs k1 k2 ls rest x y k => lv_lor hx hb (jx_dg hdec hiok) k) (fun a b _ _ => (jx_ofl _).symm) (fun a b => jx_inl _) h hgo
  case lshl =>
    dsimp only at h
    unfold jxiok at hiok
    dsimp only at hiok
    exact jxs_psl (f := fun x y => x <<< (y.toInt64 &&& 63)) (fun H locs k1 k2 ls rest x y k => lv_lshl hx hb (jx_dg hdec hiok) rfl k) (fun a b => (jx_ofl _).symm) (fun a b => jx_inl _) h hgo
  case lshr =>
    dsimp only at h
    unfold jxiok at hiok
    dsimp only at hiok
    exact jxs_psl (f := fun x y => x >>> (y.toInt64 &&& 63)) (fun H locs k1 k2 ls rest x y k => lv_lshr hx hb (jx_dg hdec hiok) rfl k) (fun a b => (jx_ofl _).symm) (fun a b => jx_inl _) h hgo
  case lcmp =>
    dsimp only at h
    unfold jxiok at hiok
    dsimp only at hiok
    exact jxs_lcmp hx hb (jx_dg hdec hiok) h hgo
  case iload_n =>
    dsimp only at h
    unfold jxiok at hiok
    dsimp only at hiok
    exact jxs_iload (fun H locs k1 k2 ls rest x hl k => lv_iload_n hx hb (jx_dg hdec hiok) rfl hl k) h hgo
  case iload =>
    dsimp only at h
    unfold jxiok at hiok
    dsimp only at hiok
    exact jxs_iload (fun H locs k1 k2 ls rest x hl k => lv_iload hx hb (jx_dg hdec hiok) hl k) h hgo
  case lload_n =>
    dsimp only at h
    unfold jxiok at hiok
    dsimp only at hiok
    exact jxs_lload (fun H locs k1 k2 ls rest x hl k => lv_lload_n hx hb (jx_dg hdec hiok) rfl hl k) h hgo
  case lload =>
    dsimp only at h
    unfold jxiok at hiok
    dsimp only at hiok
    exact jxs_lload (fun H locs k1 k2 ls rest x hl k => lv_lload hx hb (jx_dg hdec hiok) hl k) h hgo
  case aload_n =>
    dsimp only at h
    unfold jxiok at hiok
    dsimp only at hiok
    exact jxs_aload (fun H locs k1 k2 ls rest x hl k => lv_aload_n hx hb (jx_dg hdec hiok) rfl hl k) h hgo
  case aload =>
    dsimp only at h
    unfold jxiok at hiok
    dsimp only at hiok
    exact jxs_aload (fun H locs k1 k2 ls rest x hl k => lv_aload hx hb (jx_dg hdec hiok) hl k) h hgo
  case istore_n =>
    dsimp only at h
    unfold jxiok at hiok
    dsimp only at hiok
    exact jxs_istore (fun H locs k1 k2 ls rest x lv hl hn k => lv_istore_n hx hb (jx_dg hdec hiok) rfl hl hn rfl k) h hgo
  case istore =>
    dsimp only at h
    unfold jxiok at hiok
    dsimp only at hiok
    exact jxs_istore (fun H locs k1 k2 ls rest x lv hl hn k => lv_istore hx hb (jx_dg hdec hiok) hl hn rfl k) h hgo
  case lstore_n =>
    dsimp only at h
    unfold jxiok at hiok
    dsimp only at hiok
    exact jxs_lstore (fun H locs k1 k2 ls rest x lv hl hn k => lv_lstore_n hx hb (jx_dg hdec hiok) rfl hl hn rfl k) h hgo
  case lstore =>
    dsimp only at h
    unfold jxiok at hiok
    dsimp only at hiok
    exact jxs_lstore (fun H locs k1 k2 ls rest x lv hl hn k => lv_lstore hx hb (jx_dg hdec hiok) hl hn rfl k) h hgo
  case astore_n =>
    dsimp only at h
    unfold jxiok at hiok
    dsimp only at hiok
    exact jxs_astore hx hb (jx_dg hdec hiok) h hgo
  case iinc =>
    dsimp only at h
    unfold jxiok at hiok
    dsimp only at hiok
    have h9 := jx_ok2 hiok; exact jxs_iinc hx hb ⟨by omega, by omega⟩ (jx_dg2 hdec hiok) h hgo
  case iconst =>
    dsimp only at h
    unfold jxiok at hiok
    dsimp only at hiok
    have h9 := jx_ok2 hiok; rename_i v0; exact jxs_push (v := .inl v0) (fun H locs k1 k2 ls rest k => lv_iconst hx hb (jx_dg2 hdec hiok) rfl k) (show jxin v0 from ⟨by omega, by omega⟩) h hgo
  case bipush =>
    dsimp only at h
    unfold jxiok at hiok
    dsimp only at hiok
    have h9 := jx_ok2 hiok; rename_i v0; exact jxs_push (v := .inl v0) (fun H locs k1 k2 ls rest k => lv_bipush hx hb (jx_dg2 hdec hiok) (jx_i8 h9) k) (show jxin v0 from ⟨by omega, by omega⟩) h hgo
  case sipush =>
    dsimp only at h
    unfold jxiok at hiok
    dsimp only at hiok
    have h9 := jx_ok2 hiok; rename_i v0; exact jxs_push (v := .inl v0) (fun H locs k1 k2 ls rest k => lv_sipush hx hb (jx_dg2 hdec hiok) (jx_i16 h9) k) (show jxin v0 from ⟨by omega, by omega⟩) h hgo
  case lconst =>
    dsimp only at h
    unfold jxiok at hiok
    dsimp only at hiok
    rename_i k0
    refine jxs_push (v := .inr (.inl ((k0 : Nat) : Int))) (fun H locs k1 k2 ls rest k => lv_lconst hx hb (jx_dg hdec hiok) (by show Int64.ofNat _ = Int64.ofInt _; rw [jx_ofnl]) k) (show jxinl _ from ⟨by omega, by have := k0.isLt; omega⟩) h hgo
  case ldc =>
    dsimp only at h
    unfold jxiok at hiok
    dsimp only at hiok
    exact jxs_ldc hx hb hts hown hst (jx_dg hdec hiok) h hgo
  case ldc_w =>
    dsimp only at h
    unfold jxiok at hiok
    dsimp only at hiok
    exact jxs_ldcw hx hb hts hown hst (jx_dg hdec hiok) h hgo
  case ldc2_w =>
    dsimp only at h
    unfold jxiok at hiok
    dsimp only at hiok
    exact jxs_ldc2 hx hb hts hown hst (jx_dg hdec hiok) h hgo
  case getstatic =>
    dsimp only at h
    unfold jxiok at hiok
    dsimp only at hiok
    exact jxs_gets hx hb hts hown hst (jx_dg hdec hiok) h hgo
  case getfield =>
    dsimp only at h
    unfold jxiok at hiok
    dsimp only at hiok
    exact jxs_get hx hb hts hown hst (jx_dg hdec hiok) h hgo
  case putfield =>
    dsimp only at h
    unfold jxiok at hiok
    dsimp only at hiok
    exact jxs_put hx hb hts hown hst hin (jx_dg hdec hiok) h hgo
  case ifCond =>
    dsimp only at h
    unfold jxiok at hiok
    dsimp only at hiok
    exact jxs_if hx hb (jx_dg hdec hiok) h hgo
  case if_icmp =>
    dsimp only at h
    unfold jxiok at hiok
    dsimp only at hiok
    exact jxs_icmp hx hb (jx_dg hdec hiok) h hgo
  case goto =>
    dsimp only at h
    unfold jxiok at hiok
    dsimp only at hiok
    exact jxs_goto hx hb (jx_dg hdec hiok) h hgo
  case dup =>
    dsimp only at h
    unfold jxiok at hiok
    dsimp only at hiok
    exact jxs_dup hx hb (jx_dg hdec hiok) h hgo
  case pop =>
    dsimp only at h
    unfold jxiok at hiok
    dsimp only at hiok
    exact jxs_pop hx hb (jx_dg hdec hiok) h hgo
  case dup_x1 =>
    dsimp only at h
    unfold jxiok at hiok
    dsimp only at hiok
    exact jxs_dupx hx hb (jx_dg hdec hiok) h hgo
  case dup2 =>
    dsimp only at h
    unfold jxiok at hiok
    dsimp only at hiok
    exact jxs_dup2 hx hb (jx_dg hdec hiok) h hgo
  case tableswitch =>
    dsimp only at h
    exact jxs_switch hx hb hdec h hgo
  case iaload =>
    dsimp only at h
    unfold jxiok at hiok
    dsimp only at hiok
    exact jxs_iald hx hb hst (jx_dg hdec hiok) h hgo
  case baload =>
    dsimp only at h
    unfold jxiok at hiok
    dsimp only at hiok
    exact jxs_bald hx hb hst (jx_dg hdec hiok) h hgo
  case laload =>
    dsimp only at h
    unfold jxiok at hiok
    dsimp only at hiok
    exact jxs_lald hx hb hst (jx_dg hdec hiok) h hgo
  case aaload =>
    dsimp only at h
    unfold jxiok at hiok
    dsimp only at hiok
    exact jxs_aald hx hb hst (jx_dg hdec hiok) h hgo
  case iastore =>
    dsimp only at h
    unfold jxiok at hiok
    dsimp only at hiok
    exact jxs_iast hx hb hst (jx_dg hdec hiok) h hgo
  case bastore =>
    dsimp only at h
    unfold jxiok at hiok
    dsimp only at hiok
    exact jxs_bast hx hb hst (jx_dg hdec hiok) h hgo
  case lastore =>
    dsimp only at h
    unfold jxiok at hiok
    dsimp only at hiok
    exact jxs_last hx hb hst (jx_dg hdec hiok) h hgo
  case arraylength =>
    dsimp only at h
    unfold jxiok at hiok
    dsimp only at hiok
    exact jxs_alen hx hb hst (jx_dg hdec hiok) h hgo
  case newarray =>
    dsimp only at h
    unfold jxiok at hiok
    dsimp only at hiok
    exact jxs_newa hx hb hts hown hst (jx_dg hdec hiok) h hgo hle hRc hRs
  case new =>
    dsimp only at h
    unfold jxiok at hiok
    dsimp only at hiok
    exact jxs_new hx hb hts hown hst (jx_dg hdec hiok) h hgo hle hRc hRs
  case multianewarray =>
    dsimp only at h
    unfold jxiok at hiok
    dsimp only at hiok
    rename_i idx dims
    obtain ⟨h1, hh⟩ := jxcond_some h
    simp only [Bool.and_eq_true] at h1
    obtain ⟨h2, h3⟩ := h1
    have h2 := Nat.eq_of_beq_eq_true h2
    subst h2
    split at h3
    · rename_i hcl
      exact jxs_newg hx hb hts hown hst (jx_dg hdec hiok) hcl hh hgo hle hRc hRs
    · cases h3
  case invokestatic =>
    dsimp only at h
    unfold jxiok at hiok
    dsimp only at hiok
    exact jxs_inv (sp := 0) hx hb hml hts hown hst (by decide) (jx_dg hdec hiok) h hgo hle hRc hRs hC hCle hRf hRl
  case invokevirtual =>
    dsimp only at h
    unfold jxiok at hiok
    dsimp only at hiok
    exact jxs_inv (sp := 1) hx hb hml hts hown hst (by decide) (jx_dg hdec hiok) h hgo hle hRc hRs hC hCle hRf hRl
  case invokespecial =>
    dsimp only at h
    unfold jxiok at hiok
    dsimp only at hiok
    exact jxs_inv (sp := 2) hx hb hml hts hown hst (by decide) (jx_dg hdec hiok) h hgo hle hRc hRs hC hCle hRf hRl
  case ireturn =>
    dsimp only at h
    unfold jxiok at hiok
    dsimp only at hiok
    unfold jxreti at h
    split at h
    · rename_i a
      have key : ∀ (hp : jxretI (jxret y) a), some (([.inl a], S) : jxR) = some r → jxSim p l e R s m args below meth c Q B ad ac D nL n0 m0 pc L [.inl a] S := fun hp hr => by
        cases hr
        intro H locs ls hd hl hs
        exact hK H locs ls pc hd hs (Or.inr (Or.inl ⟨a, rfl, jx_dg hdec hiok, hp⟩))
      split at h
      · rename_i h0; exact key (Or.inl h0) h
      · rename_i h0
        split at h
        · rename_i h1; exact key (Or.inr (Or.inl ⟨h0, h1⟩)) h
        · cases h
      · rename_i h0
        split at h
        · rename_i h1; exact key (Or.inr (Or.inr (Or.inl ⟨h0, h1.1, h1.2⟩))) h
        · cases h
      · rename_i h0
        split at h
        · rename_i h1; exact key (Or.inr (Or.inr (Or.inr ⟨h0, h1.1, h1.2⟩))) h
        · cases h
      · cases h
    · cases h
  case lreturn =>
    dsimp only at h
    unfold jxiok at hiok
    dsimp only at hiok
    split at h
    · rename_i a
      cases h0 : Nat.beq (jxret y) 5 <;> rw [h0] at h <;> simp only [cond_true, cond_false] at h
      · cases h
      · cases h
        intro H locs ls hd hl hs
        exact hK H locs ls pc hd hs (Or.inr (Or.inr ⟨a, rfl, Nat.eq_of_beq_eq_true h0, jx_dg hdec hiok⟩))
    · cases h
  case return_ =>
    dsimp only at h
    unfold jxiok at hiok
    dsimp only at hiok
    split at h
    · cases h0 : Nat.beq (jxret y) 0 <;> rw [h0] at h <;> simp only [cond_true, cond_false] at h
      · cases h
      · cases h
        intro H locs ls hd hl hs
        exact hK H locs ls pc hd hs (Or.inl ⟨rfl, Nat.eq_of_beq_eq_true h0, jx_dg hdec hiok⟩)
    · cases h
  all_goals cases h

theorem jxsim_run (hy : y < 306) (hx : p.tables.exec = Jvm.exec) (hb : c.code = cc) (hml : c.maxLocals = nL) (hcc : cc = jxcd y) (hown : s.vm.findClass (jxcn (jxown y)) = some m.cls) (hts : ∀ w ∈ jxgoodw, w.before args s = true) (hst : jxst B ad ac D E s) (hin : jxkind y = 2 → meth.name = "<init>") (hRc : r.2.1.length - n0 ≤ R.cells) (hRs : jxsz r.2.1 - m0 ≤ R.slots)
    (hC : ∀ z as S q, z < 306 → z ≠ 305 → jxokS S → (∀ v ∈ as, jxokV v) → as.length = jxna z → jxcat as ≤ jxmaxl z → C z as S = some q → jxMet l B ad ac D E d z as S q) (hCle : ∀ z as S q, C z as S = some q → jxle S q.2) (hRf : d + 1 ≤ R.frames) (hRl : 41 * (d + 1) ≤ R.locals) (hK : ∀ (H : Heap) (locs : List Loc) (ls : Array Slot) (pc : Nat), jxdyn B ad ac D s n0 m0 r.2 H locs → (∀ v ∈ r.1, jxokV v) → jxretP y cc pc r.1 → W p l e R s m args below meth c H locs (r.2.1.length - n0) (jxsz r.2.1 - m0) Q (F0 m pc ls (r.1.map (jxg B ad)))) :
    ∀ (f pc : Nat) (L : jxL) (st : List jxV) (S : jxS), jxrun E C y f pc L st S = some r → jxSim p l e R s m args below meth c Q B ad ac D nL n0 m0 pc L st S := by
  intro f
  induction f with
  | zero => intro pc L st S h; cases h
  | succ f ih =>
    intro pc L st S h
    have h2 : jxstep E C y (jxgo y (jxrun E C y f)) pc L st S = some r := h
    unfold jxstep at h2
    split at h2
    · cases h2
    · rename_i i n hi
      obtain ⟨k1, k2⟩ := jxcode_ok hy hi
      refine jxsim_ins (own := jxown y) hx hb hml hts hown hst hin (by rw [hcc]; exact k1) k2 h2 (fun pc2 L2 st2 S2 h3 => ?_) (fun pc2 L2 st2 S2 h3 => jxrun_le (fun z as S q hq => hCle z as S q hq) f _ _ _ _ _ h3) hRc hRs (fun z as q => hC z as S q) (fun z as q => hCle z as S q) hRf hRl hK
      intro H locs ls hd hl hs
      unfold jxgo at h3
      split at h3
      · exact ih _ _ _ _ h3 H locs ls hd hl hs
      · exact ih _ _ _ _ h3 H locs ls hd (jxLs_keep _ hl) hs
/-! the entry of a method -/
theorem jxarg_get : ∀ (as : List jxV) (k i : Nat) (x : jxV), (jxarg as)[i]? = some (some x) → (k + i, jxg B ad x) ∈ lv_args k (as.map (jxg B ad)) ∧ x ∈ as
  | [], _, _, _, h => by simp [jxarg] at h
  | v :: as, k, i, x, h => by
    unfold jxarg at h
    rw [List.map_cons]
    show _ ∈ (k, jxg B ad v) :: lv_args (if (jxg B ad v).category = 2 then k + 2 else k + 1) (as.map (jxg B ad)) ∧ _
    rw [jxg_cat]
    cases i with
    | zero =>
      simp only [List.getElem?_cons_zero, Option.some.injEq] at h
      subst h
      exact ⟨List.mem_cons_self, List.mem_cons_self⟩
    | succ i =>
      rw [List.getElem?_cons_succ] at h
      cases hv : jxlong v <;> rw [hv] at h <;> simp only [cond_true, cond_false] at h ⊢
      · obtain ⟨h1, h2⟩ := jxarg_get as (k + 1) i x h
        rw [if_neg (by decide)]
        exact ⟨List.mem_cons_of_mem _ (by rw [show k + (i + 1) = k + 1 + i by omega]; exact h1), List.mem_cons_of_mem _ h2⟩
      · cases i with
        | zero => simp at h
        | succ i =>
          rw [List.getElem?_cons_succ] at h
          obtain ⟨h1, h2⟩ := jxarg_get as (k + 2) i x h
          rw [if_pos trivial]
          exact ⟨List.mem_cons_of_mem _ (by rw [show k + (i + 1 + 1) = k + 2 + i by omega]; exact h1), List.mem_cons_of_mem _ h2⟩
theorem jxarg_len : ∀ as : List jxV, (jxarg as).length = jxcat as
  | [] => rfl
  | v :: as => by
    unfold jxarg jxcat
    cases hv : jxlong v <;> simp [jxarg_len as] <;> omega
theorem lg_sl_len : ∀ as : List jxV, (lg_sl (as.map (jxg B ad))).length = jxcat as
  | [] => rfl
  | v :: as => by
    have := lg_sl_len as
    unfold lg_sl at this ⊢
    rw [List.map_cons, List.flatMap_cons, List.length_append, this, jxg_cat]
    show _ = (bif jxlong v then 2 else 1) + jxcat as
    cases hv : jxlong v <;> simp
theorem jx_entry {z : Nat} {as : List jxV} (hc : jxcat as ≤ jxmaxl z) (has : ∀ v ∈ as, jxokV v) : jxLs B ad ((lg_sl (as.map (jxg B ad)) ++ List.replicate (jxmaxl z - (lg_sl (as.map (jxg B ad))).length) Slot.unset).toArray) (jxmaxl z) (jxent z as) := by
  have h := lv_entry (as.map (jxg B ad)) (n := jxmaxl z) (by rw [lg_sl_len]; exact hc)
  refine ⟨h.1, h.2.1, ?_, fun i x hx => ?_⟩
  · unfold jxent
    rw [List.length_append, List.length_replicate, jxarg_len]
    omega
  · unfold jxent at hx
    by_cases hi : i < (jxarg as).length
    · rw [List.getElem?_append_left hi] at hx
      obtain ⟨h1, h2⟩ := jxarg_get (B := B) (ad := ad) as 0 i x hx
      rw [Nat.zero_add] at h1
      exact ⟨h.2.2 _ h1, has x h2⟩
    · rw [List.getElem?_append_right (by omega), List.getElem?_replicate] at hx
      split at hx <;> cases hx
set_option maxHeartbeats 2000000 in
/-- EVERY CALL: what the small machine says, the machine does -/
theorem jxmet (l : Launch) : ∀ (d z : Nat) (as : List jxV) (S : jxS) (q : jxR), z < 306 → z ≠ 305 → jxokS S → (∀ v ∈ as, jxokV v) → as.length = jxna z → jxcat as ≤ jxmaxl z → jxC E d z as S = some q → jxMet l B ad ac D E d z as S q := by
  intro d
  induction d with
  | zero => intro z as S q _ _ _ _ _ _ h; cases h
  | succ d ih =>
    intro z as S q hz hzl hok has hna hcat h
    obtain ⟨f, hf⟩ := jxlim_ex h
    have hle := jxC_le E (d + 1) z as S q h
    have hMk := jxchkM_ok hz hzl
    have hMk0 := hMk
    unfold jxchkM at hMk
    split at hMk
    · cases hMk
    · rename_i pa pb pcc pdd hpM
      simp only [Bool.and_eq_true, decide_eq_true_eq] at hMk
      obtain ⟨⟨⟨⟨⟨⟨⟨hc1, hc2⟩, hc3⟩, hc4⟩, hc5⟩, hc6⟩, hc7⟩, hc8⟩ := hMk
      unfold jxMet
      refine va_MetF (cc := jxcd z) (maxL := jxmaxl z) (ret := jxrt z) (ws' := jxgoodw) hc3 rfl ?_
      intro p e s m args below meth c s₁ Bd hml hv
      obtain ⟨rfl, hsz, hPh, hst⟩ := hv
      have hx := Bd.exec
      have hb := Bd.bytes
      have hr := Bd.returns
      have hts0 := atoms_spec (ws := jxws z) Bd.pre
      have hts : ∀ w ∈ jxgoodw, w.before (as.map (jxg B ad)).toArray s = true := fun w hw => hts0 w (List.mem_cons_of_mem _ hw)
      have hown : s.vm.findClass (jxcn (jxown z)) = some m.cls := by rw [hc8]; exact findClass_of_methodNamed Bd.named
      have hlocks := Bd.notSynchronized
      have hin : jxkind z = 2 → meth.name = "<init>" := fun hk => by
        have h1 := (name_of_methodNamed Bd.named Bd.method).1
        rw [h1]
        rw [hk] at hc7
        simp only [Bool.and_eq_true, decide_eq_true_eq] at hc7
        exact hc7.1.1.1.2
      rw [lg_entry_eq]
      have hK : ∀ (H : Heap) (locs : List Loc) (ls : Array Slot) (pc : Nat), jxdyn B ad ac D s S.1.length (jxsz S.1) q.2 H locs → (∀ v ∈ q.1, jxokV v) → jxretP z (jxcd z) pc q.1 → W p l e (jxrm (d + 1) (q.2.1.length - S.1.length) (jxsz q.2.1 - jxsz S.1)) s m (as.map (jxg B ad)).toArray below meth c H locs (q.2.1.length - S.1.length) (jxsz q.2.1 - jxsz S.1) (MQ below (jxQc B ad ac D q) (as.map (jxg B ad)).toArray s (q.2.1.length - S.1.length) (jxsz q.2.1 - jxsz S.1) (fun x => B ≤ x)) (F0 m pc ls (q.1.map (jxg B ad))) := by
        intro H locs ls pc hd hvs hret
        have hqc : ∀ t : State, t.heap = H → jxQc B ad ac D q (as.map (jxg B ad)).toArray s (.returned ((q.1.map (jxg B ad)).head?)) t := fun t ht => by
          refine ⟨rfl, by rw [ht]; exact hd.2.2.1, by rw [ht]; exact hd.1, hd.2.2.2.1.F ht, hd.2.1, hvs, ?_⟩
          rcases hret with ⟨h1, -⟩ | ⟨a, h1, -⟩ | ⟨a, h1, -⟩ <;> rw [h1] <;> simp
        rcases hret with ⟨h1, h2, h3⟩ | ⟨a, h1, h3, h2⟩ | ⟨a, h1, h2, h3⟩
        · rw [h1]
          refine W.vret hx hb (by rw [hr]; unfold jxrt; rw [h2]; rfl) (fun t ht hW => ?_) hd.2.2.2.1.2.2 h3
          have := hqc t ht
          rw [h1] at this
          exact this
        · rw [h1]
          have hret2 : ∃ ty, jxrt z = some ty ∧ narrow ty (.int (Int32.ofInt a)) = .int (Int32.ofInt a) := by
            unfold jxrt
            rcases h2 with h2 | ⟨h2, h4⟩ | ⟨h2, h4⟩ | ⟨h2, h4⟩ <;> rw [h2]
            · exact ⟨.int, rfl, rfl⟩
            · exact ⟨.boolean, rfl, jx_bool h4⟩
            · exact ⟨.char, rfl, jx_char h4⟩
            · exact ⟨.byte, rfl, jx_byte h4⟩
          obtain ⟨ty, ht1, ht2⟩ := hret2
          refine W.zret hx hb (by rw [hr]; exact ht1) ht2 (fun t ht hW => ?_) hd.2.2.2.1.2.2 h3
          have := hqc t ht
          rw [h1] at this
          exact this
        · rw [h1]
          refine W.lret hx hb (by rw [hr]; unfold jxrt; rw [h2]; rfl) (fun t ht hW => ?_) hd.2.2.2.1.2.2 h3
          have := hqc t ht
          rw [h1] at this
          exact this
      have hsim := jxsim_run (R := jxrm (d + 1) (q.2.1.length - S.1.length) (jxsz q.2.1 - jxsz S.1)) (n0 := S.1.length) (m0 := jxsz S.1) (d := d) (C := jxC E d) hz hx hb hml rfl hown hts hst hin (Nat.le_refl _) (Nat.le_refl _) (fun z as S q a1 a2 a3 a4 a5 a6 a7 => ih z as S q a1 a2 a3 a4 a5 a6 a7) (fun z as S q hq => jxC_le E d z as S q hq) (by show d + 1 ≤ d + 1; omega) (by show 41 * (d + 1) ≤ 41 * (d + 1); omega) hK f 0 (jxent z as) [] S hf
      have h0 := hsim s.heap [] _ ⟨hPh, hok, hsz, va_S.rf, Nat.le_refl _, Nat.le_refl _⟩ (jx_entry hcat has) (fun v hv => absurd hv List.not_mem_nil)
      rw [Nat.sub_self, Nat.sub_self] at h0
      exact h0
end JX10
