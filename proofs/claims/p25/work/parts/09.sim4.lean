/-! one instruction -/
section JX4
variable {p : Program} {l : Launch} {e : Env} {R : Room} {s : State} {m : MethodId} {args : Array Value} {below : List Frame} {meth : Method} {c : Code} {Q : State → Prop}
variable {B : Nat} {ad : Nat → Nat} {ac : Nat → ClassId} {D : va_G} {E : jxE} {nL n0 m0 : Nat}
def jxSim (p : Program) (l : Launch) (e : Env) (R : Room) (s : State) (m : MethodId) (args : Array Value) (below : List Frame) (meth : Method) (c : Code) (Q : State → Prop) (B : Nat) (ad : Nat → Nat) (ac : Nat → ClassId) (D : va_G) (nL n0 m0 : Nat) (pc : Nat) (L : jxL) (st : List jxV) (S : jxS) : Prop :=
  ∀ (H : Heap) (locs : List Loc) (ls : Array Slot), jxdyn B ad ac D s n0 m0 S H locs → jxLs B ad ls nL L → (∀ v ∈ st, jxokV v) → W p l e R s m args below meth c H locs (S.1.length - n0) (jxsz S.1 - m0) Q (F0 m pc ls (st.map (jxg B ad)))
variable {cc : ByteArray} {pc : Nat} {L : jxL} {st : List jxV} {S : jxS} {r : jxR} {go : jxG}
theorem jxs_p2 {f : Int32 → Int32 → Int32} {g : Int → Int → Int} (row : ∀ (H : Heap) (locs : List Loc) (k1 k2 : Nat) (ls : Array Slot) (rest : List Value) (x y : Int32), W p l e R s m args below meth c H locs k1 k2 Q (F0 m (pc + 1) ls (.int (f x y) :: rest)) → W p l e R s m args below meth c H locs k1 k2 Q (F0 m pc ls (.int y :: .int x :: rest)))
    (hf : ∀ a b, jxin a → jxin b → f (Int32.ofInt a) (Int32.ofInt b) = Int32.ofInt (g a b)) (hi : ∀ a b, jxin (g a b)) (h : jxp2 st (fun a b r => go (pc + 1) L (.inl (g a b) :: r) S) = some r) (hgo : ∀ pc L st S, go pc L st S = some r → jxSim p l e R s m args below meth c Q B ad ac D nL n0 m0 pc L st S) : jxSim p l e R s m args below meth c Q B ad ac D nL n0 m0 pc L st S := by
  unfold jxp2 at h
  split at h
  · rename_i b a rest
    intro H locs ls hd hl hs
    have ha : jxin a := hs (.inl a) (by simp)
    have hb : jxin b := hs (.inl b) (by simp)
    refine row H locs _ _ ls _ _ _ ?_
    rw [hf a b ha hb]
    exact hgo _ _ _ _ h H locs ls hd hl (List.forall_mem_cons.mpr ⟨hi a b, fun v hv => hs v (List.mem_cons_of_mem _ (List.mem_cons_of_mem _ hv))⟩)
  · cases h
theorem jxs_p2d {f : Int32 → Int32 → Int32} {g : Int → Int → Int} (row : ∀ (H : Heap) (locs : List Loc) (k1 k2 : Nat) (ls : Array Slot) (rest : List Value) (x y : Int32), ¬ y = 0 → W p l e R s m args below meth c H locs k1 k2 Q (F0 m (pc + 1) ls (.int (f x y) :: rest)) → W p l e R s m args below meth c H locs k1 k2 Q (F0 m pc ls (.int y :: .int x :: rest)))
    (hf : ∀ a b, jxin a → jxin b → f (Int32.ofInt a) (Int32.ofInt b) = Int32.ofInt (g a b)) (hi : ∀ a b, jxin (g a b)) (h : jxp2 st (fun a b r => if b = 0 then none else go (pc + 1) L (.inl (g a b) :: r) S) = some r) (hgo : ∀ pc L st S, go pc L st S = some r → jxSim p l e R s m args below meth c Q B ad ac D nL n0 m0 pc L st S) : jxSim p l e R s m args below meth c Q B ad ac D nL n0 m0 pc L st S := by
  unfold jxp2 at h
  split at h
  · rename_i b a rest
    dsimp only at h
    split at h
    · cases h
    · rename_i hb0
      intro H locs ls hd hl hs
      have ha : jxin a := hs (.inl a) (by simp)
      have hb : jxin b := hs (.inl b) (by simp)
      refine row H locs _ _ ls _ _ _ (fun q => hb0 ((jx_eq hb (b := 0) ⟨by omega, by omega⟩).mp q)) ?_
      rw [hf a b ha hb]
      exact hgo _ _ _ _ h H locs ls hd hl (List.forall_mem_cons.mpr ⟨hi a b, fun v hv => hs v (List.mem_cons_of_mem _ (List.mem_cons_of_mem _ hv))⟩)
  · cases h
theorem jxs_p1 {f : Int32 → Int32} {g : Int → Int} (row : ∀ (H : Heap) (locs : List Loc) (k1 k2 : Nat) (ls : Array Slot) (rest : List Value) (x : Int32), W p l e R s m args below meth c H locs k1 k2 Q (F0 m (pc + 1) ls (.int (f x) :: rest)) → W p l e R s m args below meth c H locs k1 k2 Q (F0 m pc ls (.int x :: rest)))
    (hf : ∀ a, jxin a → f (Int32.ofInt a) = Int32.ofInt (g a)) (hi : ∀ a, jxin (g a)) (h : jxp1 st (fun a r => go (pc + 1) L (.inl (g a) :: r) S) = some r) (hgo : ∀ pc L st S, go pc L st S = some r → jxSim p l e R s m args below meth c Q B ad ac D nL n0 m0 pc L st S) : jxSim p l e R s m args below meth c Q B ad ac D nL n0 m0 pc L st S := by
  unfold jxp1 at h
  split at h
  · rename_i a rest
    intro H locs ls hd hl hs
    have ha : jxin a := hs (.inl a) (by simp)
    refine row H locs _ _ ls _ _ ?_
    rw [hf a ha]
    exact hgo _ _ _ _ h H locs ls hd hl (List.forall_mem_cons.mpr ⟨hi a, fun v hv => hs v (List.mem_cons_of_mem _ hv)⟩)
  · cases h
theorem jxs_i2l (row : ∀ (H : Heap) (locs : List Loc) (k1 k2 : Nat) (ls : Array Slot) (rest : List Value) (x : Int32), W p l e R s m args below meth c H locs k1 k2 Q (F0 m (pc + 1) ls (.long x.toInt64 :: rest)) → W p l e R s m args below meth c H locs k1 k2 Q (F0 m pc ls (.int x :: rest)))
    (h : jxp1 st (fun a r => go (pc + 1) L (.inr (.inl a) :: r) S) = some r) (hgo : ∀ pc L st S, go pc L st S = some r → jxSim p l e R s m args below meth c Q B ad ac D nL n0 m0 pc L st S) : jxSim p l e R s m args below meth c Q B ad ac D nL n0 m0 pc L st S := by
  unfold jxp1 at h
  split at h
  · rename_i a rest
    intro H locs ls hd hl hs
    have ha : jxin a := hs (.inl a) (by simp)
    refine row H locs _ _ ls _ _ ?_
    rw [jx_i2l ha]
    exact hgo _ _ _ _ h H locs ls hd hl (List.forall_mem_cons.mpr ⟨⟨by have := ha.1; omega, by have := ha.2; omega⟩, fun v hv => hs v (List.mem_cons_of_mem _ hv)⟩)
  · cases h
theorem jxs_l2i (row : ∀ (H : Heap) (locs : List Loc) (k1 k2 : Nat) (ls : Array Slot) (rest : List Value) (x : Int64), W p l e R s m args below meth c H locs k1 k2 Q (F0 m (pc + 1) ls (.int x.toInt32 :: rest)) → W p l e R s m args below meth c H locs k1 k2 Q (F0 m pc ls (.long x :: rest)))
    (h : jxp1l st (fun a r => go (pc + 1) L (.inl (jxw a) :: r) S) = some r) (hgo : ∀ pc L st S, go pc L st S = some r → jxSim p l e R s m args below meth c Q B ad ac D nL n0 m0 pc L st S) : jxSim p l e R s m args below meth c Q B ad ac D nL n0 m0 pc L st S := by
  unfold jxp1l at h
  split at h
  · rename_i a rest
    intro H locs ls hd hl hs
    have ha : jxinl a := hs (.inr (.inl a)) (by simp)
    refine row H locs _ _ ls _ _ ?_
    rw [jx_l2i ha]
    exact hgo _ _ _ _ h H locs ls hd hl (List.forall_mem_cons.mpr ⟨jx_w_in a, fun v hv => hs v (List.mem_cons_of_mem _ hv)⟩)
  · cases h
theorem jxs_p2l {f : Int64 → Int64 → Int64} {g : Int → Int → Int} (row : ∀ (H : Heap) (locs : List Loc) (k1 k2 : Nat) (ls : Array Slot) (rest : List Value) (x y : Int64), W p l e R s m args below meth c H locs k1 k2 Q (F0 m (pc + 1) ls (.long (f x y) :: rest)) → W p l e R s m args below meth c H locs k1 k2 Q (F0 m pc ls (.long y :: .long x :: rest)))
    (hf : ∀ a b, jxinl a → jxinl b → f (Int64.ofInt a) (Int64.ofInt b) = Int64.ofInt (g a b)) (hi : ∀ a b, jxinl (g a b)) (h : jxp2l st (fun a b r => go (pc + 1) L (.inr (.inl (g a b)) :: r) S) = some r) (hgo : ∀ pc L st S, go pc L st S = some r → jxSim p l e R s m args below meth c Q B ad ac D nL n0 m0 pc L st S) : jxSim p l e R s m args below meth c Q B ad ac D nL n0 m0 pc L st S := by
  unfold jxp2l at h
  split at h
  · rename_i b a rest
    intro H locs ls hd hl hs
    have ha : jxinl a := hs (.inr (.inl a)) (by simp)
    have hb : jxinl b := hs (.inr (.inl b)) (by simp)
    refine row H locs _ _ ls _ _ _ ?_
    rw [hf a b ha hb]
    exact hgo _ _ _ _ h H locs ls hd hl (List.forall_mem_cons.mpr ⟨hi a b, fun v hv => hs v (List.mem_cons_of_mem _ (List.mem_cons_of_mem _ hv))⟩)
  · cases h
theorem jxs_lcmp (hx : p.tables.exec = Jvm.exec) (hb : c.code = cc) (hdg : decode cc pc = .ok (.lcmp, 1)) (h : jxp2l st (fun a b r => go (pc + 1) L (.inl (jxlcmp a b) :: r) S) = some r) (hgo : ∀ pc L st S, go pc L st S = some r → jxSim p l e R s m args below meth c Q B ad ac D nL n0 m0 pc L st S) : jxSim p l e R s m args below meth c Q B ad ac D nL n0 m0 pc L st S := by
  unfold jxp2l at h
  split at h
  · rename_i b a rest
    intro H locs ls hd hl hs
    have ha : jxinl a := hs (.inr (.inl a)) (by simp)
    have hb2 : jxinl b := hs (.inr (.inl b)) (by simp)
    refine W.lcmp hx hb hdg ?_
    rw [jx_cmp ha hb2]
    exact hgo _ _ _ _ h H locs ls hd hl (List.forall_mem_cons.mpr ⟨by unfold jxokV jxin jxlcmp; dsimp only; split <;> (try split) <;> omega, fun v hv => hs v (List.mem_cons_of_mem _ (List.mem_cons_of_mem _ hv))⟩)
  · cases h
theorem jxs_psl {f : Int64 → Int32 → Int64} {g : Int → Int → Int} (row : ∀ (H : Heap) (locs : List Loc) (k1 k2 : Nat) (ls : Array Slot) (rest : List Value) (x : Int64) (y : Int32), W p l e R s m args below meth c H locs k1 k2 Q (F0 m (pc + 1) ls (.long (f x y) :: rest)) → W p l e R s m args below meth c H locs k1 k2 Q (F0 m pc ls (.int y :: .long x :: rest)))
    (hf : ∀ a b, f (Int64.ofInt a) (Int32.ofInt b) = Int64.ofInt (g a b)) (hi : ∀ a b, jxinl (g a b)) (h : jxpsl st (fun a b r => go (pc + 1) L (.inr (.inl (g a b)) :: r) S) = some r) (hgo : ∀ pc L st S, go pc L st S = some r → jxSim p l e R s m args below meth c Q B ad ac D nL n0 m0 pc L st S) : jxSim p l e R s m args below meth c Q B ad ac D nL n0 m0 pc L st S := by
  unfold jxpsl at h
  split at h
  · rename_i b a rest
    intro H locs ls hd hl hs
    refine row H locs _ _ ls _ _ _ ?_
    rw [hf a b]
    exact hgo _ _ _ _ h H locs ls hd hl (List.forall_mem_cons.mpr ⟨hi a b, fun v hv => hs v (List.mem_cons_of_mem _ (List.mem_cons_of_mem _ hv))⟩)
  · cases h
theorem jxs_push {pc2 : Nat} {v : jxV} (row : ∀ (H : Heap) (locs : List Loc) (k1 k2 : Nat) (ls : Array Slot) (rest : List Value), W p l e R s m args below meth c H locs k1 k2 Q (F0 m pc2 ls (jxg B ad v :: rest)) → W p l e R s m args below meth c H locs k1 k2 Q (F0 m pc ls rest))
    (hv : jxokV v) (h : go pc2 L (v :: st) S = some r) (hgo : ∀ pc L st S, go pc L st S = some r → jxSim p l e R s m args below meth c Q B ad ac D nL n0 m0 pc L st S) : jxSim p l e R s m args below meth c Q B ad ac D nL n0 m0 pc L st S := by
  intro H locs ls hd hl hs
  exact row H locs _ _ ls _ (hgo _ _ _ _ h H locs ls hd hl (List.forall_mem_cons.mpr ⟨hv, hs⟩))
theorem jxs_iload {k pc2 : Nat} (row : ∀ (H : Heap) (locs : List Loc) (k1 k2 : Nat) (ls : Array Slot) (rest : List Value) (x : Int32), ls[k]? = some (.val (.int x)) → W p l e R s m args below meth c H locs k1 k2 Q (F0 m pc2 ls (.int x :: rest)) → W p l e R s m args below meth c H locs k1 k2 Q (F0 m pc ls rest))
    (h : jxlki L k (fun v => go pc2 L (v :: st) S) = some r) (hgo : ∀ pc L st S, go pc L st S = some r → jxSim p l e R s m args below meth c Q B ad ac D nL n0 m0 pc L st S) : jxSim p l e R s m args below meth c Q B ad ac D nL n0 m0 pc L st S := by
  unfold jxlki at h
  split at h
  · rename_i a hk
    intro H locs ls hd hl hs
    obtain ⟨h1, h2⟩ := hl.2.2.2 k (.inl a) hk
    exact row H locs _ _ ls _ _ h1 (hgo _ _ _ _ h H locs ls hd hl (List.forall_mem_cons.mpr ⟨h2, hs⟩))
  · cases h
theorem jxs_lload {k pc2 : Nat} (row : ∀ (H : Heap) (locs : List Loc) (k1 k2 : Nat) (ls : Array Slot) (rest : List Value) (x : Int64), ls[k]? = some (.val (.long x)) → W p l e R s m args below meth c H locs k1 k2 Q (F0 m pc2 ls (.long x :: rest)) → W p l e R s m args below meth c H locs k1 k2 Q (F0 m pc ls rest))
    (h : jxlkl L k (fun v => go pc2 L (v :: st) S) = some r) (hgo : ∀ pc L st S, go pc L st S = some r → jxSim p l e R s m args below meth c Q B ad ac D nL n0 m0 pc L st S) : jxSim p l e R s m args below meth c Q B ad ac D nL n0 m0 pc L st S := by
  unfold jxlkl at h
  split at h
  · rename_i a hk
    intro H locs ls hd hl hs
    obtain ⟨h1, h2⟩ := hl.2.2.2 k (.inr (.inl a)) hk
    exact row H locs _ _ ls _ _ h1 (hgo _ _ _ _ h H locs ls hd hl (List.forall_mem_cons.mpr ⟨h2, hs⟩))
  · cases h
theorem jxg_ref (a : Nat ⊕ (Nat × Int)) (h4 : jxn4 a = true) : ∃ q, jxg B ad (.inr (.inr a)) = .ref q := by
  rcases a with a | ⟨g, i⟩
  · refine ⟨_, if_neg (fun h => ?_)⟩
    subst h
    cases h4
  · exact ⟨_, rfl⟩
theorem jxs_aload {k pc2 : Nat} (row : ∀ (H : Heap) (locs : List Loc) (k1 k2 : Nat) (ls : Array Slot) (rest : List Value) (x : Nat), ls[k]? = some (.val (.ref x)) → W p l e R s m args below meth c H locs k1 k2 Q (F0 m pc2 ls (.ref x :: rest)) → W p l e R s m args below meth c H locs k1 k2 Q (F0 m pc ls rest))
    (h : jxlka L k (fun v => go pc2 L (v :: st) S) = some r) (hgo : ∀ pc L st S, go pc L st S = some r → jxSim p l e R s m args below meth c Q B ad ac D nL n0 m0 pc L st S) : jxSim p l e R s m args below meth c Q B ad ac D nL n0 m0 pc L st S := by
  unfold jxlka at h
  split at h
  · rename_i a hk
    cases h4 : jxn4 a <;> rw [h4] at h
    case false => cases h
    intro H locs ls hd hl hs
    obtain ⟨h1, h2⟩ := hl.2.2.2 k (.inr (.inr a)) hk
    obtain ⟨q, hq⟩ := jxg_ref (B := B) (ad := ad) a h4
    have h3 := hgo _ _ _ _ h H locs ls hd hl (List.forall_mem_cons.mpr ⟨h2, hs⟩)
    rw [List.map_cons, hq] at h3
    rw [hq] at h1
    exact row H locs _ _ ls _ _ h1 h3
  · cases h
theorem jxs_istore {k pc2 : Nat} (row : ∀ (H : Heap) (locs : List Loc) (k1 k2 : Nat) (ls : Array Slot) (rest : List Value) (x : Int32) (lv : List (Nat × Value)), lv_has ls nL lv → k < nL → (∀ ls' : Array Slot, lv_has ls' nL ((k, Value.int x) :: lv.filter (fun q => !(q.1 == k) && !(q.1 + 1 == k && q.2.category == 2))) → W p l e R s m args below meth c H locs k1 k2 Q (F0 m pc2 ls' rest)) → W p l e R s m args below meth c H locs k1 k2 Q (F0 m pc ls (.int x :: rest)))
    (h : jxp1 st (fun a r => bif Nat.ble (k + 1) L.length then go pc2 (jxset L k (.inl a)) r S else none) = some r) (hgo : ∀ pc L st S, go pc L st S = some r → jxSim p l e R s m args below meth c Q B ad ac D nL n0 m0 pc L st S) : jxSim p l e R s m args below meth c Q B ad ac D nL n0 m0 pc L st S := by
  unfold jxp1 at h
  split at h
  · rename_i a rest
    cases hk : Nat.ble (k + 1) L.length <;> rw [hk] at h
    · cases h
    · have hk2 := Nat.le_of_ble_eq_true hk
      intro H locs ls hd hl hs
      have ha : jxin a := hs (.inl a) (by simp)
      have hkn : k < nL := by rw [← hl.2.2.1]; exact hk2
      refine row H locs _ _ ls _ _ _ (jxLs_has hl) hkn (fun ls' hl' => ?_)
      exact hgo _ _ _ _ h H locs ls' hd (jxLs_set (x := .inl a) hl hkn ha hl') (fun v hv => hs v (List.mem_cons_of_mem _ hv))
  · cases h
theorem jxs_lstore {k pc2 : Nat} (row : ∀ (H : Heap) (locs : List Loc) (k1 k2 : Nat) (ls : Array Slot) (rest : List Value) (x : Int64) (lv : List (Nat × Value)), lv_has ls nL lv → k + 1 < nL → (∀ ls' : Array Slot, lv_has ls' nL ((k, Value.long x) :: lv.filter (fun q => !(q.1 == k) && (!(q.1 == k + 1) && !(q.1 + 1 == k && q.2.category == 2)))) → W p l e R s m args below meth c H locs k1 k2 Q (F0 m pc2 ls' rest)) → W p l e R s m args below meth c H locs k1 k2 Q (F0 m pc ls (.long x :: rest)))
    (h : jxp1l st (fun a r => bif Nat.ble (k + 2) L.length then go pc2 (jxsetl L k (.inr (.inl a))) r S else none) = some r) (hgo : ∀ pc L st S, go pc L st S = some r → jxSim p l e R s m args below meth c Q B ad ac D nL n0 m0 pc L st S) : jxSim p l e R s m args below meth c Q B ad ac D nL n0 m0 pc L st S := by
  unfold jxp1l at h
  split at h
  · rename_i a rest
    cases hk : Nat.ble (k + 2) L.length <;> rw [hk] at h
    · cases h
    · have hk2 := Nat.le_of_ble_eq_true hk
      intro H locs ls hd hl hs
      have ha : jxinl a := hs (.inr (.inl a)) (by simp)
      have hkn : k + 1 < nL := by rw [← hl.2.2.1]; exact hk2
      refine row H locs _ _ ls _ _ _ (jxLs_has hl) hkn (fun ls' hl' => ?_)
      exact hgo _ _ _ _ h H locs ls' hd (jxLs_setl (x := .inr (.inl a)) hl hkn ha hl') (fun v hv => hs v (List.mem_cons_of_mem _ hv))
  · cases h
theorem jxs_astore {k : Fin 4} (hx : p.tables.exec = Jvm.exec) (hb : c.code = cc) (hdg : decode cc pc = .ok (.astore_n k, 1))
    (h : (match st with
    | .inr (.inr a) :: r => bif jxn4 a && Nat.ble (k + 1) L.length then go (pc + 1) (jxset L k (.inr (.inr a))) r S else none
    | _ => none) = some r) (hgo : ∀ pc L st S, go pc L st S = some r → jxSim p l e R s m args below meth c Q B ad ac D nL n0 m0 pc L st S) : jxSim p l e R s m args below meth c Q B ad ac D nL n0 m0 pc L st S := by
  split at h
  · rename_i a rest
    cases hk : (jxn4 a && Nat.ble (k + 1) L.length) <;> rw [hk] at h
    · cases h
    · rw [Bool.and_eq_true] at hk
      obtain ⟨h4, hk⟩ := hk
      have hk2 := Nat.le_of_ble_eq_true hk
      intro H locs ls hd hl hs
      have hkn : (k : Nat) < nL := by rw [← hl.2.2.1]; exact hk2
      obtain ⟨q, hq⟩ := jxg_ref (B := B) (ad := ad) a h4
      rw [List.map_cons, hq]
      refine lv_astore_n hx hb hdg rfl (jxLs_has hl) hkn rfl (fun ls' hl' => ?_)
      rw [← hq] at hl'
      exact hgo _ _ _ _ h H locs ls' hd (jxLs_set (x := .inr (.inr a)) hl hkn trivial hl') (fun v hv => hs v (List.mem_cons_of_mem _ hv))
  · cases h
theorem jxs_iinc {k : Nat} {n : Int} (hx : p.tables.exec = Jvm.exec) (hb : c.code = cc) (hn : jxin n) (hdg : decode cc pc = .ok (.iinc k n, 3))
    (h : (match L[k]? with
    | some (some (.inl a)) => go (pc + 3) (jxset L k (.inl (jxw (a + n)))) st S
    | _ => none) = some r) (hgo : ∀ pc L st S, go pc L st S = some r → jxSim p l e R s m args below meth c Q B ad ac D nL n0 m0 pc L st S) : jxSim p l e R s m args below meth c Q B ad ac D nL n0 m0 pc L st S := by
  split at h
  · rename_i a hk
    intro H locs ls hd hl hs
    obtain ⟨h1, h2⟩ := hl.2.2.2 k (.inl a) hk
    have hkn : k < nL := by rw [← hl.2.2.1]; exact (List.getElem?_eq_some_iff.mp hk).1
    obtain ⟨j, hj⟩ := List.getElem?_of_mem (jxlv_mem (B := B) (ad := ad) (v := .int (Int32.ofInt a)).mpr ⟨.inl a, hk, rfl⟩)
    refine lv_iinc (v := Int32.ofInt (jxw (a + n))) hx hb hdg (jxLs_has hl) hj (jx_add h2 hn) hkn rfl (fun ls' hl' => ?_)
    exact hgo _ _ _ _ h H locs ls' hd (jxLs_set (x := .inl (jxw (a + n))) hl hkn (jx_w_in _) hl') hs
  · cases h
theorem jx_tg {pc t : Nat} {off : Int} (h : (pc : Int) + off = Int.ofNat t) : (pc : Int) + off = (t : Int) := h
theorem jxs_goto {off : Int} (hx : p.tables.exec = Jvm.exec) (hb : c.code = cc) (hdg : decode cc pc = .ok (.goto off, 3)) (h : jxtg pc off (fun t => go t L st S) = some r) (hgo : ∀ pc L st S, go pc L st S = some r → jxSim p l e R s m args below meth c Q B ad ac D nL n0 m0 pc L st S) : jxSim p l e R s m args below meth c Q B ad ac D nL n0 m0 pc L st S := by
  unfold jxtg at h
  split at h
  · rename_i t ht
    intro H locs ls hd hl hs
    exact lv_goto hx hb hdg ht (hgo _ _ _ _ h H locs ls hd hl hs)
  · cases h
theorem jxs_if {cn : Jvm.ClassFile.Cond} {off : Int} (hx : p.tables.exec = Jvm.exec) (hb : c.code = cc) (hdg : decode cc pc = .ok (.ifCond cn off, 3)) (h : jxp1 st (fun a rs => jxtg pc off (fun t => jxbr cn a 0 (go t L rs S) (go (pc + 3) L rs S))) = some r) (hgo : ∀ pc L st S, go pc L st S = some r → jxSim p l e R s m args below meth c Q B ad ac D nL n0 m0 pc L st S) : jxSim p l e R s m args below meth c Q B ad ac D nL n0 m0 pc L st S := by
  unfold jxp1 at h
  split at h
  · rename_i a rest
    unfold jxtg at h
    split at h
    · rename_i t ht
      intro H locs ls hd hl hs
      have ha : jxin a := hs (.inl a) (by simp)
      have h0 : jxin 0 := ⟨by omega, by omega⟩
      have hs2 : ∀ v ∈ rest, jxokV v := fun v hv => hs v (List.mem_cons_of_mem _ hv)
      have z0 : (0 : Int32) = Int32.ofInt 0 := rfl
      cases cn <;> simp only [jxbr] at h
      · refine lv_if_eq hx hb hdg ht (fun q => ?_) (fun q => ?_) <;> rw [z0, jx_eq ha h0] at q <;> simp only [q, if_true, if_false] at h <;> exact hgo _ _ _ _ h H locs ls hd hl hs2
      · refine lv_if_ne hx hb hdg ht (fun q => ?_) (fun q => ?_) <;> rw [z0, jx_eq ha h0] at q <;> simp only [q, if_true, if_false] at h <;> exact hgo _ _ _ _ h H locs ls hd hl hs2
      · refine lv_if_lt hx hb hdg ht (fun q => ?_) (fun q => ?_) <;> rw [z0, jx_lt ha h0] at q <;> simp only [q, if_true, if_false] at h <;> exact hgo _ _ _ _ h H locs ls hd hl hs2
      · refine lv_if_ge hx hb hdg ht (fun q => ?_) (fun q => ?_) <;> rw [z0, jx_le h0 ha] at q
        · rw [if_neg (by omega)] at h; exact hgo _ _ _ _ h H locs ls hd hl hs2
        · rw [if_pos (by omega)] at h; exact hgo _ _ _ _ h H locs ls hd hl hs2
      · refine lv_if_gt hx hb hdg ht (fun q => ?_) (fun q => ?_) <;> rw [z0, jx_lt h0 ha] at q <;> simp only [q, if_true, if_false] at h <;> exact hgo _ _ _ _ h H locs ls hd hl hs2
      · refine lv_if_le hx hb hdg ht (fun q => ?_) (fun q => ?_) <;> rw [z0, jx_le ha h0] at q
        · rw [if_neg (by omega)] at h; exact hgo _ _ _ _ h H locs ls hd hl hs2
        · rw [if_pos (by omega)] at h; exact hgo _ _ _ _ h H locs ls hd hl hs2
    · cases h
  · cases h
theorem jxs_icmp {cn : Jvm.ClassFile.Cond} {off : Int} (hx : p.tables.exec = Jvm.exec) (hb : c.code = cc) (hdg : decode cc pc = .ok (.if_icmp cn off, 3)) (h : jxp2 st (fun a b rs => jxtg pc off (fun t => jxbr cn a b (go t L rs S) (go (pc + 3) L rs S))) = some r) (hgo : ∀ pc L st S, go pc L st S = some r → jxSim p l e R s m args below meth c Q B ad ac D nL n0 m0 pc L st S) : jxSim p l e R s m args below meth c Q B ad ac D nL n0 m0 pc L st S := by
  unfold jxp2 at h
  split at h
  · rename_i b a rest
    unfold jxtg at h
    split at h
    · rename_i t ht
      intro H locs ls hd hl hs
      have ha : jxin a := hs (.inl a) (by simp)
      have h0 : jxin b := hs (.inl b) (by simp)
      have hs2 : ∀ v ∈ rest, jxokV v := fun v hv => hs v (List.mem_cons_of_mem _ (List.mem_cons_of_mem _ hv))
      cases cn <;> simp only [jxbr] at h
      · refine lv_icmp_eq hx hb hdg ht (fun q => ?_) (fun q => ?_) <;> rw [jx_eq ha h0] at q <;> simp only [q, if_true, if_false] at h <;> exact hgo _ _ _ _ h H locs ls hd hl hs2
      · refine lv_icmp_ne hx hb hdg ht (fun q => ?_) (fun q => ?_) <;> rw [jx_eq ha h0] at q <;> simp only [q, if_true, if_false] at h <;> exact hgo _ _ _ _ h H locs ls hd hl hs2
      · refine lv_icmp_lt hx hb hdg ht (fun q => ?_) (fun q => ?_) <;> rw [jx_lt ha h0] at q <;> simp only [q, if_true, if_false] at h <;> exact hgo _ _ _ _ h H locs ls hd hl hs2
      · refine lv_icmp_ge hx hb hdg ht (fun q => ?_) (fun q => ?_) <;> rw [jx_le h0 ha] at q
        · rw [if_neg (by omega)] at h; exact hgo _ _ _ _ h H locs ls hd hl hs2
        · rw [if_pos (by omega)] at h; exact hgo _ _ _ _ h H locs ls hd hl hs2
      · refine lv_icmp_gt hx hb hdg ht (fun q => ?_) (fun q => ?_) <;> rw [jx_lt h0 ha] at q <;> simp only [q, if_true, if_false] at h <;> exact hgo _ _ _ _ h H locs ls hd hl hs2
      · refine lv_icmp_le hx hb hdg ht (fun q => ?_) (fun q => ?_) <;> rw [jx_le ha h0] at q
        · rw [if_neg (by omega)] at h; exact hgo _ _ _ _ h H locs ls hd hl hs2
        · rw [if_pos (by omega)] at h; exact hgo _ _ _ _ h H locs ls hd hl hs2
    · cases h
  · cases h
theorem jxsw_at {a : Int} {k : Int → Option jxR} : ∀ (os : List Int) (lo : Int), jxsw a k lo os = some r → ∃ (i : Nat) (o : Int), os[i]? = some o ∧ a = lo + i ∧ k o = some r
  | [], _, h => by cases h
  | o :: os, lo, h => by
    unfold jxsw at h
    split at h
    · rename_i e
      exact ⟨0, o, rfl, by simp [e], h⟩
    · obtain ⟨i, o2, h1, h2, h3⟩ := jxsw_at os (lo + 1) h
      exact ⟨i + 1, o2, by simpa using h1, by omega, h3⟩
theorem jxs_switch {d lo hi : Int} {offs : Array Int} {len : Nat} (hx : p.tables.exec = Jvm.exec) (hb : c.code = cc) (hdg : decode cc pc = .ok (.tableswitch d lo hi offs, len)) (h : jxp1 st (fun a rs => if a < lo ∨ hi < a then jxtg pc d (fun t => go t L rs S) else jxsw a (fun o => jxtg pc o (fun t => go t L rs S)) lo offs.toList) = some r) (hgo : ∀ pc L st S, go pc L st S = some r → jxSim p l e R s m args below meth c Q B ad ac D nL n0 m0 pc L st S) : jxSim p l e R s m args below meth c Q B ad ac D nL n0 m0 pc L st S := by
  unfold jxp1 at h
  split at h
  · rename_i a rest
    intro H locs ls hd hl hs
    have ha : jxin a := hs (.inl a) (by simp)
    have hs2 : ∀ v ∈ rest, jxokV v := fun v hv => hs v (List.mem_cons_of_mem _ hv)
    dsimp only at h
    split at h
    · rename_i hc
      unfold jxtg at h
      split at h
      · rename_i t ht
        exact lv_tableOut hx hb hdg (by rw [jx_ti ha]; exact hc) ht (hgo _ _ _ _ h H locs ls hd hl hs2)
      · cases h
    · rename_i hc
      obtain ⟨i, o, h1, h2, h3⟩ := jxsw_at _ _ h
      unfold jxtg at h3
      split at h3
      · rename_i t ht
        refine lv_tableIn (off := o) hx hb hdg (by rw [jx_ti ha]; omega) (by rw [jx_ti ha]; omega) ?_ ht (hgo _ _ _ _ h3 H locs ls hd hl hs2)
        rw [jx_ti ha, ← Array.getElem?_toList]
        rw [show (a - lo).toNat = i by omega]
        exact h1
      · cases h3
  · cases h
theorem jx_c1 {v : jxV} (h : jxlong v = false) : (jxg B ad v).category = 1 := by rw [jxg_cat, h]; rfl
theorem jxs_dup (hx : p.tables.exec = Jvm.exec) (hb : c.code = cc) (hdg : decode cc pc = .ok (.dup, 1)) (h : (match st with
    | v :: rs => bif jxlong v then none else go (pc + 1) L (v :: v :: rs) S
    | _ => none) = some r) (hgo : ∀ pc L st S, go pc L st S = some r → jxSim p l e R s m args below meth c Q B ad ac D nL n0 m0 pc L st S) : jxSim p l e R s m args below meth c Q B ad ac D nL n0 m0 pc L st S := by
  split at h
  · rename_i v rest
    cases hv : jxlong v <;> rw [hv] at h
    · intro H locs ls hd hl hs
      exact lv_dup hx hb hdg (jx_c1 hv) (hgo _ _ _ _ h H locs ls hd hl (List.forall_mem_cons.mpr ⟨hs v List.mem_cons_self, hs⟩))
    · cases h
  · cases h
theorem jxs_pop (hx : p.tables.exec = Jvm.exec) (hb : c.code = cc) (hdg : decode cc pc = .ok (.pop, 1)) (h : (match st with
    | v :: rs => bif jxlong v then none else go (pc + 1) L rs S
    | _ => none) = some r) (hgo : ∀ pc L st S, go pc L st S = some r → jxSim p l e R s m args below meth c Q B ad ac D nL n0 m0 pc L st S) : jxSim p l e R s m args below meth c Q B ad ac D nL n0 m0 pc L st S := by
  split at h
  · rename_i v rest
    cases hv : jxlong v <;> rw [hv] at h
    · intro H locs ls hd hl hs
      exact lv_pop hx hb hdg (jx_c1 hv) (hgo _ _ _ _ h H locs ls hd hl (fun w hw => hs w (List.mem_cons_of_mem _ hw)))
    · cases h
  · cases h
theorem jxs_dupx (hx : p.tables.exec = Jvm.exec) (hb : c.code = cc) (hdg : decode cc pc = .ok (.dup_x1, 1)) (h : (match st with
    | v :: u :: rs => bif jxlong v || jxlong u then none else go (pc + 1) L (v :: u :: v :: rs) S
    | _ => none) = some r) (hgo : ∀ pc L st S, go pc L st S = some r → jxSim p l e R s m args below meth c Q B ad ac D nL n0 m0 pc L st S) : jxSim p l e R s m args below meth c Q B ad ac D nL n0 m0 pc L st S := by
  split at h
  · rename_i v u rest
    cases hv : jxlong v <;> cases hu : jxlong u <;> simp only [hv, hu, Bool.or_true, Bool.or_false, Bool.true_or, cond_true, cond_false] at h
    · intro H locs ls hd hl hs
      exact lv_dup_x1 hx hb hdg (jx_c1 hv) (jx_c1 hu) (hgo _ _ _ _ h H locs ls hd hl (List.forall_mem_cons.mpr ⟨hs v List.mem_cons_self, List.forall_mem_cons.mpr ⟨hs u (by simp), List.forall_mem_cons.mpr ⟨hs v List.mem_cons_self, fun w hw => hs w (by simp [hw])⟩⟩⟩))
    all_goals cases h
  · cases h
theorem jxs_dup2 (hx : p.tables.exec = Jvm.exec) (hb : c.code = cc) (hdg : decode cc pc = .ok (.dup2, 1)) (h : (match st with
    | v :: u :: rs => bif jxlong v || jxlong u then none else go (pc + 1) L (v :: u :: v :: u :: rs) S
    | _ => none) = some r) (hgo : ∀ pc L st S, go pc L st S = some r → jxSim p l e R s m args below meth c Q B ad ac D nL n0 m0 pc L st S) : jxSim p l e R s m args below meth c Q B ad ac D nL n0 m0 pc L st S := by
  split at h
  · rename_i v u rest
    cases hv : jxlong v <;> cases hu : jxlong u <;> simp only [hv, hu, Bool.or_true, Bool.or_false, Bool.true_or, cond_true, cond_false] at h
    · intro H locs ls hd hl hs
      exact lv_dup2_11 hx hb hdg (jx_c1 hv) (jx_c1 hu) (hgo _ _ _ _ h H locs ls hd hl (List.forall_mem_cons.mpr ⟨hs v List.mem_cons_self, List.forall_mem_cons.mpr ⟨hs u (by simp), hs⟩⟩))
    all_goals cases h
  · cases h
end JX4
