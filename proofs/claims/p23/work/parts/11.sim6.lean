/-! arrays, constants, statics, new cells -/
section JX6
variable {p : Program} {l : Launch} {e : Env} {R : Room} {s : State} {m : MethodId} {args : Array Value} {below : List Frame} {meth : Method} {c : Code} {Q : State → Prop}
variable {B : Nat} {ad : Nat → Nat} {ac : Nat → ClassId} {D : va_G} {E : jxE} {nL n0 m0 : Nat}
variable {cc : ByteArray} {pc own : Nat} {L : jxL} {st : List jxV} {S : jxS} {r : jxR} {go : jxG}
theorem jx_one {H : Heap} {q : Nat × va_E} (h : va_at D vwCl q H) : va_P D vwCl [q] H := fun k x hk => by
  cases k with
  | zero => cases hk; exact h
  | succ k => cases hk
theorem jx_gw {r0 : Nat} (h : r0 < 1000) : jxg B ad (.inr (.inr (.inl r0))) = .ref (B + r0) := by simp only [jxg]; rw [if_neg (by omega), if_pos h]
theorem jx_gf {r0 : Nat} (h : 1000 ≤ r0) (h4 : r0 ≠ 4000) : jxg B ad (.inr (.inr (.inl r0))) = .ref (ad r0) := by simp only [jxg]; rw [if_neg h4, if_neg (by omega)]
theorem jx_fix {r0 t n : Nat} {f : Nat → Int} (h : jxfix E r0 = some (t, n, f)) : (r0 = 3000 ∧ t = 1 ∧ n = E.1 ∧ f = E.2) ∨ (∃ i l, jxstat[i]? = some l ∧ r0 = 3001 + i ∧ t = 1 ∧ n = l.length ∧ f = fun j => l.getD j 0) ∨ (∃ i l, jxtext[i]? = some l ∧ i < 16 ∧ r0 = 2000 + i ∧ t = 4 ∧ n = l.length ∧ f = fun j => l.getD j 0) := by
  unfold jxfix at h
  cases h2 : Nat.ble 2000 r0 <;> rw [h2] at h <;> simp only [cond_true, cond_false] at h
  · cases h
  have a2 := Nat.le_of_ble_eq_true h2
  cases h3 : Nat.ble 3000 r0 <;> rw [h3] at h <;> simp only [cond_true, cond_false] at h
  · split at h
    · rename_i l hl
      cases h
      refine Or.inr (Or.inr ⟨r0 - 2000, l, hl, ?_, by omega, rfl, rfl, rfl⟩)
      have h9 := (List.getElem?_eq_some_iff.mp hl).1
      rw [show jxtext.length = 16 by decide] at h9
      exact h9
    · cases h
  · have a3 := Nat.le_of_ble_eq_true h3
    cases h4 : Nat.beq r0 3000 <;> rw [h4] at h <;> simp only [cond_true, cond_false] at h
    · split at h
      · rename_i l hl
        cases h
        have : r0 ≠ 3000 := Nat.ne_of_beq_eq_false h4
        exact Or.inr (Or.inl ⟨r0 - 3001, l, hl, by omega, rfl, rfl, rfl⟩)
      · cases h
    · cases h
      exact Or.inl ⟨Nat.eq_of_beq_eq_true h4, rfl, rfl, rfl⟩
theorem jx_textb : ∀ i, i < 16 → jxlens.getD i 0 = (jxtext.getD i []).length ∧ ∀ j, j < (jxtext.getD i []).length → (jxbyts.getD i []).getD j 0 = Int32.ofInt ((jxtext.getD i []).getD j 0) ∧ -128 ≤ (jxtext.getD i []).getD j 0 ∧ (jxtext.getD i []).getD j 0 < 128 := by decide +kernel
theorem jx_statb : ∀ i, i < 3 → ∀ j, j < (jxstat.getD i []).length → -1000 ≤ (jxstat.getD i []).getD j 0 ∧ (jxstat.getD i []).getD j 0 < 1000 := by decide +kernel
theorem jx_len : (∀ l ∈ jxstat, l.length ≤ 1000) ∧ (∀ l ∈ jxtext, l.length ≤ 1000) := by decide +kernel
theorem jxs_iald (hx : p.tables.exec = Jvm.exec) (hb : c.code = cc) (hst : jxst B ad ac D E s) (hdg : decode cc pc = .ok (.iaload, 1)) (h : jxald E S (fun t => Nat.beq t 1) st (fun v r => go (pc + 1) L (.inl v :: r) S) = some r) (hgo : ∀ pc L st S, go pc L st S = some r → jxSim p l e R s m args below meth c Q B ad ac D nL n0 m0 pc L st S) : jxSim p l e R s m args below meth c Q B ad ac D nL n0 m0 pc L st S := by
  unfold jxald at h
  split at h
  · rename_i i r0 rest
    intro H locs ls hd hl hs
    have hi : jxin i := hs (.inl i) List.mem_cons_self
    have hs2 : ∀ v ∈ rest, jxokV v := fun v hv => hs v (List.mem_cons_of_mem _ (List.mem_cons_of_mem _ hv))
    rw [List.map_cons, List.map_cons]
    split at h
    · rename_i t n w hS
      dsimp only at h
      cases ht : Nat.beq t 1 <;> rw [ht] at h <;> simp only [cond_true, cond_false] at h
      · cases h
      · have : t = 1 := Nat.eq_of_beq_eq_true ht
        subst this
        split at h
        · rename_i hb9
          obtain ⟨e1, e2, e3⟩ := jx_nat2 hi hb9
          have hlt := jx_lt_of hS
          rw [jx_gw (by have := hd.2.1.1; omega)]
          refine va_iald (cA := ac 1) (n := n) (f := fun j => Int32.ofInt (S.2.1 r0 j)) hx hb hst.2.1 (jx_one (hd.1 r0 _ hS)) 0 0 rfl rfl e2 hdg ?_
          rw [e1]
          exact hgo _ _ _ _ h H locs ls hd hl (List.forall_mem_cons.mpr ⟨hd.2.1.2.1 _ _, hs2⟩)
        · cases h
    · split at h
      · rename_i t n f hf
        dsimp only at h
        cases ht : Nat.beq t 1 <;> rw [ht] at h <;> simp only [cond_true, cond_false] at h
        · cases h
        · have : t = 1 := Nat.eq_of_beq_eq_true ht
          subst this
          cases hn9 : Nat.ble n 100000 <;> rw [hn9] at h <;> simp only [cond_true, cond_false] at h
          case false => cases h
          split at h
          · rename_i hb9
            obtain ⟨e1, e2, e3⟩ := jx_nat2 hi hb9
            rcases jx_fix hf with ⟨rfl, -, rfl, rfl⟩ | ⟨k, l0, hk, rfl, -, rfl, rfl⟩ | ⟨k, l0, hk, hk16, rfl, h4, -⟩
            · obtain ⟨xs, hX, hB, hsz, hE1, hE⟩ := hst.2.2.1
              rw [jx_gf (by omega) (by omega)]
              refine va_sld hx hb hX hsz (by show ¬ B ≤ _; omega) hd.2.2.2.1 e2 hdg ?_
              rw [e1, show xs i.toNat = Int32.ofInt (E.2 i.toNat) by rw [hE, jx_of]]
              exact hgo _ _ _ _ h H locs ls hd hl (List.forall_mem_cons.mpr ⟨by rw [hE]; exact jx_in _, hs2⟩)
            · have hT := hst.2.2.2.2.2.1 k l0 hk
              rw [jx_gf (by omega) (by have h92 := (List.getElem?_eq_some_iff.mp hk).1; have h93 : jxstat.length = 3 := rfl; omega)]
              refine va_ti hx hb hT hd.2.2.2.1 e2 (v := .int (Int32.ofInt (l0.getD i.toNat 0))) (by rw [e1]) hdg ?_
              refine hgo _ _ _ _ h H locs ls hd hl (List.forall_mem_cons.mpr ⟨?_, hs2⟩)
              have hk3 : k < 3 := (List.getElem?_eq_some_iff.mp hk).1
              have hkd : jxstat.getD k [] = l0 := by simp [List.getD, hk]
              have h9 := jx_statb k hk3 i.toNat (by rw [hkd]; exact e3)
              rw [hkd] at h9
              exact (show jxin (l0.getD i.toNat 0) from ⟨by omega, by omega⟩)
            · cases h4
          · cases h
      · cases h
  · rename_i i g a rest
    intro H locs ls hd hl hs
    have hi : jxin i := hs (.inl i) List.mem_cons_self
    have hs2 : ∀ v ∈ rest, jxokV v := fun v hv => hs v (List.mem_cons_of_mem _ (List.mem_cons_of_mem _ hv))
    rw [List.map_cons, List.map_cons]
    split at h
    · rename_i n mm w hS
      simp only [show Nat.beq 1 1 = true from rfl, cond_true] at h
      split at h
      · rename_i ha9
        split at h
        · rename_i hb9
          obtain ⟨e1, e2, e3⟩ := jx_nat2 hi hb9
          have hrow := hd.2.1.2.2.2.2.1 g n mm w hS a.toNat (by omega)
          have hat := hd.1 _ _ hrow
          rw [show jxg B ad (.inr (.inr (.inr (g, a)))) = .ref (B + (g + 1 + a.toNat)) by simp only [jxg, Nat.add_assoc]]
          refine va_iald (cA := ac 1) (n := mm) (f := fun j => Int32.ofInt (S.2.1 g (a.toNat * mm + j))) hx hb hst.2.1 (jx_one hat) 0 0 rfl rfl e2 hdg ?_
          rw [e1]
          exact hgo _ _ _ _ h H locs ls hd hl (List.forall_mem_cons.mpr ⟨hd.2.1.2.1 _ _, hs2⟩)
        · cases h
      · cases h
    · cases h
  · cases h
theorem jxs_bald (hx : p.tables.exec = Jvm.exec) (hb : c.code = cc) (hst : jxst B ad ac D E s) (hdg : decode cc pc = .ok (.baload, 1)) (h : jxald E S (fun t => Nat.beq t 3 || Nat.beq t 4) st (fun v r => go (pc + 1) L (.inl v :: r) S) = some r) (hgo : ∀ pc L st S, go pc L st S = some r → jxSim p l e R s m args below meth c Q B ad ac D nL n0 m0 pc L st S) : jxSim p l e R s m args below meth c Q B ad ac D nL n0 m0 pc L st S := by
  unfold jxald at h
  split at h
  · rename_i i r0 rest
    intro H locs ls hd hl hs
    have hi : jxin i := hs (.inl i) List.mem_cons_self
    have hs2 : ∀ v ∈ rest, jxokV v := fun v hv => hs v (List.mem_cons_of_mem _ (List.mem_cons_of_mem _ hv))
    rw [List.map_cons, List.map_cons]
    split at h
    · rename_i t n w hS
      dsimp only at h
      cases ht : (Nat.beq t 3 || Nat.beq t 4) <;> rw [ht] at h <;> simp only [cond_true, cond_false] at h
      · cases h
      · split at h
        · rename_i hb9
          obtain ⟨e1, e2, e3⟩ := jx_nat2 hi hb9
          have hlt := jx_lt_of hS
          have h5 := hgo _ _ _ _ h H locs ls hd hl (List.forall_mem_cons.mpr ⟨hd.2.1.2.1 _ _, hs2⟩)
          rw [jx_gw (by have := hd.2.1.1; omega)]
          have h34 : t = 3 ∨ t = 4 := by
            rcases Bool.or_eq_true _ _ ▸ ht with h9 | h9
            · exact Or.inl (Nat.eq_of_beq_eq_true h9)
            · exact Or.inr (Nat.eq_of_beq_eq_true h9)
          rcases h34 with rfl | rfl
          · refine va_zald (cA := ac 3) (n := n) (f := fun j => Int32.ofInt (S.2.1 r0 j)) hx hb hst.2.1 (jx_one (hd.1 r0 _ hS)) 0 2 rfl rfl e2 hdg ?_
            rw [e1]
            exact h5
          · refine va_bald (cA := ac 4) (n := n) (f := fun j => Int32.ofInt (S.2.1 r0 j)) hx hb hst.2.1 (jx_one (hd.1 r0 _ hS)) 0 3 rfl rfl e2 hdg ?_
            rw [e1]
            exact h5
        · cases h
    · split at h
      · rename_i t n f hf
        dsimp only at h
        cases ht : (Nat.beq t 3 || Nat.beq t 4) <;> rw [ht] at h <;> simp only [cond_true, cond_false] at h
        · cases h
        · cases hn9 : Nat.ble n 100000 <;> rw [hn9] at h <;> simp only [cond_true, cond_false] at h
          case false => cases h
          split at h
          · rename_i hb9
            obtain ⟨e1, e2, e3⟩ := jx_nat2 hi hb9
            rcases jx_fix hf with ⟨-, rfl, -⟩ | ⟨-, -, -, -, rfl, -⟩ | ⟨k, l0, hk, hk16, rfl, rfl, rfl, rfl⟩
            · cases ht
            · cases ht
            · have hT := (hst.2.2.2.1.1 k hk16).2.2.2
              have hkd : jxtext.getD k [] = l0 := by simp [List.getD, hk]
              obtain ⟨g1, g2⟩ := jx_textb k hk16
              rw [hkd] at g1 g2
              obtain ⟨g3, g4⟩ := g2 i.toNat e3
              rw [g1] at hT
              rw [jx_gf (by omega) (by omega)]
              refine va_tb hx hb hT hd.2.2.2.1 e2 (v := .int (Int32.ofInt (l0.getD i.toNat 0))) (by rw [e1, g3]) hdg ?_
              exact hgo _ _ _ _ h H locs ls hd hl (List.forall_mem_cons.mpr ⟨(show jxin (l0.getD i.toNat 0) from ⟨by omega, by omega⟩), hs2⟩)
          · cases h
      · cases h
  · rename_i i g a rest
    split at h
    · have h9 : (none : Option jxR) = some r := h
      cases h9
    · cases h
  · cases h
theorem jxs_lald (hx : p.tables.exec = Jvm.exec) (hb : c.code = cc) (hst : jxst B ad ac D E s) (hdg : decode cc pc = .ok (.laload, 1)) (h : jxaldl S st (fun v r => go (pc + 1) L (.inr (.inl v) :: r) S) = some r) (hgo : ∀ pc L st S, go pc L st S = some r → jxSim p l e R s m args below meth c Q B ad ac D nL n0 m0 pc L st S) : jxSim p l e R s m args below meth c Q B ad ac D nL n0 m0 pc L st S := by
  unfold jxaldl at h
  split at h
  · rename_i i r0 rest
    intro H locs ls hd hl hs
    have hi : jxin i := hs (.inl i) List.mem_cons_self
    have hs2 : ∀ v ∈ rest, jxokV v := fun v hv => hs v (List.mem_cons_of_mem _ (List.mem_cons_of_mem _ hv))
    rw [List.map_cons, List.map_cons]
    split at h
    · rename_i n w hS
      split at h
      · rename_i hb9
        obtain ⟨e1, e2, e3⟩ := jx_nat2 hi hb9
        have hlt := jx_lt_of hS
        rw [jx_gw (by have := hd.2.1.1; omega)]
        refine va_lald (cA := ac 2) (n := n) (f := fun j => Int64.ofInt (S.2.2 r0 j)) hx hb hst.2.1 (jx_one (hd.1 r0 _ hS)) 0 1 rfl rfl e2 hdg ?_
        rw [e1]
        exact hgo _ _ _ _ h H locs ls hd hl (List.forall_mem_cons.mpr ⟨hd.2.1.2.2.1 _ _, hs2⟩)
      · cases h
    · cases h
  · cases h
theorem jxs_aald (hx : p.tables.exec = Jvm.exec) (hb : c.code = cc) (hst : jxst B ad ac D E s) (hdg : decode cc pc = .ok (.aaload, 1)) (h : jxalda S st (fun st' => go (pc + 1) L st' S) = some r) (hgo : ∀ pc L st S, go pc L st S = some r → jxSim p l e R s m args below meth c Q B ad ac D nL n0 m0 pc L st S) : jxSim p l e R s m args below meth c Q B ad ac D nL n0 m0 pc L st S := by
  unfold jxalda at h
  split at h
  · rename_i i r0 rest
    intro H locs ls hd hl hs
    have hi : jxin i := hs (.inl i) List.mem_cons_self
    have hs2 : ∀ v ∈ rest, jxokV v := fun v hv => hs v (List.mem_cons_of_mem _ (List.mem_cons_of_mem _ hv))
    rw [List.map_cons, List.map_cons]
    split at h
    · rename_i n w hS
      split at h
      · rename_i hb9
        obtain ⟨e1, e2, e3⟩ := jx_nat2 hi hb9
        have hlt := jx_lt_of hS
        rw [jx_gw (by have := hd.2.1.1; omega)]
        have hat : H[B + r0]? = some (vp_cell (ac 5) (n, .inr (.inr (.inr (.inr (fun i => some (B + r0 + 1 + i))))))) := hd.1 r0 _ hS
        rw [vp_cell_q] at hat
        have hA := (hst.2.1.2 4 (ac 5, .array .int) rfl).1
        refine W.aald (v := .ref (B + r0 + 1 + i.toNat)) (ty := .array .int) hx hb hat (hA n (fun j => va_rf (some (B + r0 + 1 + j)))) rfl (fun q => by cases q) (by show ¬ (_ < 0 ∨ (arrV _ _ _).slots.size ≤ _); rw [arrV_size]; exact e2) (by show (arrV _ _ _).slots[_]? = _; rw [e1, arrV_read _ _ e3]; rfl) rfl rfl hdg ?_
        exact hgo _ _ _ _ h H locs ls hd hl (List.forall_mem_cons.mpr ⟨trivial, hs2⟩)
      · cases h
    · cases h
  · cases h
theorem jxs_iast (hx : p.tables.exec = Jvm.exec) (hb : c.code = cc) (hst : jxst B ad ac D E s) (hdg : decode cc pc = .ok (.iastore, 1)) (h : jxast S st (fun st' S' => go (pc + 1) L st' S') = some r) (hgo : ∀ pc L st S, go pc L st S = some r → jxSim p l e R s m args below meth c Q B ad ac D nL n0 m0 pc L st S) : jxSim p l e R s m args below meth c Q B ad ac D nL n0 m0 pc L st S := by
  unfold jxast at h
  have hA := (hst.2.1.2 0 (ac 1, .int) rfl).1
  split at h
  · rename_i v i r0 rest
    intro H locs ls hd hl hs
    have hv : jxin v := hs (.inl v) List.mem_cons_self
    have hi : jxin i := hs (.inl i) (by simp)
    have hs2 : ∀ v ∈ rest, jxokV v := fun v hv => hs v (by simp [hv])
    rw [List.map_cons, List.map_cons, List.map_cons]
    split at h
    · rename_i n w hS
      split at h
      · rename_i hb9
        obtain ⟨e1, e2, e3⟩ := jx_nat2 hi hb9
        have hlt := jx_lt_of hS
        rw [jx_gw (by have := hd.2.1.1; omega)]
        have hat : H[B + r0]? = some (vp_cell (ac 1) (n, .inl (fun j => Int32.ofInt (S.2.1 r0 j)))) := hd.1 r0 _ hS
        refine W.iast hx hb hat (hA n (fun j => .int (Int32.ofInt (S.2.1 r0 j)))) (fun q => by cases q) (by show ¬ (_ < 0 ∨ (arrV _ _ _).slots.size ≤ _); rw [arrV_size]; exact e2) rfl rfl hdg fun H1 e z oq => ?_
        refine hgo _ _ _ _ h H1 _ ls ⟨jxPh_i hd.1 hd.2.1 hS (show (1 : Nat) ≠ 5 by decide) (show (1 : Nat) ≠ 6 by decide) oq ?_, jxokS_i hd.2.1 hlt hv, z.trans hd.2.2.1, jx_S_put hd.2.2.2.1 z oq (by show B ≤ B + r0; omega), hd.2.2.2.2⟩ hl hs2
        show H1[B + r0]? = some (vp_cell _ _)
        rw [e, vp_cell_i, vp_cell_i, arrV_store, e1]
        congr 2
        funext q
        by_cases hq : q = i.toNat
        · subst hq; simp [updV, jxu]
        · simp [updV, jxu, hq]
      · cases h
    · cases h
  · rename_i v i g a rest
    intro H locs ls hd hl hs
    have hv : jxin v := hs (.inl v) List.mem_cons_self
    have hi : jxin i := hs (.inl i) (by simp)
    have hs2 : ∀ v ∈ rest, jxokV v := fun v hv => hs v (by simp [hv])
    rw [List.map_cons, List.map_cons, List.map_cons]
    split at h
    · rename_i n mm w hS
      split at h
      · rename_i ha9
        split at h
        · rename_i hb9
          obtain ⟨e1, e2, e3⟩ := jx_nat2 hi hb9
          have hlt := jx_lt_of hS
          have hrow := hd.2.1.2.2.2.2.1 g n mm w hS a.toNat (by omega)
          have hat : H[B + (g + 1 + a.toNat)]? = some (vp_cell (ac 1) (mm, .inl (fun j => Int32.ofInt (S.2.1 g (a.toNat * mm + j))))) := hd.1 _ _ hrow
          rw [show jxg B ad (.inr (.inr (.inr (g, a)))) = .ref (B + (g + 1 + a.toNat)) by simp only [jxg, Nat.add_assoc]]
          refine W.iast hx hb hat (hA mm (fun j => .int (Int32.ofInt (S.2.1 g (a.toNat * mm + j))))) (fun q => by cases q) (by show ¬ (_ < 0 ∨ (arrV _ _ _).slots.size ≤ _); rw [arrV_size]; exact e2) rfl rfl hdg fun H1 e z oq => ?_
          refine hgo _ _ _ _ h H1 _ ls ⟨jxPh_g hd.1 hd.2.1 hS (by omega) e3 oq ?_, jxokS_i hd.2.1 hlt hv, z.trans hd.2.2.1, jx_S_put hd.2.2.2.1 z oq (by show B ≤ B + (g + 1 + a.toNat); omega), hd.2.2.2.2⟩ hl hs2
          rw [e, vp_cell_i, vp_cell_i, arrV_store, e1]
          congr 2
          funext q
          by_cases hq : q = i.toNat
          · subst hq; simp [updV, upd]
          · simp [updV, upd, hq]
        · cases h
      · cases h
    · cases h
  · cases h
theorem jx_byte {v : Int} (h : -128 ≤ v ∧ v < 128) : narrow .byte (.int (Int32.ofInt v)) = .int (Int32.ofInt v) := by
  have e : (Int32.ofInt v).toInt8.toInt32 = Int32.ofInt v := by
    apply Int32.toInt_inj.mp
    rw [Int8.toInt_toInt32, Int32.toInt_toInt8, jx_ti ⟨by omega, by omega⟩]
    exact Int.bmod_eq_of_le (by omega) (by omega)
  show Value.int _ = _
  rw [e]
theorem jxs_bast (hx : p.tables.exec = Jvm.exec) (hb : c.code = cc) (hst : jxst B ad ac D E s) (hdg : decode cc pc = .ok (.bastore, 1)) (h : jxbst S st (fun st' S' => go (pc + 1) L st' S') = some r) (hgo : ∀ pc L st S, go pc L st S = some r → jxSim p l e R s m args below meth c Q B ad ac D nL n0 m0 pc L st S) : jxSim p l e R s m args below meth c Q B ad ac D nL n0 m0 pc L st S := by
  unfold jxbst at h
  split at h
  · rename_i v i r0 rest
    intro H locs ls hd hl hs
    have hv : jxin v := hs (.inl v) List.mem_cons_self
    have hi : jxin i := hs (.inl i) (by simp)
    have hs2 : ∀ v ∈ rest, jxokV v := fun v hv => hs v (by simp [hv])
    rw [List.map_cons, List.map_cons, List.map_cons]
    split at h
    · rename_i n w hS
      split at h
      · rename_i hb9
        split at h
        · rename_i hv9
          obtain ⟨e1, e2, e3⟩ := jx_nat2 hi hb9
          have hlt := jx_lt_of hS
          rw [jx_gw (by have := hd.2.1.1; omega)]
          have hA := (hst.2.1.2 2 (ac 3, .boolean) rfl).1
          have hat : H[B + r0]? = some (vp_cell (ac 3) (n, .inl (fun j => Int32.ofInt (S.2.1 r0 j)))) := hd.1 r0 _ hS
          refine W.zast hx hb hat (hA n (fun j => .int (Int32.ofInt (S.2.1 r0 j)))) (fun q => by cases q) (by show ¬ (_ < 0 ∨ (arrV _ _ _).slots.size ≤ _); rw [arrV_size]; exact e2) rfl rfl hdg fun H1 e z oq => ?_
          refine hgo _ _ _ _ h H1 _ ls ⟨jxPh_i hd.1 hd.2.1 hS (show (3 : Nat) ≠ 5 by decide) (show (3 : Nat) ≠ 6 by decide) oq ?_, jxokS_i hd.2.1 hlt hv, z.trans hd.2.2.1, jx_S_put hd.2.2.2.1 z oq (by show B ≤ B + r0; omega), hd.2.2.2.2⟩ hl hs2
          show H1[B + r0]? = some (vp_cell _ _)
          rw [e, vp_cell_i, vp_cell_i, arrV_store, e1, jx_bool hv9]
          congr 2
          funext q
          by_cases hq : q = i.toNat
          · subst hq; simp [updV, jxu]
          · simp [updV, jxu, hq]
        · cases h
      · cases h
    · rename_i n w hS
      split at h
      · rename_i hb9
        split at h
        · rename_i hv9
          obtain ⟨e1, e2, e3⟩ := jx_nat2 hi hb9
          have hlt := jx_lt_of hS
          rw [jx_gw (by have := hd.2.1.1; omega)]
          have hA := (hst.2.1.2 3 (ac 4, .byte) rfl).1
          have hat : H[B + r0]? = some (vp_cell (ac 4) (n, .inl (fun j => Int32.ofInt (S.2.1 r0 j)))) := hd.1 r0 _ hS
          refine W.bast hx hb hat (hA n (fun j => .int (Int32.ofInt (S.2.1 r0 j)))) (fun q => by cases q) (by show ¬ (_ < 0 ∨ (arrV _ _ _).slots.size ≤ _); rw [arrV_size]; exact e2) rfl rfl hdg fun H1 e z oq => ?_
          refine hgo _ _ _ _ h H1 _ ls ⟨jxPh_i hd.1 hd.2.1 hS (show (4 : Nat) ≠ 5 by decide) (show (4 : Nat) ≠ 6 by decide) oq ?_, jxokS_i hd.2.1 hlt hv, z.trans hd.2.2.1, jx_S_put hd.2.2.2.1 z oq (by show B ≤ B + r0; omega), hd.2.2.2.2⟩ hl hs2
          show H1[B + r0]? = some (vp_cell _ _)
          rw [e, vp_cell_i, vp_cell_i, arrV_store, e1, jx_byte hv9]
          congr 2
          funext q
          by_cases hq : q = i.toNat
          · subst hq; simp [updV, jxu]
          · simp [updV, jxu, hq]
        · cases h
      · cases h
    · cases h
  · cases h
theorem jxs_last (hx : p.tables.exec = Jvm.exec) (hb : c.code = cc) (hst : jxst B ad ac D E s) (hdg : decode cc pc = .ok (.lastore, 1)) (h : jxlst S st (fun st' S' => go (pc + 1) L st' S') = some r) (hgo : ∀ pc L st S, go pc L st S = some r → jxSim p l e R s m args below meth c Q B ad ac D nL n0 m0 pc L st S) : jxSim p l e R s m args below meth c Q B ad ac D nL n0 m0 pc L st S := by
  unfold jxlst at h
  split at h
  · rename_i v i r0 rest
    intro H locs ls hd hl hs
    have hv : jxinl v := hs (.inr (.inl v)) List.mem_cons_self
    have hi : jxin i := hs (.inl i) (by simp)
    have hs2 : ∀ v ∈ rest, jxokV v := fun v hv => hs v (by simp [hv])
    rw [List.map_cons, List.map_cons, List.map_cons]
    split at h
    · rename_i n w hS
      split at h
      · rename_i hb9
        obtain ⟨e1, e2, e3⟩ := jx_nat2 hi hb9
        have hlt := jx_lt_of hS
        rw [jx_gw (by have := hd.2.1.1; omega)]
        have hA := (hst.2.1.2 1 (ac 2, .long) rfl).1
        have hat : H[B + r0]? = some (vp_cell (ac 2) (n, .inr (.inl (fun j => Int64.ofInt (S.2.2 r0 j))))) := hd.1 r0 _ hS
        refine W.last hx hb hat (hA n (fun j => .long (Int64.ofInt (S.2.2 r0 j)))) (fun q => by cases q) (by show ¬ (_ < 0 ∨ (arrV _ _ _).slots.size ≤ _); rw [arrV_size]; exact e2) rfl rfl hdg fun H1 e z oq => ?_
        refine hgo _ _ _ _ h H1 _ ls ⟨jxPh_l hd.1 hS oq ?_, jxokS_l hd.2.1 hlt hv, z.trans hd.2.2.1, jx_S_put hd.2.2.2.1 z oq (by show B ≤ B + r0; omega), hd.2.2.2.2⟩ hl hs2
        show H1[B + r0]? = some (vp_cell _ _)
        rw [e, vp_cell_l, vp_cell_l, arrV_store, e1]
        congr 2
        funext q
        by_cases hq : q = i.toNat
        · subst hq; simp [updV, jxu]
        · simp [updV, jxu, hq]
      · cases h
    · cases h
  · cases h
end JX6
