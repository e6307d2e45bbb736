/-! one instruction over the heap -/
section JX5
variable {p : Program} {l : Launch} {e : Env} {R : Room} {s : State} {m : MethodId} {args : Array Value} {below : List Frame} {meth : Method} {c : Code} {Q : State → Prop}
variable {B : Nat} {ad : Nat → Nat} {ac : Nat → ClassId} {D : va_G} {E : jxE} {nL n0 m0 : Nat}
variable {cc : ByteArray} {pc own : Nat} {L : jxL} {st : List jxV} {S : jxS} {r : jxR} {go : jxG}
theorem jx_cl {ci : Nat} {q : vw_C} (h : vwCl[ci]? = some q) : jxclsP q := jxcls_ok q (List.mem_of_getElem? h)
theorem jx_fget {k n j c : Nat} {rs : List Nat} (h : rs[j]? = some c) : ((List.range rs.length).map (fun j => jxfld B ad S k j (rs.getD j 0)))[j]? = some (jxfld B ad S k j c) := by
  have hl := (List.getElem?_eq_some_iff.mp h).1
  rw [List.getElem?_map, List.getElem?_range hl]
  simp [List.getD, h]
theorem jxs_get {idx : Nat} (hx : p.tables.exec = Jvm.exec) (hb : c.code = cc) (hts : ∀ w ∈ jxgoodw, w.before args s = true) (hown : s.vm.findClass (jxcn own) = some m.cls) (hst : jxst B ad ac D E s) (hdg : decode cc pc = .ok (.getfield idx, 3)) (h : jxget S own idx st (fun st' => go (pc + 3) L st' S) = some r) (hgo : ∀ pc L st S, go pc L st S = some r → jxSim p l e R s m args below meth c Q B ad ac D nL n0 m0 pc L st S) : jxSim p l e R s m args below meth c Q B ad ac D nL n0 m0 pc L st S := by
  unfold jxget at h
  split at h
  · rename_i r0 rest
    split at h
    · rename_i ci slot fty hf
      have hF := jxall_at jxchkF_ok hf
      unfold jxchkF at hF
      split at hF
      · cases hF
      · rename_i i hi
        dsimp only at hF h
        cases hc : Nat.beq ci 1000 <;> rw [hc] at hF h <;> simp only [cond_true, cond_false] at hF h
        · split at h
          · rename_i cj rs hS
            cases hcj : Nat.beq ci cj <;> rw [hcj] at h <;> simp only [cond_true, cond_false] at h
            · cases h
            · have : ci = cj := Nat.eq_of_beq_eq_true hcj
              subst this
              split at hF
              · cases hF
              · rename_i q hq
                simp only [Bool.and_eq_true, decide_eq_true_eq] at hF
                obtain ⟨⟨⟨⟨⟨hF1, hF2⟩, -⟩, -⟩, -⟩, -⟩ := hF
                obtain ⟨hu, hnm, ty, hty⟩ := jx_cl hq
                intro H locs ls hd hl hs
                have hlt := jx_lt_of hS
                have hr0 : r0 < 1000 := by have := hd.2.1.1; omega
                have hat := hd.1 r0 _ hS
                have hP : va_P D vwCl [(B + r0, jxcell B ad ac S r0 (0, ci, rs))] H := fun k x hk => by
                  cases k with
                  | zero => cases hk; exact hat
                  | succ k => cases hk
                have hg : jxg B ad (.inr (.inr (.inl r0))) = .ref (B + r0) := by simp only [jxg]; rw [if_neg (by omega), if_pos hr0]
                rw [List.map_cons, hg]
                have key : ∀ (cd : Nat) (w : jxV), rs[slot]? = some cd → jxfld B ad S r0 slot cd = jxg B ad w → jxokV w → go (pc + 3) L (w :: rest) S = some r → W p l e R s m args below meth c H locs (S.1.length - n0) (jxsz S.1 - m0) Q (F0 m pc ls (.ref (B + r0) :: rest.map (jxg B ad))) := fun cd w hcd hw hok hgo1 => by
                  refine va_get (own := jxcn own) (C := q.1) (T := q.2.1) (N := q.2.2) (index := idx) (ref := (q.2.1 slot).1) (ci := ci) hx hb hts hu hown hst.2.1 hP 0 rfl hq slot hF1 (hts _ (jxat_mem hF2)) (fun _ h9 => h9) (v := jxg B ad w) (by rw [← hw]; exact jx_fget (n := 0) hcd) hdg ?_
                  exact hgo _ _ _ _ hgo1 H locs ls hd hl (List.forall_mem_cons.mpr ⟨hok, fun v hv => hs v (List.mem_cons_of_mem _ hv)⟩)
                split at h
                · rename_i hcd
                  exact key _ (.inl (S.2.1 r0 slot)) hcd rfl (hd.2.1.2.1 _ _) h
                · rename_i hcd
                  exact key _ (.inr (.inl (S.2.2 r0 slot))) hcd rfl (hd.2.1.2.2.1 _ _) h
                · rename_i n hcd
                  exact key _ (.inr (.inr (.inl n))) hcd rfl trivial h
                · cases h
          · cases h
        · have h15 : ∃ k, r0 = 1000 + k ∧ k < 16 := by
            cases h1 : Nat.ble 1000 r0 && Nat.ble r0 1015 <;> rw [h1] at h
            · cases h
            · simp only [Bool.and_eq_true] at h1
              have a1 := Nat.le_of_ble_eq_true h1.1
              have a2 := Nat.le_of_ble_eq_true h1.2
              exact ⟨r0 - 1000, by omega, by omega⟩
          obtain ⟨k, rfl, hk⟩ := h15
          rw [show (Nat.ble 1000 (1000 + k) && Nat.ble (1000 + k) 1015) = true by
            simp only [Bool.and_eq_true]; exact ⟨Nat.ble_eq_true_of_le (by omega), Nat.ble_eq_true_of_le (by omega)⟩] at h
          intro H locs ls hd hl hs
          obtain ⟨g1, g2, g3, g4⟩ := hst.2.2.2.1.1 k hk
          have hg : jxg B ad (.inr (.inr (.inl (1000 + k)))) = .ref (ad (1000 + k)) := by simp only [jxg]; rw [if_neg (by omega), if_neg (by omega)]
          rw [List.map_cons, hg]
          cases hsl : Nat.beq slot 0 <;> rw [hsl] at hF h <;> simp only [cond_true, cond_false] at hF h
          · refine vk_getf hx hb g2 hd.2.2.2.1 hown (hts _ (jxat_mem hF)) (fun _ h9 => h9) hdg ?_
            exact hgo _ _ _ _ h H locs ls hd hl (List.forall_mem_cons.mpr ⟨⟨by omega, by omega⟩, fun v hv => hs v (List.mem_cons_of_mem _ hv)⟩)
          · refine vk_getf hx hb g3 hd.2.2.2.1 hown (hts _ (jxat_mem hF)) (fun _ h9 => h9) hdg ?_
            have h3 := hgo _ _ _ _ h H locs ls hd hl (List.forall_mem_cons.mpr ⟨trivial, fun v hv => hs v (List.mem_cons_of_mem _ hv)⟩)
            rw [List.map_cons, show jxg B ad (.inr (.inr (.inl (1000 + k + 1000)))) = .ref (ad (2000 + k)) by
              simp only [jxg]; rw [if_neg (by omega), if_neg (by omega), show 1000 + k + 1000 = 2000 + k by omega]] at h3
            exact h3
    · cases h
  · cases h
/-- a field written: the cell behind it, and that no other changed -/
theorem jx_putrow {H : Heap} {locs : List Loc} {k1 k2 : Nat} {ls : Array Slot} {rest : List Value} {idx k ci slot : Nat} {fs : List Value} {q : vw_C} {v : Value} {ty : FieldType} (hx : p.tables.exec = Jvm.exec) (hb : c.code = cc) (hts : ∀ w ∈ jxgoodw, w.before args s = true) (hown : s.vm.findClass (jxcn own) = some m.cls) (hst : jxst B ad ac D E s) (hq : vwCl[ci]? = some q) (hat : va_at D vwCl (B + k, .inr (ci, fs)) H) (hk : slot < q.2.2)
    (hlink : (Jvm.Cond.fieldLink (jxcn own) idx (q.2.1 slot).1 (q.2.1 slot).2.1 (q.2.1 slot).2.2.1).before args s = true) (hfin : (q.2.1 slot).2.2.2 = false ∨ ((q.2.1 slot).2.2.2 = true ∧ meth.name = "<init>" ∧ (q.2.1 slot).1 = jxcn own))
    (hd : parseFieldDescriptor (q.2.1 slot).2.2.1 = some ty) (hn : narrow ty v = v) (hfit : fits ty v = true) (hl : slot < fs.length) (hdg : decode cc pc = .ok (.putfield idx, 3))
    (kk : ∀ (H1 : Heap) (j : Nat), H1.size = H.size → (∀ x : Nat, x ≠ B + k → H1[x]? = H[x]?) → va_at D vwCl (B + k, .inr (ci, fs.set slot v)) H1 → W p l e R s m args below meth c H1 (locs ++ [⟨B + k, j⟩]) k1 k2 Q (F0 m (pc + 3) ls rest)) : W p l e R s m args below meth c H locs k1 k2 Q (F0 m pc ls (v :: .ref (B + k) :: rest)) := by
  obtain ⟨hu, hnm, ty0, hty0⟩ := jx_cl hq
  have hK := hst.2.1
  have hap := va_apart (own := jxcn own) hts hu ty0 hty0 hnm hK hq
  obtain ⟨r, h1, cell, q1, q2, q3, q4⟩ := hat
  have hr : r = q := Option.some.inj (h1.symm.trans hq)
  subst hr
  obtain ⟨hS, hfc, kC, hkC, hkind⟩ := hK.1 ci _ hq
  obtain ⟨cf, kf, fi, f, hi, hsl⟩ := hS slot hk
  have hlay := hts _ (hu _ (u_in_lay hk))
  unfold u_lay at hlay
  have hst2 := (u_facts hfc hkC (u_lays hts hu hk) hi).1
  rcases hfin with hfin | ⟨hfin, hin, hdecl⟩
  · rw [if_neg (by rw [hfin]; decide)] at hlay
    have h6 := u_store hfc hkC hkind hlay hi hd hn hfit
    refine W.putK hx hb (f := f) ⟨hown, hlink, ⟨_, _, _, hi⟩, hst2⟩ (by rw [q2]; exact h6) q1 q3 (by rw [hsl]; exact k2_hasslot (q4 slot hk)) rfl rfl hdg fun H' e1 e2 e3 => ?_
    rw [hsl] at e1 ⊢
    exact kk H' _ e2 e3 ⟨_, hq, t_OB.to (V := updV (vp_V fs) slot v) ⟨_, e1, q2, q3, t_set q4 hap hk v⟩ (fun j _ => vp_updV_set hl v j)⟩
  · rw [if_pos hfin] at hlay
    have hcf : m.cls = cf := by
      obtain ⟨_, _, c', _, _, _, -, -, hf', -, -, -, hown2, -⟩ := Cond.laysFinal_spec hlay
      have e1 : c' = cf := by have := hi.symm.trans hf'; simp at this; exact this.1.symm
      rw [hdecl] at hown2
      rw [← e1]; exact Option.some.inj (hown.symm.trans hown2)
    have h6 := u_fits hfc hkC hkind (Or.inr hlay) hi hd hn hfit
    refine W.putFinK hx hb hown hlink hi hst2 hcf hin (by rw [q2]; exact h6) q1 q3 (by rw [hsl]; exact k2_hasslot (q4 slot hk)) rfl rfl hdg fun H' e1 e2 e3 => ?_
    rw [hsl] at e1 ⊢
    exact kk H' _ e2 e3 ⟨_, hq, t_OB.to (V := updV (vp_V fs) slot v) ⟨_, e1, q2, q3, t_set q4 hap hk v⟩ (fun j _ => vp_updV_set hl v j)⟩
theorem jx_setmap {f g : Nat → Value} {n j : Nat} {v : Value} (hj : g j = v) (ho : ∀ i, i ≠ j → g i = f i) : ((List.range n).map f).set j v = (List.range n).map g := by
  apply List.ext_getElem?
  intro i
  by_cases h : i = j
  · subst h
    by_cases hl : i < n
    · rw [List.getElem?_set_self (by simpa using hl), List.getElem?_map, List.getElem?_range hl]
      simp [hj]
    · rw [List.getElem?_eq_none (by simp; omega), List.getElem?_eq_none (by simp; omega)]
  · rw [List.getElem?_set_ne (Ne.symm h), List.getElem?_map, List.getElem?_map]
    by_cases hl : i < n
    · rw [List.getElem?_range hl]
      simp [ho i h]
    · rw [List.getElem?_eq_none (by simp; omega)]
      rfl
theorem jx_bool {a : Int} (h : a = 0 ∨ a = 1) : narrow .boolean (.int (Int32.ofInt a)) = .int (Int32.ofInt a) := by rcases h with rfl | rfl <;> rfl
theorem jx_fitI (a : Int32) : fits .int (.int a) = true := rfl
theorem jx_fitZ {a : Int} (h : a = 0 ∨ a = 1) : fits .boolean (.int (Int32.ofInt a)) = true := by rcases h with rfl | rfl <;> decide
theorem jx_S_put {A : Nat → Prop} {H0 H H1 : Heap} {locs : List Loc} {a k : Nat} (h : va_S A H0 H locs) (z : H1.size = H.size) (oq : ∀ q : Nat, q ≠ a → H1[q]? = H[q]?) (ha : A a) : va_S A H0 H1 (locs ++ [⟨a, k⟩]) := h.put z oq ha
theorem jxs_put {y idx : Nat} (hx : p.tables.exec = Jvm.exec) (hb : c.code = cc) (hts : ∀ w ∈ jxgoodw, w.before args s = true) (hown : s.vm.findClass (jxcn own) = some m.cls) (hst : jxst B ad ac D E s) (hin : jxkind y = 2 → meth.name = "<init>") (hdg : decode cc pc = .ok (.putfield idx, 3)) (h : jxput S y own idx st (fun st' S' => go (pc + 3) L st' S') = some r) (hgo : ∀ pc L st S, go pc L st S = some r → jxSim p l e R s m args below meth c Q B ad ac D nL n0 m0 pc L st S) : jxSim p l e R s m args below meth c Q B ad ac D nL n0 m0 pc L st S := by
  unfold jxput at h
  split at h
  · rename_i v r0 rest
    split at h
    · rename_i ci slot fty hf
      have hF := jxall_at jxchkF_ok hf
      unfold jxchkF at hF
      split at hF
      · cases hF
      · rename_i i hi
        dsimp only at hF h
        cases hfi0 : (Nat.beq ci 1000 || (Nat.ble 10 fty && !(Nat.beq (jxkind y) 2))) <;> rw [hfi0] at h <;> simp only [cond_true, cond_false] at h
        · have hfi : (Nat.ble 10 fty && !(Nat.beq (jxkind y) 2)) = false := by cases h8 : Nat.beq ci 1000 <;> rw [h8] at hfi0 <;> simp_all
          have hc10 : Nat.beq ci 1000 = false := by cases h8 : Nat.beq ci 1000 <;> rw [h8] at hfi0 <;> simp_all
          split at h
          · rename_i cj rs hS
            cases hcj : Nat.beq ci cj <;> rw [hcj] at h <;> simp only [cond_true, cond_false] at h
            · cases h
            · have : ci = cj := Nat.eq_of_beq_eq_true hcj
              subst this
              cases hc : Nat.beq ci 1000 <;> rw [hc] at hF <;> simp only [cond_true, cond_false] at hF
              · split at hF
                · cases hF
                · rename_i q hq
                  simp only [Bool.and_eq_true, decide_eq_true_eq, Bool.or_eq_true, Bool.not_eq_true', beq_iff_eq] at hF
                  obtain ⟨⟨⟨⟨⟨hF1, hF2⟩, hF3⟩, hF4⟩, hF5⟩, hF6⟩ := hF
                  have hfin : (q.2.1 slot).2.2.2 = false ∨ ((q.2.1 slot).2.2.2 = true ∧ meth.name = "<init>" ∧ (q.2.1 slot).1 = jxcn own) := by
                    cases h10 : Nat.ble 10 fty
                    · exact Or.inl (by rw [hF4, h10])
                    · rw [h10] at hfi hF6
                      refine Or.inr ⟨by rw [hF4, h10], hin ?_, ?_⟩
                      · simp at hfi
                        exact hfi
                      · rcases hF6 with h9 | h9
                        · cases h9
                        · rw [hF5, h9]
                  intro H locs ls hd hl hs
                  have hlt := jx_lt_of hS
                  have hr0 : r0 < 1000 := by have := hd.2.1.1; omega
                  have hat : va_at D vwCl (B + r0, .inr (ci, (List.range rs.length).map (fun j => jxfld B ad S r0 j (rs.getD j 0)))) H := hd.1 r0 _ hS
                  have hg : jxg B ad (.inr (.inr (.inl r0))) = .ref (B + r0) := by simp only [jxg]; rw [if_neg (by omega), if_pos hr0]
                  have hs2 : ∀ v ∈ rest, jxokV v := fun v hv => hs v (List.mem_cons_of_mem _ (List.mem_cons_of_mem _ hv))
                  rw [List.map_cons, List.map_cons, hg]
                  split at h
                  · rename_i a hcd
                    have ha : jxin a := hs (.inl a) List.mem_cons_self
                    have hsl : slot < rs.length := (List.getElem?_eq_some_iff.mp hcd).1
                    have hrs : rs.getD slot 0 = 0 := by simp [List.getD, hcd]
                    have key : ∀ ty, parseFieldDescriptor (q.2.1 slot).2.2.1 = some ty → narrow ty (.int (Int32.ofInt a)) = .int (Int32.ofInt a) → fits ty (.int (Int32.ofInt a)) = true → go (pc + 3) L rest (S.1, jxu S.2.1 r0 slot a, S.2.2) = some r → W p l e R s m args below meth c H locs (S.1.length - n0) (jxsz S.1 - m0) Q (F0 m pc ls (.int (Int32.ofInt a) :: .ref (B + r0) :: rest.map (jxg B ad))) := fun ty hty hn hft hgo1 => by
                      refine jx_putrow hx hb hts hown hst hq hat hF1 (hts _ (jxat_mem hF2)) hfin hty hn hft (by simpa using hsl) hdg (fun H1 j z oq hn1 => ?_)
                      refine hgo _ _ _ _ hgo1 H1 _ ls ⟨jxPh_i hd.1 hd.2.1 hS (show (0 : Nat) ≠ 5 by decide) (show (0 : Nat) ≠ 6 by decide) oq ?_, jxokS_i hd.2.1 hlt ha, z.trans hd.2.2.1, jx_S_put hd.2.2.2.1 z oq (by show B ≤ B + r0; omega), hd.2.2.2.2⟩ hl hs2
                      rw [jx_setmap (g := fun j => jxfld B ad (S.1, jxu S.2.1 r0 slot a, S.2.2) r0 j (rs.getD j 0)) (by show jxfld _ _ _ _ _ (rs.getD slot 0) = _; rw [hrs]; simp [jxfld, jxu]) (fun j2 hj2 => by unfold jxfld; split <;> simp [jxu, hj2])] at hn1
                      exact hn1
                    unfold jxfit at hF3
                    split at h
                    · rename_i h0
                      rw [h0] at hF3
                      exact key .int (by simpa using hF3) rfl (jx_fitI _) h
                    · rename_i h0
                      rw [h0] at hF3
                      split at h
                      · rename_i h01
                        exact key .boolean (by simpa using hF3) (jx_bool h01) (jx_fitZ h01) h
                      · cases h
                    · cases h
                  · rename_i a hcd
                    have ha : jxinl a := hs (.inr (.inl a)) List.mem_cons_self
                    have hsl : slot < rs.length := (List.getElem?_eq_some_iff.mp hcd).1
                    have hrs : rs.getD slot 0 = 1 := by simp [List.getD, hcd]
                    split at h
                    · rename_i h0
                      unfold jxfit at hF3
                      rw [h0] at hF3
                      refine jx_putrow hx hb hts hown hst hq hat hF1 (hts _ (jxat_mem hF2)) hfin (ty := .long) (by simpa using hF3) rfl rfl (by simpa using hsl) hdg (fun H1 j z oq hn1 => ?_)
                      refine hgo _ _ _ _ h H1 _ ls ⟨jxPh_l hd.1 hS oq ?_, jxokS_l hd.2.1 hlt ha, z.trans hd.2.2.1, jx_S_put hd.2.2.2.1 z oq (by show B ≤ B + r0; omega), hd.2.2.2.2⟩ hl hs2
                      rw [jx_setmap (g := fun j => jxfld B ad (S.1, S.2.1, jxu S.2.2 r0 slot a) r0 j (rs.getD j 0)) (by show jxfld _ _ _ _ _ (rs.getD slot 0) = _; rw [hrs]; simp [jxfld, jxu, jxg]) (fun j2 hj2 => by unfold jxfld; split <;> simp [jxu, hj2])] at hn1
                      exact hn1
                    · cases h
                  · rename_i n cd hcd
                    have hsl : slot < rs.length := (List.getElem?_eq_some_iff.mp hcd).1
                    split at h
                    · rename_i h0
                      unfold jxfit at hF3
                      rw [h0] at hF3
                      cases hn4 : Nat.beq n 4000 <;> rw [hn4] at h <;> simp only [cond_true, cond_false] at h
                      case true => cases h
                      have hgn : jxg B ad (.inr (.inr (.inl n))) = .ref (if n < 1000 then B + n else ad n) := if_neg (Nat.ne_of_beq_eq_false hn4)
                      have key : ∀ ty, parseFieldDescriptor (q.2.1 slot).2.2.1 = some ty → (narrow ty (.ref (if n < 1000 then B + n else ad n)) = .ref (if n < 1000 then B + n else ad n)) → fits ty (.ref (if n < 1000 then B + n else ad n)) = true → W p l e R s m args below meth c H locs (S.1.length - n0) (jxsz S.1 - m0) Q (F0 m pc ls (jxg B ad (.inr (.inr (.inl n))) :: .ref (B + r0) :: rest.map (jxg B ad))) := fun ty hty hn hft => by
                        rw [hgn]
                        refine jx_putrow hx hb hts hown hst hq hat hF1 (hts _ (jxat_mem hF2)) hfin hty hn hft (by simpa using hsl) hdg (fun H1 j z oq hn1 => ?_)
                        have h7 := hgo _ _ _ _ h H1 (locs ++ [⟨B + r0, j⟩]) ls ⟨jxPh_r hd.1 hS oq ?_, jxokS_r hd.2.1 hS, by show H1.size = B + (S.1.set _ _).length; rw [List.length_set]; exact z.trans hd.2.2.1, jx_S_put hd.2.2.2.1 z oq (by show B ≤ B + r0; omega), by show n0 ≤ (S.1.set _ _).length; rw [List.length_set]; exact hd.2.2.2.2.1, by show m0 ≤ jxsz (S.1.set _ _); rw [jxsz_set hS (by simp [jxsz1])]; exact hd.2.2.2.2.2⟩ hl hs2
                        · rw [show (S.1.set r0 (0, ci, rs.set slot (n + 3))).length = S.1.length from List.length_set .., jxsz_set hS (by simp [jxsz1])] at h7
                          exact h7
                        · have e2 : jxcell B ad ac S r0 (0, ci, rs.set slot (n + 3)) = .inr (ci, ((List.range rs.length).map (fun j => jxfld B ad S r0 j (rs.getD j 0))).set slot (.ref (if n < 1000 then B + n else ad n))) := by
                            show Sum.inr _ = _
                            congr 2
                            rw [List.length_set]
                            refine (jx_setmap ?_ ?_).symm
                            · show jxfld _ _ _ _ _ ((rs.set slot (n + 3)).getD slot 0) = _
                              rw [show (rs.set slot (n + 3)).getD slot 0 = n + 3 by simp [List.getD, hsl]]
                              exact if_neg (Nat.ne_of_beq_eq_false hn4)
                            · intro i2 hi2
                              show jxfld _ _ _ _ _ ((rs.set slot (n + 3)).getD i2 0) = _
                              rw [show (rs.set slot (n + 3)).getD i2 0 = rs.getD i2 0 by simp [List.getD, Ne.symm hi2]]
                          rw [e2]
                          exact hn1
                      have hF9 : jxisref (parseFieldDescriptor (q.2.1 slot).2.2.1) = true := hF3
                      unfold jxisref at hF9
                      split at hF9
                      · rename_i hty; exact key _ hty rfl rfl
                      · rename_i hty; exact key _ hty rfl rfl
                      · cases hF9
                    · cases h
                  · cases h
              · rw [hc] at hc10; cases hc10
          · cases h
        · cases h
    · cases h
  · cases h
end JX5
