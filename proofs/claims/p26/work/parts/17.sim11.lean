/-! the start: what the Statement gives of it, in the small machine's words -/
def jxgv : List Jvm.Cond := flatC (Jvm.Cond.and given_1 narrow_1)
theorem jxgv_at {A : Array Value} {s : State} (h : (Jvm.Cond.and given_1 narrow_1).before A s = true) {k : Nat} {w : Jvm.Cond} (hk : jxgv[k]? = some w) : w.before A s = true := flat_of_before _ h w (List.mem_of_getElem? hk)
def jxtm (i : Nat) : Term := Term.string (jxstrs.getD i ("", 0, "")).1 (jxstrs.getD i ("", 0, "")).2.1
def jxw1 (i : Nat) : Jvm.Cond := .exactly (jxtm i) "java/lang/String"
def jxw2 (i : Nat) : Jvm.Cond := .eq (.field (jxtm i) "java/lang/String" "coder" "B") (.int 0)
def jxw3 (i : Nat) : Jvm.Cond := .arrayOf (.field (jxtm i) "java/lang/String" "value" "[B") .byte
def jxw4 (i : Nat) : Jvm.Cond := .eq (.length (.field (jxtm i) "java/lang/String" "value" "[B")) (.int (Int32.ofNat (jxlens.getD i 0)))
def jxw5 (i j : Nat) : Jvm.Cond := .eq (.elem (.field (jxtm i) "java/lang/String" "value" "[B") (.int (Int32.ofNat j))) (.int ((jxbyts.getD i []).getD j 0))
def jxw6 (j i : Nat) : Jvm.Cond := .not (.eq (jxtm j) (jxtm i))
def jxsn (i : Nat) : String := (["LEAST", "MOST", "WITHOUT"] : List String).getD i ""
def jxsm (i : Nat) : Term := .static "CardClub$RuleBook" (jxsn i) "[I"
def jxw7 (i : Nat) : Jvm.Cond := .arrayOf (jxsm i) .int
def jxw8 (i : Nat) : Jvm.Cond := .eq (.length (jxsm i)) (.int (Int32.ofNat (jxstat.getD i []).length))
def jxw9 (i j : Nat) : Jvm.Cond := .eq (.elem (jxsm i) (.int (Int32.ofNat j))) (.int (Int32.ofInt ((jxstat.getD i []).getD j 0)))
def jxhas (w : Jvm.Cond) : Prop := ∃ k : Nat, jxgv[k]? = some w
theorem jxhas_mk {w : Jvm.Cond} (k : Nat) (h : jxgv[k]? = some w) : jxhas w := ⟨k, h⟩
def jxhasE (i n : Nat) : Prop := ∀ j, j < n → jxhas (jxw5 i j)
def jxhasN (i : Nat) : Prop := ∀ j, j < i → jxhas (jxw6 j i)
def jxhasS (i n : Nat) : Prop := ∀ j, j < n → jxhas (jxw9 i j)
def jxhast (w : Jvm.Cond) : Prop := ∃ k : Nat, lw_tbl[k]? = some w
theorem jxhast_mk {w : Jvm.Cond} {k : Nat} (h : lw_tbl[k]? = some w) : jxhast w := ⟨k, h⟩
set_option maxRecDepth 100000 in
theorem jxh1_0 : jxhas (jxw1 0) := jxhas_mk 33 rfl
set_option maxRecDepth 100000 in
theorem jxh1_1 : jxhas (jxw1 1) := jxhas_mk 40 rfl
set_option maxRecDepth 100000 in
theorem jxh1_2 : jxhas (jxw1 2) := jxhas_mk 49 rfl
set_option maxRecDepth 100000 in
theorem jxh1_3 : jxhas (jxw1 3) := jxhas_mk 61 rfl
set_option maxRecDepth 100000 in
theorem jxh1_4 : jxhas (jxw1 4) := jxhas_mk 74 rfl
set_option maxRecDepth 100000 in
theorem jxh1_5 : jxhas (jxw1 5) := jxhas_mk 85 rfl
set_option maxRecDepth 100000 in
theorem jxh1_6 : jxhas (jxw1 6) := jxhas_mk 98 rfl
set_option maxRecDepth 100000 in
theorem jxh1_7 : jxhas (jxw1 7) := jxhas_mk 111 rfl
set_option maxRecDepth 100000 in
theorem jxh1_8 : jxhas (jxw1 8) := jxhas_mk 125 rfl
set_option maxRecDepth 100000 in
theorem jxh1_9 : jxhas (jxw1 9) := jxhas_mk 140 rfl
set_option maxRecDepth 100000 in
theorem jxh1_10 : jxhas (jxw1 10) := jxhas_mk 155 rfl
set_option maxRecDepth 100000 in
theorem jxh1_11 : jxhas (jxw1 11) := jxhas_mk 174 rfl
set_option maxRecDepth 100000 in
theorem jxh1_12 : jxhas (jxw1 12) := jxhas_mk 193 rfl
set_option maxRecDepth 100000 in
theorem jxh1_13 : jxhas (jxw1 13) := jxhas_mk 214 rfl
set_option maxRecDepth 100000 in
theorem jxh1_14 : jxhas (jxw1 14) := jxhas_mk 235 rfl
set_option maxRecDepth 100000 in
theorem jxh1_15 : jxhas (jxw1 15) := jxhas_mk 259 rfl
theorem jxh1 : ∀ i, i < 16 → jxhas (jxw1 i) := lt_s (lt_s (lt_s (lt_s (lt_s (lt_s (lt_s (lt_s (lt_s (lt_s (lt_s (lt_s (lt_s (lt_s (lt_s (lt_s (lt_0) (jxh1_0)) (jxh1_1)) (jxh1_2)) (jxh1_3)) (jxh1_4)) (jxh1_5)) (jxh1_6)) (jxh1_7)) (jxh1_8)) (jxh1_9)) (jxh1_10)) (jxh1_11)) (jxh1_12)) (jxh1_13)) (jxh1_14)) (jxh1_15)
set_option maxRecDepth 100000 in
theorem jxh2_0 : jxhas (jxw2 0) := jxhas_mk 34 rfl
set_option maxRecDepth 100000 in
theorem jxh2_1 : jxhas (jxw2 1) := jxhas_mk 41 rfl
set_option maxRecDepth 100000 in
theorem jxh2_2 : jxhas (jxw2 2) := jxhas_mk 50 rfl
set_option maxRecDepth 100000 in
theorem jxh2_3 : jxhas (jxw2 3) := jxhas_mk 62 rfl
set_option maxRecDepth 100000 in
theorem jxh2_4 : jxhas (jxw2 4) := jxhas_mk 75 rfl
set_option maxRecDepth 100000 in
theorem jxh2_5 : jxhas (jxw2 5) := jxhas_mk 86 rfl
set_option maxRecDepth 100000 in
theorem jxh2_6 : jxhas (jxw2 6) := jxhas_mk 99 rfl
set_option maxRecDepth 100000 in
theorem jxh2_7 : jxhas (jxw2 7) := jxhas_mk 112 rfl
set_option maxRecDepth 100000 in
theorem jxh2_8 : jxhas (jxw2 8) := jxhas_mk 126 rfl
set_option maxRecDepth 100000 in
theorem jxh2_9 : jxhas (jxw2 9) := jxhas_mk 141 rfl
set_option maxRecDepth 100000 in
theorem jxh2_10 : jxhas (jxw2 10) := jxhas_mk 156 rfl
set_option maxRecDepth 100000 in
theorem jxh2_11 : jxhas (jxw2 11) := jxhas_mk 175 rfl
set_option maxRecDepth 100000 in
theorem jxh2_12 : jxhas (jxw2 12) := jxhas_mk 194 rfl
set_option maxRecDepth 100000 in
theorem jxh2_13 : jxhas (jxw2 13) := jxhas_mk 215 rfl
set_option maxRecDepth 100000 in
theorem jxh2_14 : jxhas (jxw2 14) := jxhas_mk 236 rfl
set_option maxRecDepth 100000 in
theorem jxh2_15 : jxhas (jxw2 15) := jxhas_mk 260 rfl
theorem jxh2 : ∀ i, i < 16 → jxhas (jxw2 i) := lt_s (lt_s (lt_s (lt_s (lt_s (lt_s (lt_s (lt_s (lt_s (lt_s (lt_s (lt_s (lt_s (lt_s (lt_s (lt_s (lt_0) (jxh2_0)) (jxh2_1)) (jxh2_2)) (jxh2_3)) (jxh2_4)) (jxh2_5)) (jxh2_6)) (jxh2_7)) (jxh2_8)) (jxh2_9)) (jxh2_10)) (jxh2_11)) (jxh2_12)) (jxh2_13)) (jxh2_14)) (jxh2_15)
set_option maxRecDepth 100000 in
theorem jxh3_0 : jxhas (jxw3 0) := jxhas_mk 35 rfl
set_option maxRecDepth 100000 in
theorem jxh3_1 : jxhas (jxw3 1) := jxhas_mk 42 rfl
set_option maxRecDepth 100000 in
theorem jxh3_2 : jxhas (jxw3 2) := jxhas_mk 51 rfl
set_option maxRecDepth 100000 in
theorem jxh3_3 : jxhas (jxw3 3) := jxhas_mk 63 rfl
set_option maxRecDepth 100000 in
theorem jxh3_4 : jxhas (jxw3 4) := jxhas_mk 76 rfl
set_option maxRecDepth 100000 in
theorem jxh3_5 : jxhas (jxw3 5) := jxhas_mk 87 rfl
set_option maxRecDepth 100000 in
theorem jxh3_6 : jxhas (jxw3 6) := jxhas_mk 100 rfl
set_option maxRecDepth 100000 in
theorem jxh3_7 : jxhas (jxw3 7) := jxhas_mk 113 rfl
set_option maxRecDepth 100000 in
theorem jxh3_8 : jxhas (jxw3 8) := jxhas_mk 127 rfl
set_option maxRecDepth 100000 in
theorem jxh3_9 : jxhas (jxw3 9) := jxhas_mk 142 rfl
set_option maxRecDepth 100000 in
theorem jxh3_10 : jxhas (jxw3 10) := jxhas_mk 157 rfl
set_option maxRecDepth 100000 in
theorem jxh3_11 : jxhas (jxw3 11) := jxhas_mk 176 rfl
set_option maxRecDepth 100000 in
theorem jxh3_12 : jxhas (jxw3 12) := jxhas_mk 195 rfl
set_option maxRecDepth 100000 in
theorem jxh3_13 : jxhas (jxw3 13) := jxhas_mk 216 rfl
set_option maxRecDepth 100000 in
theorem jxh3_14 : jxhas (jxw3 14) := jxhas_mk 237 rfl
set_option maxRecDepth 100000 in
theorem jxh3_15 : jxhas (jxw3 15) := jxhas_mk 261 rfl
theorem jxh3 : ∀ i, i < 16 → jxhas (jxw3 i) := lt_s (lt_s (lt_s (lt_s (lt_s (lt_s (lt_s (lt_s (lt_s (lt_s (lt_s (lt_s (lt_s (lt_s (lt_s (lt_s (lt_0) (jxh3_0)) (jxh3_1)) (jxh3_2)) (jxh3_3)) (jxh3_4)) (jxh3_5)) (jxh3_6)) (jxh3_7)) (jxh3_8)) (jxh3_9)) (jxh3_10)) (jxh3_11)) (jxh3_12)) (jxh3_13)) (jxh3_14)) (jxh3_15)
set_option maxRecDepth 100000 in
theorem jxh4_0 : jxhas (jxw4 0) := jxhas_mk 36 rfl
set_option maxRecDepth 100000 in
theorem jxh4_1 : jxhas (jxw4 1) := jxhas_mk 43 rfl
set_option maxRecDepth 100000 in
theorem jxh4_2 : jxhas (jxw4 2) := jxhas_mk 52 rfl
set_option maxRecDepth 100000 in
theorem jxh4_3 : jxhas (jxw4 3) := jxhas_mk 64 rfl
set_option maxRecDepth 100000 in
theorem jxh4_4 : jxhas (jxw4 4) := jxhas_mk 77 rfl
set_option maxRecDepth 100000 in
theorem jxh4_5 : jxhas (jxw4 5) := jxhas_mk 88 rfl
set_option maxRecDepth 100000 in
theorem jxh4_6 : jxhas (jxw4 6) := jxhas_mk 101 rfl
set_option maxRecDepth 100000 in
theorem jxh4_7 : jxhas (jxw4 7) := jxhas_mk 114 rfl
set_option maxRecDepth 100000 in
theorem jxh4_8 : jxhas (jxw4 8) := jxhas_mk 128 rfl
set_option maxRecDepth 100000 in
theorem jxh4_9 : jxhas (jxw4 9) := jxhas_mk 143 rfl
set_option maxRecDepth 100000 in
theorem jxh4_10 : jxhas (jxw4 10) := jxhas_mk 158 rfl
set_option maxRecDepth 100000 in
theorem jxh4_11 : jxhas (jxw4 11) := jxhas_mk 177 rfl
set_option maxRecDepth 100000 in
theorem jxh4_12 : jxhas (jxw4 12) := jxhas_mk 196 rfl
set_option maxRecDepth 100000 in
theorem jxh4_13 : jxhas (jxw4 13) := jxhas_mk 217 rfl
set_option maxRecDepth 100000 in
theorem jxh4_14 : jxhas (jxw4 14) := jxhas_mk 238 rfl
set_option maxRecDepth 100000 in
theorem jxh4_15 : jxhas (jxw4 15) := jxhas_mk 262 rfl
theorem jxh4 : ∀ i, i < 16 → jxhas (jxw4 i) := lt_s (lt_s (lt_s (lt_s (lt_s (lt_s (lt_s (lt_s (lt_s (lt_s (lt_s (lt_s (lt_s (lt_s (lt_s (lt_s (lt_0) (jxh4_0)) (jxh4_1)) (jxh4_2)) (jxh4_3)) (jxh4_4)) (jxh4_5)) (jxh4_6)) (jxh4_7)) (jxh4_8)) (jxh4_9)) (jxh4_10)) (jxh4_11)) (jxh4_12)) (jxh4_13)) (jxh4_14)) (jxh4_15)
set_option maxRecDepth 100000 in
theorem jxh5_0_0 : jxhas (jxw5 0 0) := jxhas_mk 37 (by decide +kernel)
set_option maxRecDepth 100000 in
theorem jxh5_0_1 : jxhas (jxw5 0 1) := jxhas_mk 38 (by decide +kernel)
set_option maxRecDepth 100000 in
theorem jxh5_0_2 : jxhas (jxw5 0 2) := jxhas_mk 39 (by decide +kernel)
theorem jxh5_0 : jxhasE 0 (jxlens.getD 0 0) := (lt_s (lt_s (lt_s (lt_0) (jxh5_0_0)) (jxh5_0_1)) (jxh5_0_2) : ∀ j, j < 3 → jxhas (jxw5 0 j))
set_option maxRecDepth 100000 in
theorem jxh5_1_0 : jxhas (jxw5 1 0) := jxhas_mk 44 (by decide +kernel)
set_option maxRecDepth 100000 in
theorem jxh5_1_1 : jxhas (jxw5 1 1) := jxhas_mk 45 (by decide +kernel)
set_option maxRecDepth 100000 in
theorem jxh5_1_2 : jxhas (jxw5 1 2) := jxhas_mk 46 (by decide +kernel)
set_option maxRecDepth 100000 in
theorem jxh5_1_3 : jxhas (jxw5 1 3) := jxhas_mk 47 (by decide +kernel)
theorem jxh5_1 : jxhasE 1 (jxlens.getD 1 0) := (lt_s (lt_s (lt_s (lt_s (lt_0) (jxh5_1_0)) (jxh5_1_1)) (jxh5_1_2)) (jxh5_1_3) : ∀ j, j < 4 → jxhas (jxw5 1 j))
set_option maxRecDepth 100000 in
theorem jxh5_2_0 : jxhas (jxw5 2 0) := jxhas_mk 53 (by decide +kernel)
set_option maxRecDepth 100000 in
theorem jxh5_2_1 : jxhas (jxw5 2 1) := jxhas_mk 54 (by decide +kernel)
set_option maxRecDepth 100000 in
theorem jxh5_2_2 : jxhas (jxw5 2 2) := jxhas_mk 55 (by decide +kernel)
set_option maxRecDepth 100000 in
theorem jxh5_2_3 : jxhas (jxw5 2 3) := jxhas_mk 56 (by decide +kernel)
set_option maxRecDepth 100000 in
theorem jxh5_2_4 : jxhas (jxw5 2 4) := jxhas_mk 57 (by decide +kernel)
set_option maxRecDepth 100000 in
theorem jxh5_2_5 : jxhas (jxw5 2 5) := jxhas_mk 58 (by decide +kernel)
theorem jxh5_2 : jxhasE 2 (jxlens.getD 2 0) := (lt_s (lt_s (lt_s (lt_s (lt_s (lt_s (lt_0) (jxh5_2_0)) (jxh5_2_1)) (jxh5_2_2)) (jxh5_2_3)) (jxh5_2_4)) (jxh5_2_5) : ∀ j, j < 6 → jxhas (jxw5 2 j))
set_option maxRecDepth 100000 in
theorem jxh5_3_0 : jxhas (jxw5 3 0) := jxhas_mk 65 (by decide +kernel)
set_option maxRecDepth 100000 in
theorem jxh5_3_1 : jxhas (jxw5 3 1) := jxhas_mk 66 (by decide +kernel)
set_option maxRecDepth 100000 in
theorem jxh5_3_2 : jxhas (jxw5 3 2) := jxhas_mk 67 (by decide +kernel)
set_option maxRecDepth 100000 in
theorem jxh5_3_3 : jxhas (jxw5 3 3) := jxhas_mk 68 (by decide +kernel)
set_option maxRecDepth 100000 in
theorem jxh5_3_4 : jxhas (jxw5 3 4) := jxhas_mk 69 (by decide +kernel)
set_option maxRecDepth 100000 in
theorem jxh5_3_5 : jxhas (jxw5 3 5) := jxhas_mk 70 (by decide +kernel)
theorem jxh5_3 : jxhasE 3 (jxlens.getD 3 0) := (lt_s (lt_s (lt_s (lt_s (lt_s (lt_s (lt_0) (jxh5_3_0)) (jxh5_3_1)) (jxh5_3_2)) (jxh5_3_3)) (jxh5_3_4)) (jxh5_3_5) : ∀ j, j < 6 → jxhas (jxw5 3 j))
set_option maxRecDepth 100000 in
theorem jxh5_4_0 : jxhas (jxw5 4 0) := jxhas_mk 78 (by decide +kernel)
set_option maxRecDepth 100000 in
theorem jxh5_4_1 : jxhas (jxw5 4 1) := jxhas_mk 79 (by decide +kernel)
set_option maxRecDepth 100000 in
theorem jxh5_4_2 : jxhas (jxw5 4 2) := jxhas_mk 80 (by decide +kernel)
theorem jxh5_4 : jxhasE 4 (jxlens.getD 4 0) := (lt_s (lt_s (lt_s (lt_0) (jxh5_4_0)) (jxh5_4_1)) (jxh5_4_2) : ∀ j, j < 3 → jxhas (jxw5 4 j))
set_option maxRecDepth 100000 in
theorem jxh5_5_0 : jxhas (jxw5 5 0) := jxhas_mk 89 (by decide +kernel)
set_option maxRecDepth 100000 in
theorem jxh5_5_1 : jxhas (jxw5 5 1) := jxhas_mk 90 (by decide +kernel)
set_option maxRecDepth 100000 in
theorem jxh5_5_2 : jxhas (jxw5 5 2) := jxhas_mk 91 (by decide +kernel)
set_option maxRecDepth 100000 in
theorem jxh5_5_3 : jxhas (jxw5 5 3) := jxhas_mk 92 (by decide +kernel)
theorem jxh5_5 : jxhasE 5 (jxlens.getD 5 0) := (lt_s (lt_s (lt_s (lt_s (lt_0) (jxh5_5_0)) (jxh5_5_1)) (jxh5_5_2)) (jxh5_5_3) : ∀ j, j < 4 → jxhas (jxw5 5 j))
set_option maxRecDepth 100000 in
theorem jxh5_6_0 : jxhas (jxw5 6 0) := jxhas_mk 102 (by decide +kernel)
set_option maxRecDepth 100000 in
theorem jxh5_6_1 : jxhas (jxw5 6 1) := jxhas_mk 103 (by decide +kernel)
set_option maxRecDepth 100000 in
theorem jxh5_6_2 : jxhas (jxw5 6 2) := jxhas_mk 104 (by decide +kernel)
theorem jxh5_6 : jxhasE 6 (jxlens.getD 6 0) := (lt_s (lt_s (lt_s (lt_0) (jxh5_6_0)) (jxh5_6_1)) (jxh5_6_2) : ∀ j, j < 3 → jxhas (jxw5 6 j))
set_option maxRecDepth 100000 in
theorem jxh5_7_0 : jxhas (jxw5 7 0) := jxhas_mk 115 (by decide +kernel)
set_option maxRecDepth 100000 in
theorem jxh5_7_1 : jxhas (jxw5 7 1) := jxhas_mk 116 (by decide +kernel)
set_option maxRecDepth 100000 in
theorem jxh5_7_2 : jxhas (jxw5 7 2) := jxhas_mk 117 (by decide +kernel)
theorem jxh5_7 : jxhasE 7 (jxlens.getD 7 0) := (lt_s (lt_s (lt_s (lt_0) (jxh5_7_0)) (jxh5_7_1)) (jxh5_7_2) : ∀ j, j < 3 → jxhas (jxw5 7 j))
set_option maxRecDepth 100000 in
theorem jxh5_8_0 : jxhas (jxw5 8 0) := jxhas_mk 129 (by decide +kernel)
set_option maxRecDepth 100000 in
theorem jxh5_8_1 : jxhas (jxw5 8 1) := jxhas_mk 130 (by decide +kernel)
set_option maxRecDepth 100000 in
theorem jxh5_8_2 : jxhas (jxw5 8 2) := jxhas_mk 131 (by decide +kernel)
theorem jxh5_8 : jxhasE 8 (jxlens.getD 8 0) := (lt_s (lt_s (lt_s (lt_0) (jxh5_8_0)) (jxh5_8_1)) (jxh5_8_2) : ∀ j, j < 3 → jxhas (jxw5 8 j))
set_option maxRecDepth 100000 in
theorem jxh5_9_0 : jxhas (jxw5 9 0) := jxhas_mk 144 (by decide +kernel)
set_option maxRecDepth 100000 in
theorem jxh5_9_1 : jxhas (jxw5 9 1) := jxhas_mk 145 (by decide +kernel)
theorem jxh5_9 : jxhasE 9 (jxlens.getD 9 0) := (lt_s (lt_s (lt_0) (jxh5_9_0)) (jxh5_9_1) : ∀ j, j < 2 → jxhas (jxw5 9 j))
set_option maxRecDepth 100000 in
theorem jxh5_10_0 : jxhas (jxw5 10 0) := jxhas_mk 159 (by decide +kernel)
set_option maxRecDepth 100000 in
theorem jxh5_10_1 : jxhas (jxw5 10 1) := jxhas_mk 160 (by decide +kernel)
set_option maxRecDepth 100000 in
theorem jxh5_10_2 : jxhas (jxw5 10 2) := jxhas_mk 161 (by decide +kernel)
set_option maxRecDepth 100000 in
theorem jxh5_10_3 : jxhas (jxw5 10 3) := jxhas_mk 162 (by decide +kernel)
set_option maxRecDepth 100000 in
theorem jxh5_10_4 : jxhas (jxw5 10 4) := jxhas_mk 163 (by decide +kernel)
theorem jxh5_10 : jxhasE 10 (jxlens.getD 10 0) := (lt_s (lt_s (lt_s (lt_s (lt_s (lt_0) (jxh5_10_0)) (jxh5_10_1)) (jxh5_10_2)) (jxh5_10_3)) (jxh5_10_4) : ∀ j, j < 5 → jxhas (jxw5 10 j))
set_option maxRecDepth 100000 in
theorem jxh5_11_0 : jxhas (jxw5 11 0) := jxhas_mk 178 (by decide +kernel)
set_option maxRecDepth 100000 in
theorem jxh5_11_1 : jxhas (jxw5 11 1) := jxhas_mk 179 (by decide +kernel)
set_option maxRecDepth 100000 in
theorem jxh5_11_2 : jxhas (jxw5 11 2) := jxhas_mk 180 (by decide +kernel)
set_option maxRecDepth 100000 in
theorem jxh5_11_3 : jxhas (jxw5 11 3) := jxhas_mk 181 (by decide +kernel)
theorem jxh5_11 : jxhasE 11 (jxlens.getD 11 0) := (lt_s (lt_s (lt_s (lt_s (lt_0) (jxh5_11_0)) (jxh5_11_1)) (jxh5_11_2)) (jxh5_11_3) : ∀ j, j < 4 → jxhas (jxw5 11 j))
set_option maxRecDepth 100000 in
theorem jxh5_12_0 : jxhas (jxw5 12 0) := jxhas_mk 197 (by decide +kernel)
set_option maxRecDepth 100000 in
theorem jxh5_12_1 : jxhas (jxw5 12 1) := jxhas_mk 198 (by decide +kernel)
set_option maxRecDepth 100000 in
theorem jxh5_12_2 : jxhas (jxw5 12 2) := jxhas_mk 199 (by decide +kernel)
set_option maxRecDepth 100000 in
theorem jxh5_12_3 : jxhas (jxw5 12 3) := jxhas_mk 200 (by decide +kernel)
set_option maxRecDepth 100000 in
theorem jxh5_12_4 : jxhas (jxw5 12 4) := jxhas_mk 201 (by decide +kernel)
theorem jxh5_12 : jxhasE 12 (jxlens.getD 12 0) := (lt_s (lt_s (lt_s (lt_s (lt_s (lt_0) (jxh5_12_0)) (jxh5_12_1)) (jxh5_12_2)) (jxh5_12_3)) (jxh5_12_4) : ∀ j, j < 5 → jxhas (jxw5 12 j))
set_option maxRecDepth 100000 in
theorem jxh5_13_0 : jxhas (jxw5 13 0) := jxhas_mk 218 (by decide +kernel)
set_option maxRecDepth 100000 in
theorem jxh5_13_1 : jxhas (jxw5 13 1) := jxhas_mk 219 (by decide +kernel)
set_option maxRecDepth 100000 in
theorem jxh5_13_2 : jxhas (jxw5 13 2) := jxhas_mk 220 (by decide +kernel)
set_option maxRecDepth 100000 in
theorem jxh5_13_3 : jxhas (jxw5 13 3) := jxhas_mk 221 (by decide +kernel)
theorem jxh5_13 : jxhasE 13 (jxlens.getD 13 0) := (lt_s (lt_s (lt_s (lt_s (lt_0) (jxh5_13_0)) (jxh5_13_1)) (jxh5_13_2)) (jxh5_13_3) : ∀ j, j < 4 → jxhas (jxw5 13 j))
set_option maxRecDepth 100000 in
theorem jxh5_14_0 : jxhas (jxw5 14 0) := jxhas_mk 239 (by decide +kernel)
set_option maxRecDepth 100000 in
theorem jxh5_14_1 : jxhas (jxw5 14 1) := jxhas_mk 240 (by decide +kernel)
set_option maxRecDepth 100000 in
theorem jxh5_14_2 : jxhas (jxw5 14 2) := jxhas_mk 241 (by decide +kernel)
set_option maxRecDepth 100000 in
theorem jxh5_14_3 : jxhas (jxw5 14 3) := jxhas_mk 242 (by decide +kernel)
set_option maxRecDepth 100000 in
theorem jxh5_14_4 : jxhas (jxw5 14 4) := jxhas_mk 243 (by decide +kernel)
set_option maxRecDepth 100000 in
theorem jxh5_14_5 : jxhas (jxw5 14 5) := jxhas_mk 244 (by decide +kernel)
theorem jxh5_14 : jxhasE 14 (jxlens.getD 14 0) := (lt_s (lt_s (lt_s (lt_s (lt_s (lt_s (lt_0) (jxh5_14_0)) (jxh5_14_1)) (jxh5_14_2)) (jxh5_14_3)) (jxh5_14_4)) (jxh5_14_5) : ∀ j, j < 6 → jxhas (jxw5 14 j))
set_option maxRecDepth 100000 in
theorem jxh5_15_0 : jxhas (jxw5 15 0) := jxhas_mk 263 (by decide +kernel)
set_option maxRecDepth 100000 in
theorem jxh5_15_1 : jxhas (jxw5 15 1) := jxhas_mk 264 (by decide +kernel)
set_option maxRecDepth 100000 in
theorem jxh5_15_2 : jxhas (jxw5 15 2) := jxhas_mk 265 (by decide +kernel)
set_option maxRecDepth 100000 in
theorem jxh5_15_3 : jxhas (jxw5 15 3) := jxhas_mk 266 (by decide +kernel)
theorem jxh5_15 : jxhasE 15 (jxlens.getD 15 0) := (lt_s (lt_s (lt_s (lt_s (lt_0) (jxh5_15_0)) (jxh5_15_1)) (jxh5_15_2)) (jxh5_15_3) : ∀ j, j < 4 → jxhas (jxw5 15 j))
theorem jxh5 : ∀ i, i < 16 → jxhasE i (jxlens.getD i 0) := lt_s (lt_s (lt_s (lt_s (lt_s (lt_s (lt_s (lt_s (lt_s (lt_s (lt_s (lt_s (lt_s (lt_s (lt_s (lt_s (lt_0) (jxh5_0)) (jxh5_1)) (jxh5_2)) (jxh5_3)) (jxh5_4)) (jxh5_5)) (jxh5_6)) (jxh5_7)) (jxh5_8)) (jxh5_9)) (jxh5_10)) (jxh5_11)) (jxh5_12)) (jxh5_13)) (jxh5_14)) (jxh5_15)
theorem jxh6_0 : jxhasN 0 := (lt_0 : ∀ j, j < 0 → jxhas (jxw6 j 0))
set_option maxRecDepth 100000 in
theorem jxh6_1_0 : jxhas (jxw6 0 1) := jxhas_mk 48 rfl
theorem jxh6_1 : jxhasN 1 := (lt_s (lt_0) (jxh6_1_0) : ∀ j, j < 1 → jxhas (jxw6 j 1))
set_option maxRecDepth 100000 in
theorem jxh6_2_0 : jxhas (jxw6 0 2) := jxhas_mk 59 rfl
set_option maxRecDepth 100000 in
theorem jxh6_2_1 : jxhas (jxw6 1 2) := jxhas_mk 60 rfl
theorem jxh6_2 : jxhasN 2 := (lt_s (lt_s (lt_0) (jxh6_2_0)) (jxh6_2_1) : ∀ j, j < 2 → jxhas (jxw6 j 2))
set_option maxRecDepth 100000 in
theorem jxh6_3_0 : jxhas (jxw6 0 3) := jxhas_mk 71 rfl
set_option maxRecDepth 100000 in
theorem jxh6_3_1 : jxhas (jxw6 1 3) := jxhas_mk 72 rfl
set_option maxRecDepth 100000 in
theorem jxh6_3_2 : jxhas (jxw6 2 3) := jxhas_mk 73 rfl
theorem jxh6_3 : jxhasN 3 := (lt_s (lt_s (lt_s (lt_0) (jxh6_3_0)) (jxh6_3_1)) (jxh6_3_2) : ∀ j, j < 3 → jxhas (jxw6 j 3))
set_option maxRecDepth 100000 in
theorem jxh6_4_0 : jxhas (jxw6 0 4) := jxhas_mk 81 rfl
set_option maxRecDepth 100000 in
theorem jxh6_4_1 : jxhas (jxw6 1 4) := jxhas_mk 82 rfl
set_option maxRecDepth 100000 in
theorem jxh6_4_2 : jxhas (jxw6 2 4) := jxhas_mk 83 rfl
set_option maxRecDepth 100000 in
theorem jxh6_4_3 : jxhas (jxw6 3 4) := jxhas_mk 84 rfl
theorem jxh6_4 : jxhasN 4 := (lt_s (lt_s (lt_s (lt_s (lt_0) (jxh6_4_0)) (jxh6_4_1)) (jxh6_4_2)) (jxh6_4_3) : ∀ j, j < 4 → jxhas (jxw6 j 4))
set_option maxRecDepth 100000 in
theorem jxh6_5_0 : jxhas (jxw6 0 5) := jxhas_mk 93 rfl
set_option maxRecDepth 100000 in
theorem jxh6_5_1 : jxhas (jxw6 1 5) := jxhas_mk 94 rfl
set_option maxRecDepth 100000 in
theorem jxh6_5_2 : jxhas (jxw6 2 5) := jxhas_mk 95 rfl
set_option maxRecDepth 100000 in
theorem jxh6_5_3 : jxhas (jxw6 3 5) := jxhas_mk 96 rfl
set_option maxRecDepth 100000 in
theorem jxh6_5_4 : jxhas (jxw6 4 5) := jxhas_mk 97 rfl
theorem jxh6_5 : jxhasN 5 := (lt_s (lt_s (lt_s (lt_s (lt_s (lt_0) (jxh6_5_0)) (jxh6_5_1)) (jxh6_5_2)) (jxh6_5_3)) (jxh6_5_4) : ∀ j, j < 5 → jxhas (jxw6 j 5))
set_option maxRecDepth 100000 in
theorem jxh6_6_0 : jxhas (jxw6 0 6) := jxhas_mk 105 rfl
set_option maxRecDepth 100000 in
theorem jxh6_6_1 : jxhas (jxw6 1 6) := jxhas_mk 106 rfl
set_option maxRecDepth 100000 in
theorem jxh6_6_2 : jxhas (jxw6 2 6) := jxhas_mk 107 rfl
set_option maxRecDepth 100000 in
theorem jxh6_6_3 : jxhas (jxw6 3 6) := jxhas_mk 108 rfl
set_option maxRecDepth 100000 in
theorem jxh6_6_4 : jxhas (jxw6 4 6) := jxhas_mk 109 rfl
set_option maxRecDepth 100000 in
theorem jxh6_6_5 : jxhas (jxw6 5 6) := jxhas_mk 110 rfl
theorem jxh6_6 : jxhasN 6 := (lt_s (lt_s (lt_s (lt_s (lt_s (lt_s (lt_0) (jxh6_6_0)) (jxh6_6_1)) (jxh6_6_2)) (jxh6_6_3)) (jxh6_6_4)) (jxh6_6_5) : ∀ j, j < 6 → jxhas (jxw6 j 6))
set_option maxRecDepth 100000 in
theorem jxh6_7_0 : jxhas (jxw6 0 7) := jxhas_mk 118 rfl
set_option maxRecDepth 100000 in
theorem jxh6_7_1 : jxhas (jxw6 1 7) := jxhas_mk 119 rfl
set_option maxRecDepth 100000 in
theorem jxh6_7_2 : jxhas (jxw6 2 7) := jxhas_mk 120 rfl
set_option maxRecDepth 100000 in
theorem jxh6_7_3 : jxhas (jxw6 3 7) := jxhas_mk 121 rfl
set_option maxRecDepth 100000 in
theorem jxh6_7_4 : jxhas (jxw6 4 7) := jxhas_mk 122 rfl
set_option maxRecDepth 100000 in
theorem jxh6_7_5 : jxhas (jxw6 5 7) := jxhas_mk 123 rfl
set_option maxRecDepth 100000 in
theorem jxh6_7_6 : jxhas (jxw6 6 7) := jxhas_mk 124 rfl
theorem jxh6_7 : jxhasN 7 := (lt_s (lt_s (lt_s (lt_s (lt_s (lt_s (lt_s (lt_0) (jxh6_7_0)) (jxh6_7_1)) (jxh6_7_2)) (jxh6_7_3)) (jxh6_7_4)) (jxh6_7_5)) (jxh6_7_6) : ∀ j, j < 7 → jxhas (jxw6 j 7))
set_option maxRecDepth 100000 in
theorem jxh6_8_0 : jxhas (jxw6 0 8) := jxhas_mk 132 rfl
set_option maxRecDepth 100000 in
theorem jxh6_8_1 : jxhas (jxw6 1 8) := jxhas_mk 133 rfl
set_option maxRecDepth 100000 in
theorem jxh6_8_2 : jxhas (jxw6 2 8) := jxhas_mk 134 rfl
set_option maxRecDepth 100000 in
theorem jxh6_8_3 : jxhas (jxw6 3 8) := jxhas_mk 135 rfl
set_option maxRecDepth 100000 in
theorem jxh6_8_4 : jxhas (jxw6 4 8) := jxhas_mk 136 rfl
set_option maxRecDepth 100000 in
theorem jxh6_8_5 : jxhas (jxw6 5 8) := jxhas_mk 137 rfl
set_option maxRecDepth 100000 in
theorem jxh6_8_6 : jxhas (jxw6 6 8) := jxhas_mk 138 rfl
set_option maxRecDepth 100000 in
theorem jxh6_8_7 : jxhas (jxw6 7 8) := jxhas_mk 139 rfl
theorem jxh6_8 : jxhasN 8 := (lt_s (lt_s (lt_s (lt_s (lt_s (lt_s (lt_s (lt_s (lt_0) (jxh6_8_0)) (jxh6_8_1)) (jxh6_8_2)) (jxh6_8_3)) (jxh6_8_4)) (jxh6_8_5)) (jxh6_8_6)) (jxh6_8_7) : ∀ j, j < 8 → jxhas (jxw6 j 8))
set_option maxRecDepth 100000 in
theorem jxh6_9_0 : jxhas (jxw6 0 9) := jxhas_mk 146 rfl
set_option maxRecDepth 100000 in
theorem jxh6_9_1 : jxhas (jxw6 1 9) := jxhas_mk 147 rfl
set_option maxRecDepth 100000 in
theorem jxh6_9_2 : jxhas (jxw6 2 9) := jxhas_mk 148 rfl
set_option maxRecDepth 100000 in
theorem jxh6_9_3 : jxhas (jxw6 3 9) := jxhas_mk 149 rfl
set_option maxRecDepth 100000 in
theorem jxh6_9_4 : jxhas (jxw6 4 9) := jxhas_mk 150 rfl
set_option maxRecDepth 100000 in
theorem jxh6_9_5 : jxhas (jxw6 5 9) := jxhas_mk 151 rfl
set_option maxRecDepth 100000 in
theorem jxh6_9_6 : jxhas (jxw6 6 9) := jxhas_mk 152 rfl
set_option maxRecDepth 100000 in
theorem jxh6_9_7 : jxhas (jxw6 7 9) := jxhas_mk 153 rfl
set_option maxRecDepth 100000 in
theorem jxh6_9_8 : jxhas (jxw6 8 9) := jxhas_mk 154 rfl
theorem jxh6_9 : jxhasN 9 := (lt_s (lt_s (lt_s (lt_s (lt_s (lt_s (lt_s (lt_s (lt_s (lt_0) (jxh6_9_0)) (jxh6_9_1)) (jxh6_9_2)) (jxh6_9_3)) (jxh6_9_4)) (jxh6_9_5)) (jxh6_9_6)) (jxh6_9_7)) (jxh6_9_8) : ∀ j, j < 9 → jxhas (jxw6 j 9))
set_option maxRecDepth 100000 in
theorem jxh6_10_0 : jxhas (jxw6 0 10) := jxhas_mk 164 rfl
set_option maxRecDepth 100000 in
theorem jxh6_10_1 : jxhas (jxw6 1 10) := jxhas_mk 165 rfl
set_option maxRecDepth 100000 in
theorem jxh6_10_2 : jxhas (jxw6 2 10) := jxhas_mk 166 rfl
set_option maxRecDepth 100000 in
theorem jxh6_10_3 : jxhas (jxw6 3 10) := jxhas_mk 167 rfl
set_option maxRecDepth 100000 in
theorem jxh6_10_4 : jxhas (jxw6 4 10) := jxhas_mk 168 rfl
set_option maxRecDepth 100000 in
theorem jxh6_10_5 : jxhas (jxw6 5 10) := jxhas_mk 169 rfl
set_option maxRecDepth 100000 in
theorem jxh6_10_6 : jxhas (jxw6 6 10) := jxhas_mk 170 rfl
set_option maxRecDepth 100000 in
theorem jxh6_10_7 : jxhas (jxw6 7 10) := jxhas_mk 171 rfl
set_option maxRecDepth 100000 in
theorem jxh6_10_8 : jxhas (jxw6 8 10) := jxhas_mk 172 rfl
set_option maxRecDepth 100000 in
theorem jxh6_10_9 : jxhas (jxw6 9 10) := jxhas_mk 173 rfl
theorem jxh6_10 : jxhasN 10 := (lt_s (lt_s (lt_s (lt_s (lt_s (lt_s (lt_s (lt_s (lt_s (lt_s (lt_0) (jxh6_10_0)) (jxh6_10_1)) (jxh6_10_2)) (jxh6_10_3)) (jxh6_10_4)) (jxh6_10_5)) (jxh6_10_6)) (jxh6_10_7)) (jxh6_10_8)) (jxh6_10_9) : ∀ j, j < 10 → jxhas (jxw6 j 10))
set_option maxRecDepth 100000 in
theorem jxh6_11_0 : jxhas (jxw6 0 11) := jxhas_mk 182 rfl
set_option maxRecDepth 100000 in
theorem jxh6_11_1 : jxhas (jxw6 1 11) := jxhas_mk 183 rfl
set_option maxRecDepth 100000 in
theorem jxh6_11_2 : jxhas (jxw6 2 11) := jxhas_mk 184 rfl
set_option maxRecDepth 100000 in
theorem jxh6_11_3 : jxhas (jxw6 3 11) := jxhas_mk 185 rfl
set_option maxRecDepth 100000 in
theorem jxh6_11_4 : jxhas (jxw6 4 11) := jxhas_mk 186 rfl
set_option maxRecDepth 100000 in
theorem jxh6_11_5 : jxhas (jxw6 5 11) := jxhas_mk 187 rfl
set_option maxRecDepth 100000 in
theorem jxh6_11_6 : jxhas (jxw6 6 11) := jxhas_mk 188 rfl
set_option maxRecDepth 100000 in
theorem jxh6_11_7 : jxhas (jxw6 7 11) := jxhas_mk 189 rfl
set_option maxRecDepth 100000 in
theorem jxh6_11_8 : jxhas (jxw6 8 11) := jxhas_mk 190 rfl
set_option maxRecDepth 100000 in
theorem jxh6_11_9 : jxhas (jxw6 9 11) := jxhas_mk 191 rfl
set_option maxRecDepth 100000 in
theorem jxh6_11_10 : jxhas (jxw6 10 11) := jxhas_mk 192 rfl
theorem jxh6_11 : jxhasN 11 := (lt_s (lt_s (lt_s (lt_s (lt_s (lt_s (lt_s (lt_s (lt_s (lt_s (lt_s (lt_0) (jxh6_11_0)) (jxh6_11_1)) (jxh6_11_2)) (jxh6_11_3)) (jxh6_11_4)) (jxh6_11_5)) (jxh6_11_6)) (jxh6_11_7)) (jxh6_11_8)) (jxh6_11_9)) (jxh6_11_10) : ∀ j, j < 11 → jxhas (jxw6 j 11))
set_option maxRecDepth 100000 in
theorem jxh6_12_0 : jxhas (jxw6 0 12) := jxhas_mk 202 rfl
set_option maxRecDepth 100000 in
theorem jxh6_12_1 : jxhas (jxw6 1 12) := jxhas_mk 203 rfl
set_option maxRecDepth 100000 in
theorem jxh6_12_2 : jxhas (jxw6 2 12) := jxhas_mk 204 rfl
set_option maxRecDepth 100000 in
theorem jxh6_12_3 : jxhas (jxw6 3 12) := jxhas_mk 205 rfl
set_option maxRecDepth 100000 in
theorem jxh6_12_4 : jxhas (jxw6 4 12) := jxhas_mk 206 rfl
set_option maxRecDepth 100000 in
theorem jxh6_12_5 : jxhas (jxw6 5 12) := jxhas_mk 207 rfl
set_option maxRecDepth 100000 in
theorem jxh6_12_6 : jxhas (jxw6 6 12) := jxhas_mk 208 rfl
set_option maxRecDepth 100000 in
theorem jxh6_12_7 : jxhas (jxw6 7 12) := jxhas_mk 209 rfl
set_option maxRecDepth 100000 in
theorem jxh6_12_8 : jxhas (jxw6 8 12) := jxhas_mk 210 rfl
set_option maxRecDepth 100000 in
theorem jxh6_12_9 : jxhas (jxw6 9 12) := jxhas_mk 211 rfl
set_option maxRecDepth 100000 in
theorem jxh6_12_10 : jxhas (jxw6 10 12) := jxhas_mk 212 rfl
set_option maxRecDepth 100000 in
theorem jxh6_12_11 : jxhas (jxw6 11 12) := jxhas_mk 213 rfl
theorem jxh6_12 : jxhasN 12 := (lt_s (lt_s (lt_s (lt_s (lt_s (lt_s (lt_s (lt_s (lt_s (lt_s (lt_s (lt_s (lt_0) (jxh6_12_0)) (jxh6_12_1)) (jxh6_12_2)) (jxh6_12_3)) (jxh6_12_4)) (jxh6_12_5)) (jxh6_12_6)) (jxh6_12_7)) (jxh6_12_8)) (jxh6_12_9)) (jxh6_12_10)) (jxh6_12_11) : ∀ j, j < 12 → jxhas (jxw6 j 12))
set_option maxRecDepth 100000 in
theorem jxh6_13_0 : jxhas (jxw6 0 13) := jxhas_mk 222 rfl
set_option maxRecDepth 100000 in
theorem jxh6_13_1 : jxhas (jxw6 1 13) := jxhas_mk 223 rfl
set_option maxRecDepth 100000 in
theorem jxh6_13_2 : jxhas (jxw6 2 13) := jxhas_mk 224 rfl
set_option maxRecDepth 100000 in
theorem jxh6_13_3 : jxhas (jxw6 3 13) := jxhas_mk 225 rfl
set_option maxRecDepth 100000 in
theorem jxh6_13_4 : jxhas (jxw6 4 13) := jxhas_mk 226 rfl
set_option maxRecDepth 100000 in
theorem jxh6_13_5 : jxhas (jxw6 5 13) := jxhas_mk 227 rfl
set_option maxRecDepth 100000 in
theorem jxh6_13_6 : jxhas (jxw6 6 13) := jxhas_mk 228 rfl
set_option maxRecDepth 100000 in
theorem jxh6_13_7 : jxhas (jxw6 7 13) := jxhas_mk 229 rfl
set_option maxRecDepth 100000 in
theorem jxh6_13_8 : jxhas (jxw6 8 13) := jxhas_mk 230 rfl
set_option maxRecDepth 100000 in
theorem jxh6_13_9 : jxhas (jxw6 9 13) := jxhas_mk 231 rfl
set_option maxRecDepth 100000 in
theorem jxh6_13_10 : jxhas (jxw6 10 13) := jxhas_mk 232 rfl
set_option maxRecDepth 100000 in
theorem jxh6_13_11 : jxhas (jxw6 11 13) := jxhas_mk 233 rfl
set_option maxRecDepth 100000 in
theorem jxh6_13_12 : jxhas (jxw6 12 13) := jxhas_mk 234 rfl
theorem jxh6_13 : jxhasN 13 := (lt_s (lt_s (lt_s (lt_s (lt_s (lt_s (lt_s (lt_s (lt_s (lt_s (lt_s (lt_s (lt_s (lt_0) (jxh6_13_0)) (jxh6_13_1)) (jxh6_13_2)) (jxh6_13_3)) (jxh6_13_4)) (jxh6_13_5)) (jxh6_13_6)) (jxh6_13_7)) (jxh6_13_8)) (jxh6_13_9)) (jxh6_13_10)) (jxh6_13_11)) (jxh6_13_12) : ∀ j, j < 13 → jxhas (jxw6 j 13))
set_option maxRecDepth 100000 in
theorem jxh6_14_0 : jxhas (jxw6 0 14) := jxhas_mk 245 rfl
set_option maxRecDepth 100000 in
theorem jxh6_14_1 : jxhas (jxw6 1 14) := jxhas_mk 246 rfl
set_option maxRecDepth 100000 in
theorem jxh6_14_2 : jxhas (jxw6 2 14) := jxhas_mk 247 rfl
set_option maxRecDepth 100000 in
theorem jxh6_14_3 : jxhas (jxw6 3 14) := jxhas_mk 248 rfl
set_option maxRecDepth 100000 in
theorem jxh6_14_4 : jxhas (jxw6 4 14) := jxhas_mk 249 rfl
set_option maxRecDepth 100000 in
theorem jxh6_14_5 : jxhas (jxw6 5 14) := jxhas_mk 250 rfl
set_option maxRecDepth 100000 in
theorem jxh6_14_6 : jxhas (jxw6 6 14) := jxhas_mk 251 rfl
set_option maxRecDepth 100000 in
theorem jxh6_14_7 : jxhas (jxw6 7 14) := jxhas_mk 252 rfl
set_option maxRecDepth 100000 in
theorem jxh6_14_8 : jxhas (jxw6 8 14) := jxhas_mk 253 rfl
set_option maxRecDepth 100000 in
theorem jxh6_14_9 : jxhas (jxw6 9 14) := jxhas_mk 254 rfl
set_option maxRecDepth 100000 in
theorem jxh6_14_10 : jxhas (jxw6 10 14) := jxhas_mk 255 rfl
set_option maxRecDepth 100000 in
theorem jxh6_14_11 : jxhas (jxw6 11 14) := jxhas_mk 256 rfl
set_option maxRecDepth 100000 in
theorem jxh6_14_12 : jxhas (jxw6 12 14) := jxhas_mk 257 rfl
set_option maxRecDepth 100000 in
theorem jxh6_14_13 : jxhas (jxw6 13 14) := jxhas_mk 258 rfl
theorem jxh6_14 : jxhasN 14 := (lt_s (lt_s (lt_s (lt_s (lt_s (lt_s (lt_s (lt_s (lt_s (lt_s (lt_s (lt_s (lt_s (lt_s (lt_0) (jxh6_14_0)) (jxh6_14_1)) (jxh6_14_2)) (jxh6_14_3)) (jxh6_14_4)) (jxh6_14_5)) (jxh6_14_6)) (jxh6_14_7)) (jxh6_14_8)) (jxh6_14_9)) (jxh6_14_10)) (jxh6_14_11)) (jxh6_14_12)) (jxh6_14_13) : ∀ j, j < 14 → jxhas (jxw6 j 14))
set_option maxRecDepth 100000 in
theorem jxh6_15_0 : jxhas (jxw6 0 15) := jxhas_mk 267 rfl
set_option maxRecDepth 100000 in
theorem jxh6_15_1 : jxhas (jxw6 1 15) := jxhas_mk 268 rfl
set_option maxRecDepth 100000 in
theorem jxh6_15_2 : jxhas (jxw6 2 15) := jxhas_mk 269 rfl
set_option maxRecDepth 100000 in
theorem jxh6_15_3 : jxhas (jxw6 3 15) := jxhas_mk 270 rfl
set_option maxRecDepth 100000 in
theorem jxh6_15_4 : jxhas (jxw6 4 15) := jxhas_mk 271 rfl
set_option maxRecDepth 100000 in
theorem jxh6_15_5 : jxhas (jxw6 5 15) := jxhas_mk 272 rfl
set_option maxRecDepth 100000 in
theorem jxh6_15_6 : jxhas (jxw6 6 15) := jxhas_mk 273 rfl
set_option maxRecDepth 100000 in
theorem jxh6_15_7 : jxhas (jxw6 7 15) := jxhas_mk 274 rfl
set_option maxRecDepth 100000 in
theorem jxh6_15_8 : jxhas (jxw6 8 15) := jxhas_mk 275 rfl
set_option maxRecDepth 100000 in
theorem jxh6_15_9 : jxhas (jxw6 9 15) := jxhas_mk 276 rfl
set_option maxRecDepth 100000 in
theorem jxh6_15_10 : jxhas (jxw6 10 15) := jxhas_mk 277 rfl
set_option maxRecDepth 100000 in
theorem jxh6_15_11 : jxhas (jxw6 11 15) := jxhas_mk 278 rfl
set_option maxRecDepth 100000 in
theorem jxh6_15_12 : jxhas (jxw6 12 15) := jxhas_mk 279 rfl
set_option maxRecDepth 100000 in
theorem jxh6_15_13 : jxhas (jxw6 13 15) := jxhas_mk 280 rfl
set_option maxRecDepth 100000 in
theorem jxh6_15_14 : jxhas (jxw6 14 15) := jxhas_mk 281 rfl
theorem jxh6_15 : jxhasN 15 := (lt_s (lt_s (lt_s (lt_s (lt_s (lt_s (lt_s (lt_s (lt_s (lt_s (lt_s (lt_s (lt_s (lt_s (lt_s (lt_0) (jxh6_15_0)) (jxh6_15_1)) (jxh6_15_2)) (jxh6_15_3)) (jxh6_15_4)) (jxh6_15_5)) (jxh6_15_6)) (jxh6_15_7)) (jxh6_15_8)) (jxh6_15_9)) (jxh6_15_10)) (jxh6_15_11)) (jxh6_15_12)) (jxh6_15_13)) (jxh6_15_14) : ∀ j, j < 15 → jxhas (jxw6 j 15))
theorem jxh6 : ∀ i, i < 16 → jxhasN i := lt_s (lt_s (lt_s (lt_s (lt_s (lt_s (lt_s (lt_s (lt_s (lt_s (lt_s (lt_s (lt_s (lt_s (lt_s (lt_s (lt_0) (jxh6_0)) (jxh6_1)) (jxh6_2)) (jxh6_3)) (jxh6_4)) (jxh6_5)) (jxh6_6)) (jxh6_7)) (jxh6_8)) (jxh6_9)) (jxh6_10)) (jxh6_11)) (jxh6_12)) (jxh6_13)) (jxh6_14)) (jxh6_15)
set_option maxRecDepth 100000 in
theorem jxh7_0 : jxhas (jxw7 0) := jxhas_mk 18 rfl
set_option maxRecDepth 100000 in
theorem jxh8_0 : jxhas (jxw8 0) := jxhas_mk 19 rfl
set_option maxRecDepth 100000 in
theorem jxh9_0_0 : jxhas (jxw9 0 0) := jxhas_mk 20 (by decide +kernel)
set_option maxRecDepth 100000 in
theorem jxh9_0_1 : jxhas (jxw9 0 1) := jxhas_mk 21 (by decide +kernel)
set_option maxRecDepth 100000 in
theorem jxh9_0_2 : jxhas (jxw9 0 2) := jxhas_mk 22 (by decide +kernel)
set_option maxRecDepth 100000 in
theorem jxh9_0_3 : jxhas (jxw9 0 3) := jxhas_mk 23 (by decide +kernel)
set_option maxRecDepth 100000 in
theorem jxh9_0_4 : jxhas (jxw9 0 4) := jxhas_mk 24 (by decide +kernel)
theorem jxh9_0 : jxhasS 0 5 := (lt_s (lt_s (lt_s (lt_s (lt_s (lt_0) (jxh9_0_0)) (jxh9_0_1)) (jxh9_0_2)) (jxh9_0_3)) (jxh9_0_4) : ∀ j, j < 5 → jxhas (jxw9 0 j))
set_option maxRecDepth 100000 in
theorem jxh7_1 : jxhas (jxw7 1) := jxhas_mk 26 rfl
set_option maxRecDepth 100000 in
theorem jxh8_1 : jxhas (jxw8 1) := jxhas_mk 27 rfl
set_option maxRecDepth 100000 in
theorem jxh9_1_0 : jxhas (jxw9 1 0) := jxhas_mk 28 (by decide +kernel)
set_option maxRecDepth 100000 in
theorem jxh9_1_1 : jxhas (jxw9 1 1) := jxhas_mk 29 (by decide +kernel)
set_option maxRecDepth 100000 in
theorem jxh9_1_2 : jxhas (jxw9 1 2) := jxhas_mk 30 (by decide +kernel)
set_option maxRecDepth 100000 in
theorem jxh9_1_3 : jxhas (jxw9 1 3) := jxhas_mk 31 (by decide +kernel)
set_option maxRecDepth 100000 in
theorem jxh9_1_4 : jxhas (jxw9 1 4) := jxhas_mk 32 (by decide +kernel)
theorem jxh9_1 : jxhasS 1 5 := (lt_s (lt_s (lt_s (lt_s (lt_s (lt_0) (jxh9_1_0)) (jxh9_1_1)) (jxh9_1_2)) (jxh9_1_3)) (jxh9_1_4) : ∀ j, j < 5 → jxhas (jxw9 1 j))
set_option maxRecDepth 100000 in
theorem jxh7_2 : jxhas (jxw7 2) := jxhas_mk 5 rfl
set_option maxRecDepth 100000 in
theorem jxh8_2 : jxhas (jxw8 2) := jxhas_mk 6 rfl
set_option maxRecDepth 100000 in
theorem jxh9_2_0 : jxhas (jxw9 2 0) := jxhas_mk 7 (by decide +kernel)
set_option maxRecDepth 100000 in
theorem jxh9_2_1 : jxhas (jxw9 2 1) := jxhas_mk 8 (by decide +kernel)
set_option maxRecDepth 100000 in
theorem jxh9_2_2 : jxhas (jxw9 2 2) := jxhas_mk 9 (by decide +kernel)
set_option maxRecDepth 100000 in
theorem jxh9_2_3 : jxhas (jxw9 2 3) := jxhas_mk 10 (by decide +kernel)
set_option maxRecDepth 100000 in
theorem jxh9_2_4 : jxhas (jxw9 2 4) := jxhas_mk 11 (by decide +kernel)
theorem jxh9_2 : jxhasS 2 5 := (lt_s (lt_s (lt_s (lt_s (lt_s (lt_0) (jxh9_2_0)) (jxh9_2_1)) (jxh9_2_2)) (jxh9_2_3)) (jxh9_2_4) : ∀ j, j < 5 → jxhas (jxw9 2 j))
theorem jxh7 : ∀ i, i < 3 → jxhas (jxw7 i) := lt_s (lt_s (lt_s (lt_0) (jxh7_0)) (jxh7_1)) (jxh7_2)
theorem jxh8 : ∀ i, i < 3 → jxhas (jxw8 i) := lt_s (lt_s (lt_s (lt_0) (jxh8_0)) (jxh8_1)) (jxh8_2)
theorem jxh9 : ∀ i, i < 3 → jxhasS i 5 := lt_s (lt_s (lt_s (lt_0) (jxh9_0)) (jxh9_1)) (jxh9_2)
set_option maxRecDepth 100000 in
theorem jxhc : jxhas (.eq (.static "java/lang/String" "COMPACT_STRINGS" "Z") (.int 1)) := jxhas_mk 12 rfl
set_option maxRecDepth 100000 in
theorem jxhs : jxhas (.isRef (.static "jdk/internal/util/Preconditions" "SIOOBE_FORMATTER" "Ljava/util/function/BiFunction;")) := jxhas_mk 13 rfl
set_option maxRecDepth 100000 in
theorem jxt1_0 : jxhast (.stringRef (jxstrs.getD 0 ("", 0, "")).1 (jxstrs.getD 0 ("", 0, "")).2.1 (jxstrs.getD 0 ("", 0, "")).2.2) := jxhast_mk (jxpc3 (j := 102) rfl)
set_option maxRecDepth 100000 in
theorem jxt1_1 : jxhast (.stringRef (jxstrs.getD 1 ("", 0, "")).1 (jxstrs.getD 1 ("", 0, "")).2.1 (jxstrs.getD 1 ("", 0, "")).2.2) := jxhast_mk (jxpc3 (j := 184) rfl)
set_option maxRecDepth 100000 in
theorem jxt1_2 : jxhast (.stringRef (jxstrs.getD 2 ("", 0, "")).1 (jxstrs.getD 2 ("", 0, "")).2.1 (jxstrs.getD 2 ("", 0, "")).2.2) := jxhast_mk (jxpc3 (j := 185) rfl)
set_option maxRecDepth 100000 in
theorem jxt1_3 : jxhast (.stringRef (jxstrs.getD 3 ("", 0, "")).1 (jxstrs.getD 3 ("", 0, "")).2.1 (jxstrs.getD 3 ("", 0, "")).2.2) := jxhast_mk (jxpc3 (j := 186) rfl)
set_option maxRecDepth 100000 in
theorem jxt1_4 : jxhast (.stringRef (jxstrs.getD 4 ("", 0, "")).1 (jxstrs.getD 4 ("", 0, "")).2.1 (jxstrs.getD 4 ("", 0, "")).2.2) := jxhast_mk (jxpc3 (j := 187) rfl)
set_option maxRecDepth 100000 in
theorem jxt1_5 : jxhast (.stringRef (jxstrs.getD 5 ("", 0, "")).1 (jxstrs.getD 5 ("", 0, "")).2.1 (jxstrs.getD 5 ("", 0, "")).2.2) := jxhast_mk (jxpc3 (j := 188) rfl)
set_option maxRecDepth 100000 in
theorem jxt1_6 : jxhast (.stringRef (jxstrs.getD 6 ("", 0, "")).1 (jxstrs.getD 6 ("", 0, "")).2.1 (jxstrs.getD 6 ("", 0, "")).2.2) := jxhast_mk (jxpc3 (j := 189) rfl)
set_option maxRecDepth 100000 in
theorem jxt1_7 : jxhast (.stringRef (jxstrs.getD 7 ("", 0, "")).1 (jxstrs.getD 7 ("", 0, "")).2.1 (jxstrs.getD 7 ("", 0, "")).2.2) := jxhast_mk (jxpc3 (j := 190) rfl)
set_option maxRecDepth 100000 in
theorem jxt1_8 : jxhast (.stringRef (jxstrs.getD 8 ("", 0, "")).1 (jxstrs.getD 8 ("", 0, "")).2.1 (jxstrs.getD 8 ("", 0, "")).2.2) := jxhast_mk (jxpc3 (j := 199) rfl)
set_option maxRecDepth 100000 in
theorem jxt1_9 : jxhast (.stringRef (jxstrs.getD 9 ("", 0, "")).1 (jxstrs.getD 9 ("", 0, "")).2.1 (jxstrs.getD 9 ("", 0, "")).2.2) := jxhast_mk (jxpc3 (j := 200) rfl)
set_option maxRecDepth 100000 in
theorem jxt1_10 : jxhast (.stringRef (jxstrs.getD 10 ("", 0, "")).1 (jxstrs.getD 10 ("", 0, "")).2.1 (jxstrs.getD 10 ("", 0, "")).2.2) := jxhast_mk (jxpc4 (j := 24) rfl)
set_option maxRecDepth 100000 in
theorem jxt1_11 : jxhast (.stringRef (jxstrs.getD 11 ("", 0, "")).1 (jxstrs.getD 11 ("", 0, "")).2.1 (jxstrs.getD 11 ("", 0, "")).2.2) := jxhast_mk (jxpc4 (j := 26) rfl)
set_option maxRecDepth 100000 in
theorem jxt1_12 : jxhast (.stringRef (jxstrs.getD 12 ("", 0, "")).1 (jxstrs.getD 12 ("", 0, "")).2.1 (jxstrs.getD 12 ("", 0, "")).2.2) := jxhast_mk (jxpc4 (j := 27) rfl)
set_option maxRecDepth 100000 in
theorem jxt1_13 : jxhast (.stringRef (jxstrs.getD 13 ("", 0, "")).1 (jxstrs.getD 13 ("", 0, "")).2.1 (jxstrs.getD 13 ("", 0, "")).2.2) := jxhast_mk (jxpc4 (j := 28) rfl)
set_option maxRecDepth 100000 in
theorem jxt1_14 : jxhast (.stringRef (jxstrs.getD 14 ("", 0, "")).1 (jxstrs.getD 14 ("", 0, "")).2.1 (jxstrs.getD 14 ("", 0, "")).2.2) := jxhast_mk (jxpc4 (j := 29) rfl)
set_option maxRecDepth 100000 in
theorem jxt1_15 : jxhast (.stringRef (jxstrs.getD 15 ("", 0, "")).1 (jxstrs.getD 15 ("", 0, "")).2.1 (jxstrs.getD 15 ("", 0, "")).2.2) := jxhast_mk (jxpc5 (j := 234) rfl)
theorem jxt1 : ∀ i, i < 16 → jxhast (.stringRef (jxstrs.getD i ("", 0, "")).1 (jxstrs.getD i ("", 0, "")).2.1 (jxstrs.getD i ("", 0, "")).2.2) := lt_s (lt_s (lt_s (lt_s (lt_s (lt_s (lt_s (lt_s (lt_s (lt_s (lt_s (lt_s (lt_s (lt_s (lt_s (lt_s (lt_0) (jxt1_0)) (jxt1_1)) (jxt1_2)) (jxt1_3)) (jxt1_4)) (jxt1_5)) (jxt1_6)) (jxt1_7)) (jxt1_8)) (jxt1_9)) (jxt1_10)) (jxt1_11)) (jxt1_12)) (jxt1_13)) (jxt1_14)) (jxt1_15)
set_option maxRecDepth 100000 in
theorem jxt2_0 : jxhast (.laysStatic "CardClub$RuleBook" (jxsn 0) "[I") := jxhast_mk (jxpc4 (j := 33) rfl)
set_option maxRecDepth 100000 in
theorem jxt2_1 : jxhast (.laysStatic "CardClub$RuleBook" (jxsn 1) "[I") := jxhast_mk (jxpc4 (j := 35) rfl)
set_option maxRecDepth 100000 in
theorem jxt2_2 : jxhast (.laysStatic "CardClub$RuleBook" (jxsn 2) "[I") := jxhast_mk (jxpc1 (j := 117) rfl)
theorem jxt2 : ∀ i, i < 3 → jxhast (.laysStatic "CardClub$RuleBook" (jxsn i) "[I") := lt_s (lt_s (lt_s (lt_0) (jxt2_0)) (jxt2_1)) (jxt2_2)
set_option maxRecDepth 100000 in
theorem jxt3 : jxhast (.laysStatic "java/lang/String" "COMPACT_STRINGS" "Z") := jxhast_mk (jxpc3 (j := 116) rfl)
set_option maxRecDepth 100000 in
theorem jxt4 : jxhast (.laysStatic "jdk/internal/util/Preconditions" "SIOOBE_FORMATTER" "Ljava/util/function/BiFunction;") := jxhast_mk (jxpc3 (j := 136) rfl)
set_option maxRecDepth 100000 in
theorem jxt5 : jxhast (.initialized "CardClub$RuleBook") := jxhast_mk (jxpc1 (j := 5) rfl)
set_option maxRecDepth 100000 in
theorem jxt6 : jxhast (.initialized "java/lang/String") := jxhast_mk (jxpc1 (j := 14) rfl)
set_option maxRecDepth 100000 in
theorem jxt7 : jxhast (.initialized "jdk/internal/util/Preconditions") := jxhast_mk (jxpc1 (j := 16) rfl)
set_option maxRecDepth 100000 in
theorem jxt8 : jxhast (.arrayClass .int) := jxhast_mk (jxpc1 (j := 47) rfl)
set_option maxRecDepth 100000 in
theorem jxt9 : jxhast (.arrayClass .long) := jxhast_mk (jxpc1 (j := 230) rfl)
set_option maxRecDepth 100000 in
theorem jxt10 : jxhast (.arrayClass .boolean) := jxhast_mk (jxpc1 (j := 76) rfl)
set_option maxRecDepth 100000 in
theorem jxt11 : jxhast (.arrayClass .byte) := jxhast_mk (jxpc3 (j := 211) rfl)
set_option maxRecDepth 100000 in
theorem jxt12 : jxhast (.arrayOver (.array .int)) := jxhast_mk (jxpc1 (j := 84) rfl)
set_option maxRecDepth 100000 in
theorem jxt13_0 : ∀ q, vwCl[0]? = some q → jxhast (.instantiable q.1 q.2.2) := fun q h => by
  cases h
  exact jxhast_mk (jxpc1 (j := 129) rfl)
set_option maxRecDepth 100000 in
theorem jxt13_1 : ∀ q, vwCl[1]? = some q → jxhast (.instantiable q.1 q.2.2) := fun q h => by
  cases h
  exact jxhast_mk (jxpc2 (j := 96) rfl)
set_option maxRecDepth 100000 in
theorem jxt13_2 : ∀ q, vwCl[2]? = some q → jxhast (.instantiable q.1 q.2.2) := fun q h => by
  cases h
  exact jxhast_mk (jxpc1 (j := 209) rfl)
set_option maxRecDepth 100000 in
theorem jxt13_3 : ∀ q, vwCl[3]? = some q → jxhast (.instantiable q.1 q.2.2) := fun q h => by
  cases h
  exact jxhast_mk (jxpc1 (j := 49) rfl)
set_option maxRecDepth 100000 in
theorem jxt13_4 : ∀ q, vwCl[4]? = some q → jxhast (.instantiable q.1 q.2.2) := fun q h => by
  cases h
  exact jxhast_mk (jxpc1 (j := 232) rfl)
set_option maxRecDepth 100000 in
theorem jxt13_5 : ∀ q, vwCl[5]? = some q → jxhast (.instantiable q.1 q.2.2) := fun q h => by
  cases h
  exact jxhast_mk (jxpc2 (j := 23) rfl)
set_option maxRecDepth 100000 in
theorem jxt13_6 : ∀ q, vwCl[6]? = some q → jxhast (.instantiable q.1 q.2.2) := fun q h => by
  cases h
  exact jxhast_mk (jxpc1 (j := 111) rfl)
set_option maxRecDepth 100000 in
theorem jxt13_7 : ∀ q, vwCl[7]? = some q → jxhast (.instantiable q.1 q.2.2) := fun q h => by
  cases h
  exact jxhast_mk (jxpc1 (j := 184) rfl)
set_option maxRecDepth 100000 in
theorem jxt13_8 : ∀ q, vwCl[8]? = some q → jxhast (.instantiable q.1 q.2.2) := fun q h => by
  cases h
  exact jxhast_mk (jxpc1 (j := 29) rfl)
set_option maxRecDepth 100000 in
theorem jxt13_9 : ∀ q, vwCl[9]? = some q → jxhast (.instantiable q.1 q.2.2) := fun q h => by
  cases h
  exact jxhast_mk (jxpc2 (j := 70) rfl)
set_option maxRecDepth 100000 in
theorem jxt13_10 : ∀ q, vwCl[10]? = some q → jxhast (.instantiable q.1 q.2.2) := fun q h => by
  cases h
  exact jxhast_mk (jxpc1 (j := 78) rfl)
set_option maxRecDepth 100000 in
theorem jxt13_11 : ∀ q, vwCl[11]? = some q → jxhast (.instantiable q.1 q.2.2) := fun q h => by
  cases h
  exact jxhast_mk (jxpc1 (j := 21) rfl)
set_option maxRecDepth 100000 in
theorem jxt13_12 : ∀ q, vwCl[12]? = some q → jxhast (.instantiable q.1 q.2.2) := fun q h => by
  cases h
  exact jxhast_mk (jxpc6 (j := 113) rfl)
theorem jxt13 : ∀ c, c < 13 → ∀ q, vwCl[c]? = some q → jxhast (.instantiable q.1 q.2.2) := lt_s (lt_s (lt_s (lt_s (lt_s (lt_s (lt_s (lt_s (lt_s (lt_s (lt_s (lt_s (lt_s (lt_0) (jxt13_0)) (jxt13_1)) (jxt13_2)) (jxt13_3)) (jxt13_4)) (jxt13_5)) (jxt13_6)) (jxt13_7)) (jxt13_8)) (jxt13_9)) (jxt13_10)) (jxt13_11)) (jxt13_12)
theorem jxt_at {A : Array Value} {s : State} (hts : ∀ w ∈ lw_tbl, w.before A s = true) {w : Jvm.Cond} (h : jxhast w) : w.before A s = true := by
  obtain ⟨k, h⟩ := h
  exact hts w (List.mem_of_getElem? h)
theorem jxg_at {A : Array Value} {s : State} (hgv : (Jvm.Cond.and given_1 narrow_1).before A s = true) {w : Jvm.Cond} (h : jxhas w) : w.before A s = true := by
  obtain ⟨k, h⟩ := h
  exact jxgv_at hgv h
theorem jx_arr {A : Array Value} {s : State} {t : FieldType} (ht : (Jvm.Cond.arrayClass t).before A s = true) (ho : ∀ C, t ≠ .object C) : ∃ cA : ClassId, ArrOfT s cA t ∧ va_RA s cA t := by
  obtain ⟨c, k, comp, h1, h2, h3⟩ := Cond.arrayClass_spec ht
  refine ⟨c, fun n z => ⟨fun q hq => (by cases hq), k, h2, comp, h3⟩, ?_⟩
  cases t with
  | object C => exact absurd rfl (ho C)
  | _ => exact h1
theorem jx_lit (z0 : Nat) (st adK adV : Nat → Nat) (b : Nat) : ∃ ad : Nat → Nat, (∀ i, i < 16 → ad (1000 + i) = adK i) ∧ (∀ i, i < 16 → ad (2000 + i) = adV i) ∧ ad 3000 = b ∧ (∀ i, i < 3 → ad (3001 + i) = st i) ∧ ad 4000 = z0 := by
  refine ⟨fun r => if r < 2000 then adK (r - 1000) else if r < 3000 then adV (r - 2000) else if r = 3000 then b else if r = 4000 then z0 else st (r - 3001), fun i hi => ?_, fun i hi => ?_, ?_, fun i hi => ?_, ?_⟩
  · show (if 1000 + i < 2000 then _ else _) = _
    rw [if_pos (by omega), show 1000 + i - 1000 = i by omega]
  · show (if 2000 + i < 2000 then _ else if 2000 + i < 3000 then _ else _) = _
    rw [if_neg (by omega), if_pos (by omega), show 2000 + i - 2000 = i by omega]
  · rfl
  · show (if 3001 + i < 2000 then _ else if 3001 + i < 3000 then _ else if 3001 + i = 3000 then _ else if 3001 + i = 4000 then _ else _) = _
    rw [if_neg (by omega), if_neg (by omega), if_neg (by omega), if_neg (by omega), show 3001 + i - 3001 = i by omega]
  · rfl
/-- at the start the small machine's world stands -/
theorem jx_start {p : Program} {s : State} {m : MethodId} {meth : Method} {c : Code} {b L : Nat} {xs : Nat → Int32} (hL : L ≤ 100000) (C0 : lw_At p s m meth c b L xs) : ∃ (ad : Nat → Nat) (ac : Nat → ClassId) (D : va_G), ad 3000 = b ∧ jxst s.heap.size ad ac D (L, fun j => (xs j).toInt) s := by
  obtain ⟨-, -, -, -, -, hts, hX, hbl, -, hgv⟩ := C0
  have hA : ∀ a : Nat, a < s.heap.size → ¬ (fun q => s.heap.size ≤ q) a := fun a ha h => absurd h (Nat.not_le.mpr ha)
  obtain ⟨adK, adV, hS, hE⟩ := vk_Sof (args := #[Value.ref b]) (s := s) (N := 16) (tm := jxtm) (len := jxlens) (byt := jxbyts) (A := fun q => s.heap.size ≤ q) (fun i hi => by
      have h : ∀ i, i < 16 → jxlens.getD i 0 < 2 ^ 31 := by decide
      exact h i hi) (fun i hi => jxg_at hgv (jxh1 i hi)) (fun i hi => jxg_at hgv (jxh2 i hi)) (fun i hi => jxg_at hgv (jxh3 i hi)) (fun i hi => jxg_at hgv (jxh4 i hi)) (fun i hi j hj => jxg_at hgv (jxh5 i hi j hj)) (fun i j hi hj hij => by
      rcases Nat.lt_or_gt_of_ne hij with h | h
      · exact Or.inl (jxg_at hgv (jxh6 j hj i h))
      · exact Or.inr (jxg_at hgv (jxh6 i hi j h))) hA
  have hst : ∀ i : Nat, ∃ t : Nat, i < 3 → (jxsm i).eval #[Value.ref b] s none [] s = some (.ref t) ∧ va_T .int t (jxstat.getD i []).length (fun j => .int (Int32.ofInt ((jxstat.getD i []).getD j 0))) (fun q => s.heap.size ≤ q) s s.heap := fun i => by
    by_cases hi : i < 3
    · have hlen : (jxstat.getD i []).length = 5 := by
        have h : ∀ i, i < 3 → (jxstat.getD i []).length = 5 := by decide
        exact h i hi
      obtain ⟨t, h1, h2⟩ := va_Tof (args := #[Value.ref b]) (s := s) (tm := jxsm i) (ty := .int) (N := (jxstat.getD i []).length) (f := fun j => .int (Int32.ofInt ((jxstat.getD i []).getD j 0))) (A := fun q => s.heap.size ≤ q) (by omega) (jxg_at hgv (jxh7 i hi)) (va_eqt (jxg_at hgv (jxh8 i hi))) (fun j hj => va_eqt (jxg_at hgv (jxh9 i hi j (by omega)))) hA
      exact ⟨t, fun _ => ⟨h1, h2⟩⟩
    · exact ⟨0, fun h => absurd h hi⟩
  obtain ⟨st, hst⟩ := Classical.axiomOfChoice hst
  have hsio : ∃ z0 : Nat, (Term.static "jdk/internal/util/Preconditions" "SIOOBE_FORMATTER" "Ljava/util/function/BiFunction;").eval #[Value.ref b] s none [] s = some (jxsio z0) := by
    have h := jxg_at hgv jxhs
    cases hv : (Term.static "jdk/internal/util/Preconditions" "SIOOBE_FORMATTER" "Ljava/util/function/BiFunction;").eval #[Value.ref b] s none [] s with
    | none => simp [Cond.before, Cond.holds, Cond.value, hv] at h
    | some w =>
      simp only [Cond.before, Cond.holds, Cond.value, hv] at h
      cases w with
      | null => exact ⟨0, rfl⟩
      | ref t => exact ⟨t + 1, rfl⟩
      | _ => simp at h
  obtain ⟨z0, hz0⟩ := hsio
  obtain ⟨ad, ha1, ha2, ha3, ha4, ha5⟩ := jx_lit z0 st adK adV b
  obtain ⟨c1, k1⟩ := jx_arr (jxt_at hts jxt8) (fun C h => by cases h)
  obtain ⟨c2, k2⟩ := jx_arr (jxt_at hts jxt9) (fun C h => by cases h)
  obtain ⟨c3, k3⟩ := jx_arr (jxt_at hts jxt10) (fun C h => by cases h)
  obtain ⟨c4, k4⟩ := jx_arr (jxt_at hts jxt11) (fun C h => by cases h)
  have hover : (Jvm.Cond.arrayOver (.array .int)).before #[] s = true := jxt_at hts jxt12
  obtain ⟨comp, c5, kc, -, -, g3, g4, g5⟩ := jx_ao hover
  have k5 : ArrOfT s c5 (.array .int) ∧ va_RA s c5 (.array .int) := ⟨fun n z => ⟨fun q hq => (by cases hq), kc, g3, comp, g4⟩, g5⟩
  have hD : ∀ c : Nat, ∃ d : ClassId × (Nat → Nat), ∀ q : vw_C, vwCl[c]? = some q → u_Kn s q.1 q.2.1 q.2.2 d.1 d.2 := fun c => by
    cases hc : vwCl[c]? with
    | none => exact ⟨(c1, fun _ => 0), fun q h => by cases h⟩
    | some q =>
      have hc13 : c < 13 := (List.getElem?_eq_some_iff.mp hc).1
      obtain ⟨cC, iS, h⟩ := u_known (ws := lw_tbl) (C := q.1) (T := q.2.1) (N := q.2.2) hts (fun w hw => (List.mem_filter.mp ((jxcls_ok q (List.mem_of_getElem? hc)).1 w hw)).1) (jxt_at hts (jxt13 c hc13 q hc))
      exact ⟨(cC, iS), fun q2 h2 => by cases h2; exact h⟩
  obtain ⟨d, hd⟩ := Classical.axiomOfChoice hD
  refine ⟨ad, fun k => [c1, c1, c2, c3, c4, c5].getD k c1, (fun c => (d c).1, fun c => (d c).2), ha3, Nat.le_refl _, ⟨fun c q hq => hd c q hq, fun k q hq => ?_⟩, ⟨xs, by rw [ha3]; exact hX, by rw [ha3]; exact hbl, by rw [ha3]; exact hbl, hL, fun j => rfl⟩, ?_, fun i q hq => ?_, fun i l0 hl0 => ?_, fun i n0 hn0 => ?_, ?_, ?_, fun w hw => ?_, hover⟩
  · match k, hq with
    | 0, hq => cases hq; exact k1
    | 1, hq => cases hq; exact k2
    | 2, hq => cases hq; exact k3
    | 3, hq => cases hq; exact k4
    | 4, hq => cases hq; exact k5
    | k + 5, hq => cases hq
  · refine ⟨fun i hi => ?_, fun i j hi hj h => ?_⟩
    · show va_O _ (ad (1000 + i)) _ _ _ ∧ va_OF _ _ _ _ (ad (1000 + i)) _ _ _ ∧ va_OF _ _ _ (.ref (ad (2000 + i))) (ad (1000 + i)) _ _ _ ∧ va_T _ (ad (2000 + i)) _ _ _ _ _
      rw [ha1 i hi, ha2 i hi]
      exact hS.1 i hi
    · refine hS.2 i j hi hj ?_
      have h1 : ad (1000 + i) = ad (1000 + j) := h
      rw [ha1 i hi, ha1 j hj] at h1
      exact h1
  · have hi : i < 16 := (List.getElem?_eq_some_iff.mp hq).1
    have e : jxstrs.getD i ("", 0, "") = q := by simp [List.getD, hq]
    have h1 := jxt_at hts (jxt1 i hi)
    have h2 := hE i hi
    unfold jxtm at h2
    rw [e] at h1 h2
    rw [ha1 i hi]
    exact vk_R.of h1 h2
  · have hi : i < 3 := (List.getElem?_eq_some_iff.mp hl0).1
    have e : jxstat.getD i [] = l0 := by simp [List.getD, hl0]
    have h1 := (hst i hi).2
    rw [e] at h1
    rw [ha4 i hi]
    exact h1
  · have hi : i < 3 := (List.getElem?_eq_some_iff.mp hn0).1
    have e : jxsn i = n0 := by simp [jxsn, List.getD, hn0]
    have h1 := (hst i hi).1
    have h2 := jxt_at hts (jxt2 i hi)
    unfold jxsm at h1
    rw [e] at h1 h2
    rw [ha4 i hi]
    exact va_Zof h2 (jxt_at hts jxt5) h1 hA
  · exact va_Zof (jxt_at hts jxt3) (jxt_at hts jxt6) (va_eqi (jxg_at hgv jxhc)) hA
  · rw [ha5]
    exact va_Zof (jxt_at hts jxt4) (jxt_at hts jxt7) hz0 hA
  · have h10 := hts w (List.mem_filter.mp hw).1
    have h11 := (List.mem_filter.mp hw).2
    cases w <;> first | (cases h11; done) | exact va_Nw.of rfl h10
set_option maxHeartbeats 2000000 in
/-- THE LAW: where the small machine comes to true, the law does -/
theorem jx_law {p : Program} {e : Env} {s : State} {m : MethodId} {below : List Frame} {meth : Method} {c : Code} (l : Launch) {b L : Nat} {xs : Nat → Int32} (hL : L ≤ 100000) (C0 : lw_At p s m meth c b L xs) {S1 : jxS} (hq : jxC (L, fun j => (xs j).toInt) 2000 305 [.inr (.inr (.inl 3000))] ([], fun _ _ => 0, fun _ _ => 0) = some ([.inl 1], S1)) (h1 : S1.1.length ≤ 600000) (h2 : jxsz S1.1 ≤ 7302250) : W p l e room_1 s m #[Value.ref b] below meth c s.heap [] 0 0 (lw_Z below #[Value.ref b] s) (entryFrame m ([Value.ref b] : List Value).toArray 4) := by
  obtain ⟨ad, ac, D, ha, hst⟩ := jx_start hL C0
  obtain ⟨hx, hb, hr, hml, hown, hts, hX, hbl, hlk, hgv⟩ := C0
  obtain ⟨f, hf⟩ := jxlim_ex hq
  have hga : jxg s.heap.size ad (.inr (.inr (.inl 3000))) = .ref b := by rw [jx_gf (by omega) (by omega), ha]
  have hK : ∀ (H : Heap) (locs : List Loc) (ls : Array Slot) (pc : Nat), jxdyn s.heap.size ad ac D s 0 0 S1 H locs → (∀ v ∈ ([.inl 1] : List jxV), jxokV v) → jxretP 305 code pc [.inl 1] → W p l e room_1 s m #[Value.ref b] below meth c H locs (S1.1.length - 0) (jxsz S1.1 - 0) (lw_Z below #[Value.ref b] s) (F0 m pc ls (([.inl 1] : List jxV).map (jxg s.heap.size ad))) := fun H locs ls pc hd _ hret => by
    refine va_forget hd.2.2.2.1.2.2 (W.widen (k := 600000) (n := 7302250) (by omega) (by omega) ?_)
    rcases hret with ⟨h3, -⟩ | ⟨a, h3, h4, -⟩ | ⟨a, h3, -⟩
    · cases h3
    · exact lw_ret (b := b) hx hb hr hlk h4
    · cases h3
  have hsim := jxsim_run (y := 305) (R := room_1) (n0 := 0) (m0 := 0) (d := 1999) (C := jxC (L, fun j => (xs j).toInt) 1999) (l := l) (by omega) hx hb hml rfl hown (fun w hw => hts w (List.mem_filter.mp hw).1) hst (fun h => by cases h) (by show S1.1.length - 0 ≤ 600000; omega) (by show jxsz S1.1 - 0 ≤ 7302250; omega) (fun z as S q a1 a2 a3 a4 a5 a6 a7 => jxmet l 1999 z as S q a1 a2 a3 a4 a5 a6 a7) (fun z as S q hq => jxC_le _ 1999 z as S q hq) (by show 1999 + 1 ≤ 2048; omega) (by show 41 * (1999 + 1) ≤ 84000; omega) hK f 0 _ [] _ hf
  have h0 := hsim s.heap [] _ ⟨fun k kd hk => (by cases hk), ⟨Nat.zero_le _, fun _ _ => (show (-2147483648 : Int) ≤ 0 ∧ (0 : Int) < 2147483648 from by omega), fun _ _ => (show (-9223372036854775808 : Int) ≤ 0 ∧ (0 : Int) < 9223372036854775808 from by omega), fun _ _ _ => ⟨rfl, rfl⟩, fun g n m w hg => (by cases hg), fun k m g i hg => (by cases hg), fun k t n w hg => (by cases hg)⟩, rfl, va_S.rf, Nat.le_refl _, Nat.le_refl _⟩ (jx_entry (z := 305) (as := [.inr (.inr (.inl 3000))]) (by decide) (fun v hv => by
    rcases List.mem_cons.mp hv with rfl | hv
    · trivial
    · cases hv)) (fun v hv => absurd hv List.not_mem_nil)
  rw [List.map_cons, List.map_nil, hga] at h0
  rw [lg_entry_eq]
  exact h0
