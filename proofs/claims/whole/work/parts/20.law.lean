/-- the law's script: outside the store -/
def lawX (κ : Kap) (b L : Nat) (xs : Nat → Int32) : Prop := va_X b L xs (kS κ) (kS κ).heap ∧ b < (kS κ).heap.size ∧ ¬ kA κ b
section XL
variable {κ : Kap} {own : String} {cc : ByteArray} {nL d pc : Nat} {loc : List (Nat × Value)} {st : List Value} {σ : St} {b L : Nat} {xs : Nat → Int32}
theorem x_sld {i : Int32} (C : Ok κ own cc nL d) (hX : lawX κ b L xs) (hi : vp_in i L) (hd : decode cc pc = .ok (.iaload, 1)) (k : GG κ (pc + 1) loc (.int (xs i.toNatClampNeg) :: st) σ) : GG κ pc loc (.int i :: .ref b :: st) σ := fun ls H locs hl hP hS =>
  va_sld C.hx C.hb hX.1 hX.2.1 hX.2.2 hS hi hd (k ls H locs hl hP hS)
theorem x_slen (C : Ok κ own cc nL d) (hX : lawX κ b L xs) (hd : decode cc pc = .ok (.arraylength, 1)) (k : GG κ (pc + 1) loc (.int (nI L) :: st) σ) : GG κ pc loc (.ref b :: st) σ := fun ls H locs hl hP hS =>
  va_slen C.hx C.hb hX.1 hX.2.1 hX.2.2 hS hd (k ls H locs hl hP hS)
theorem x_tin {dflt lo hi : Int} {offs : Array Int} {len : Nat} {x : Int32} {off : Int} {tgt : Nat} (C : Ok κ own cc nL d) (hd : decode cc pc = .ok (.tableswitch dflt lo hi offs, len)) (h1 : ¬ x.toInt < lo) (h2 : ¬ hi < x.toInt) (ho : offs[(x.toInt - lo).toNat]? = some off) (ht : (pc : Int) + off = (tgt : Int)) (k : GG κ tgt loc st σ) : GG κ pc loc (.int x :: st) σ := fun ls H locs hl hP hS =>
  lv_tableIn C.hx C.hb hd h1 h2 ho ht (k ls H locs hl hP hS)
theorem x_tout {dflt lo hi : Int} {offs : Array Int} {len : Nat} {x : Int32} {tgt : Nat} (C : Ok κ own cc nL d) (hd : decode cc pc = .ok (.tableswitch dflt lo hi offs, len)) (h : x.toInt < lo ∨ hi < x.toInt) (ht : (pc : Int) + dflt = (tgt : Int)) (k : GG κ tgt loc st σ) : GG κ pc loc (.int x :: st) σ := fun ls H locs hl hP hS =>
  lv_tableOut C.hx C.hb hd h ht (k ls H locs hl hP hS)
end XL
theorem sw_cases (v : Int32) : v = 0 ∨ v = 1 ∨ v = 2 ∨ v = 3 ∨ v = 4 ∨ v = 5 ∨ v = 6 ∨ v = 7 ∨ v = 8 ∨ v = 9 ∨ v = 10 ∨ v = 11 ∨ v = 12 ∨ v = 13 ∨ v = 14 ∨ v = 15 ∨ v = 16 ∨ v = 17 ∨ v = 18 ∨ v = 19 ∨ v = 20 ∨ v = 21 ∨ v = 22 ∨ v = 23 ∨ v = 24 ∨ v = 25 ∨ v = 26 ∨ v = 27 ∨ v = 28 ∨ v = 29 ∨ v = 30 ∨ v = 31 ∨ v = 32 ∨ v = 33 ∨ v = 34 ∨ v = 35 ∨ v = 36 ∨ v = 37 ∨ v = 38 ∨ v = 39 ∨ v = 40 ∨ v = 41 ∨ (v.toInt < 0 ∨ 41 < v.toInt) := by
  by_cases h0 : v = 0
  · exact Or.inl h0
  by_cases h1 : v = 1
  · exact Or.inr (Or.inl h1)
  by_cases h2 : v = 2
  · exact Or.inr (Or.inr (Or.inl h2))
  by_cases h3 : v = 3
  · exact Or.inr (Or.inr (Or.inr (Or.inl h3)))
  by_cases h4 : v = 4
  · exact Or.inr (Or.inr (Or.inr (Or.inr (Or.inl h4))))
  by_cases h5 : v = 5
  · exact Or.inr (Or.inr (Or.inr (Or.inr (Or.inr (Or.inl h5)))))
  by_cases h6 : v = 6
  · exact Or.inr (Or.inr (Or.inr (Or.inr (Or.inr (Or.inr (Or.inl h6))))))
  by_cases h7 : v = 7
  · exact Or.inr (Or.inr (Or.inr (Or.inr (Or.inr (Or.inr (Or.inr (Or.inl h7)))))))
  by_cases h8 : v = 8
  · exact Or.inr (Or.inr (Or.inr (Or.inr (Or.inr (Or.inr (Or.inr (Or.inr (Or.inl h8))))))))
  by_cases h9 : v = 9
  · exact Or.inr (Or.inr (Or.inr (Or.inr (Or.inr (Or.inr (Or.inr (Or.inr (Or.inr (Or.inl h9)))))))))
  by_cases h10 : v = 10
  · exact Or.inr (Or.inr (Or.inr (Or.inr (Or.inr (Or.inr (Or.inr (Or.inr (Or.inr (Or.inr (Or.inl h10))))))))))
  by_cases h11 : v = 11
  · exact Or.inr (Or.inr (Or.inr (Or.inr (Or.inr (Or.inr (Or.inr (Or.inr (Or.inr (Or.inr (Or.inr (Or.inl h11)))))))))))
  by_cases h12 : v = 12
  · exact Or.inr (Or.inr (Or.inr (Or.inr (Or.inr (Or.inr (Or.inr (Or.inr (Or.inr (Or.inr (Or.inr (Or.inr (Or.inl h12))))))))))))
  by_cases h13 : v = 13
  · exact Or.inr (Or.inr (Or.inr (Or.inr (Or.inr (Or.inr (Or.inr (Or.inr (Or.inr (Or.inr (Or.inr (Or.inr (Or.inr (Or.inl h13)))))))))))))
  by_cases h14 : v = 14
  · exact Or.inr (Or.inr (Or.inr (Or.inr (Or.inr (Or.inr (Or.inr (Or.inr (Or.inr (Or.inr (Or.inr (Or.inr (Or.inr (Or.inr (Or.inl h14))))))))))))))
  by_cases h15 : v = 15
  · exact Or.inr (Or.inr (Or.inr (Or.inr (Or.inr (Or.inr (Or.inr (Or.inr (Or.inr (Or.inr (Or.inr (Or.inr (Or.inr (Or.inr (Or.inr (Or.inl h15)))))))))))))))
  by_cases h16 : v = 16
  · exact Or.inr (Or.inr (Or.inr (Or.inr (Or.inr (Or.inr (Or.inr (Or.inr (Or.inr (Or.inr (Or.inr (Or.inr (Or.inr (Or.inr (Or.inr (Or.inr (Or.inl h16))))))))))))))))
  by_cases h17 : v = 17
  · exact Or.inr (Or.inr (Or.inr (Or.inr (Or.inr (Or.inr (Or.inr (Or.inr (Or.inr (Or.inr (Or.inr (Or.inr (Or.inr (Or.inr (Or.inr (Or.inr (Or.inr (Or.inl h17)))))))))))))))))
  by_cases h18 : v = 18
  · exact Or.inr (Or.inr (Or.inr (Or.inr (Or.inr (Or.inr (Or.inr (Or.inr (Or.inr (Or.inr (Or.inr (Or.inr (Or.inr (Or.inr (Or.inr (Or.inr (Or.inr (Or.inr (Or.inl h18))))))))))))))))))
  by_cases h19 : v = 19
  · exact Or.inr (Or.inr (Or.inr (Or.inr (Or.inr (Or.inr (Or.inr (Or.inr (Or.inr (Or.inr (Or.inr (Or.inr (Or.inr (Or.inr (Or.inr (Or.inr (Or.inr (Or.inr (Or.inr (Or.inl h19)))))))))))))))))))
  by_cases h20 : v = 20
  · exact Or.inr (Or.inr (Or.inr (Or.inr (Or.inr (Or.inr (Or.inr (Or.inr (Or.inr (Or.inr (Or.inr (Or.inr (Or.inr (Or.inr (Or.inr (Or.inr (Or.inr (Or.inr (Or.inr (Or.inr (Or.inl h20))))))))))))))))))))
  by_cases h21 : v = 21
  · exact Or.inr (Or.inr (Or.inr (Or.inr (Or.inr (Or.inr (Or.inr (Or.inr (Or.inr (Or.inr (Or.inr (Or.inr (Or.inr (Or.inr (Or.inr (Or.inr (Or.inr (Or.inr (Or.inr (Or.inr (Or.inr (Or.inl h21)))))))))))))))))))))
  by_cases h22 : v = 22
  · exact Or.inr (Or.inr (Or.inr (Or.inr (Or.inr (Or.inr (Or.inr (Or.inr (Or.inr (Or.inr (Or.inr (Or.inr (Or.inr (Or.inr (Or.inr (Or.inr (Or.inr (Or.inr (Or.inr (Or.inr (Or.inr (Or.inr (Or.inl h22))))))))))))))))))))))
  by_cases h23 : v = 23
  · exact Or.inr (Or.inr (Or.inr (Or.inr (Or.inr (Or.inr (Or.inr (Or.inr (Or.inr (Or.inr (Or.inr (Or.inr (Or.inr (Or.inr (Or.inr (Or.inr (Or.inr (Or.inr (Or.inr (Or.inr (Or.inr (Or.inr (Or.inr (Or.inl h23)))))))))))))))))))))))
  by_cases h24 : v = 24
  · exact Or.inr (Or.inr (Or.inr (Or.inr (Or.inr (Or.inr (Or.inr (Or.inr (Or.inr (Or.inr (Or.inr (Or.inr (Or.inr (Or.inr (Or.inr (Or.inr (Or.inr (Or.inr (Or.inr (Or.inr (Or.inr (Or.inr (Or.inr (Or.inr (Or.inl h24))))))))))))))))))))))))
  by_cases h25 : v = 25
  · exact Or.inr (Or.inr (Or.inr (Or.inr (Or.inr (Or.inr (Or.inr (Or.inr (Or.inr (Or.inr (Or.inr (Or.inr (Or.inr (Or.inr (Or.inr (Or.inr (Or.inr (Or.inr (Or.inr (Or.inr (Or.inr (Or.inr (Or.inr (Or.inr (Or.inr (Or.inl h25)))))))))))))))))))))))))
  by_cases h26 : v = 26
  · exact Or.inr (Or.inr (Or.inr (Or.inr (Or.inr (Or.inr (Or.inr (Or.inr (Or.inr (Or.inr (Or.inr (Or.inr (Or.inr (Or.inr (Or.inr (Or.inr (Or.inr (Or.inr (Or.inr (Or.inr (Or.inr (Or.inr (Or.inr (Or.inr (Or.inr (Or.inr (Or.inl h26))))))))))))))))))))))))))
  by_cases h27 : v = 27
  · exact Or.inr (Or.inr (Or.inr (Or.inr (Or.inr (Or.inr (Or.inr (Or.inr (Or.inr (Or.inr (Or.inr (Or.inr (Or.inr (Or.inr (Or.inr (Or.inr (Or.inr (Or.inr (Or.inr (Or.inr (Or.inr (Or.inr (Or.inr (Or.inr (Or.inr (Or.inr (Or.inr (Or.inl h27)))))))))))))))))))))))))))
  by_cases h28 : v = 28
  · exact Or.inr (Or.inr (Or.inr (Or.inr (Or.inr (Or.inr (Or.inr (Or.inr (Or.inr (Or.inr (Or.inr (Or.inr (Or.inr (Or.inr (Or.inr (Or.inr (Or.inr (Or.inr (Or.inr (Or.inr (Or.inr (Or.inr (Or.inr (Or.inr (Or.inr (Or.inr (Or.inr (Or.inr (Or.inl h28))))))))))))))))))))))))))))
  by_cases h29 : v = 29
  · exact Or.inr (Or.inr (Or.inr (Or.inr (Or.inr (Or.inr (Or.inr (Or.inr (Or.inr (Or.inr (Or.inr (Or.inr (Or.inr (Or.inr (Or.inr (Or.inr (Or.inr (Or.inr (Or.inr (Or.inr (Or.inr (Or.inr (Or.inr (Or.inr (Or.inr (Or.inr (Or.inr (Or.inr (Or.inr (Or.inl h29)))))))))))))))))))))))))))))
  by_cases h30 : v = 30
  · exact Or.inr (Or.inr (Or.inr (Or.inr (Or.inr (Or.inr (Or.inr (Or.inr (Or.inr (Or.inr (Or.inr (Or.inr (Or.inr (Or.inr (Or.inr (Or.inr (Or.inr (Or.inr (Or.inr (Or.inr (Or.inr (Or.inr (Or.inr (Or.inr (Or.inr (Or.inr (Or.inr (Or.inr (Or.inr (Or.inr (Or.inl h30))))))))))))))))))))))))))))))
  by_cases h31 : v = 31
  · exact Or.inr (Or.inr (Or.inr (Or.inr (Or.inr (Or.inr (Or.inr (Or.inr (Or.inr (Or.inr (Or.inr (Or.inr (Or.inr (Or.inr (Or.inr (Or.inr (Or.inr (Or.inr (Or.inr (Or.inr (Or.inr (Or.inr (Or.inr (Or.inr (Or.inr (Or.inr (Or.inr (Or.inr (Or.inr (Or.inr (Or.inr (Or.inl h31)))))))))))))))))))))))))))))))
  by_cases h32 : v = 32
  · exact Or.inr (Or.inr (Or.inr (Or.inr (Or.inr (Or.inr (Or.inr (Or.inr (Or.inr (Or.inr (Or.inr (Or.inr (Or.inr (Or.inr (Or.inr (Or.inr (Or.inr (Or.inr (Or.inr (Or.inr (Or.inr (Or.inr (Or.inr (Or.inr (Or.inr (Or.inr (Or.inr (Or.inr (Or.inr (Or.inr (Or.inr (Or.inr (Or.inl h32))))))))))))))))))))))))))))))))
  by_cases h33 : v = 33
  · exact Or.inr (Or.inr (Or.inr (Or.inr (Or.inr (Or.inr (Or.inr (Or.inr (Or.inr (Or.inr (Or.inr (Or.inr (Or.inr (Or.inr (Or.inr (Or.inr (Or.inr (Or.inr (Or.inr (Or.inr (Or.inr (Or.inr (Or.inr (Or.inr (Or.inr (Or.inr (Or.inr (Or.inr (Or.inr (Or.inr (Or.inr (Or.inr (Or.inr (Or.inl h33)))))))))))))))))))))))))))))))))
  by_cases h34 : v = 34
  · exact Or.inr (Or.inr (Or.inr (Or.inr (Or.inr (Or.inr (Or.inr (Or.inr (Or.inr (Or.inr (Or.inr (Or.inr (Or.inr (Or.inr (Or.inr (Or.inr (Or.inr (Or.inr (Or.inr (Or.inr (Or.inr (Or.inr (Or.inr (Or.inr (Or.inr (Or.inr (Or.inr (Or.inr (Or.inr (Or.inr (Or.inr (Or.inr (Or.inr (Or.inr (Or.inl h34))))))))))))))))))))))))))))))))))
  by_cases h35 : v = 35
  · exact Or.inr (Or.inr (Or.inr (Or.inr (Or.inr (Or.inr (Or.inr (Or.inr (Or.inr (Or.inr (Or.inr (Or.inr (Or.inr (Or.inr (Or.inr (Or.inr (Or.inr (Or.inr (Or.inr (Or.inr (Or.inr (Or.inr (Or.inr (Or.inr (Or.inr (Or.inr (Or.inr (Or.inr (Or.inr (Or.inr (Or.inr (Or.inr (Or.inr (Or.inr (Or.inr (Or.inl h35)))))))))))))))))))))))))))))))))))
  by_cases h36 : v = 36
  · exact Or.inr (Or.inr (Or.inr (Or.inr (Or.inr (Or.inr (Or.inr (Or.inr (Or.inr (Or.inr (Or.inr (Or.inr (Or.inr (Or.inr (Or.inr (Or.inr (Or.inr (Or.inr (Or.inr (Or.inr (Or.inr (Or.inr (Or.inr (Or.inr (Or.inr (Or.inr (Or.inr (Or.inr (Or.inr (Or.inr (Or.inr (Or.inr (Or.inr (Or.inr (Or.inr (Or.inr (Or.inl h36))))))))))))))))))))))))))))))))))))
  by_cases h37 : v = 37
  · exact Or.inr (Or.inr (Or.inr (Or.inr (Or.inr (Or.inr (Or.inr (Or.inr (Or.inr (Or.inr (Or.inr (Or.inr (Or.inr (Or.inr (Or.inr (Or.inr (Or.inr (Or.inr (Or.inr (Or.inr (Or.inr (Or.inr (Or.inr (Or.inr (Or.inr (Or.inr (Or.inr (Or.inr (Or.inr (Or.inr (Or.inr (Or.inr (Or.inr (Or.inr (Or.inr (Or.inr (Or.inr (Or.inl h37)))))))))))))))))))))))))))))))))))))
  by_cases h38 : v = 38
  · exact Or.inr (Or.inr (Or.inr (Or.inr (Or.inr (Or.inr (Or.inr (Or.inr (Or.inr (Or.inr (Or.inr (Or.inr (Or.inr (Or.inr (Or.inr (Or.inr (Or.inr (Or.inr (Or.inr (Or.inr (Or.inr (Or.inr (Or.inr (Or.inr (Or.inr (Or.inr (Or.inr (Or.inr (Or.inr (Or.inr (Or.inr (Or.inr (Or.inr (Or.inr (Or.inr (Or.inr (Or.inr (Or.inr (Or.inl h38))))))))))))))))))))))))))))))))))))))
  by_cases h39 : v = 39
  · exact Or.inr (Or.inr (Or.inr (Or.inr (Or.inr (Or.inr (Or.inr (Or.inr (Or.inr (Or.inr (Or.inr (Or.inr (Or.inr (Or.inr (Or.inr (Or.inr (Or.inr (Or.inr (Or.inr (Or.inr (Or.inr (Or.inr (Or.inr (Or.inr (Or.inr (Or.inr (Or.inr (Or.inr (Or.inr (Or.inr (Or.inr (Or.inr (Or.inr (Or.inr (Or.inr (Or.inr (Or.inr (Or.inr (Or.inr (Or.inl h39)))))))))))))))))))))))))))))))))))))))
  by_cases h40 : v = 40
  · exact Or.inr (Or.inr (Or.inr (Or.inr (Or.inr (Or.inr (Or.inr (Or.inr (Or.inr (Or.inr (Or.inr (Or.inr (Or.inr (Or.inr (Or.inr (Or.inr (Or.inr (Or.inr (Or.inr (Or.inr (Or.inr (Or.inr (Or.inr (Or.inr (Or.inr (Or.inr (Or.inr (Or.inr (Or.inr (Or.inr (Or.inr (Or.inr (Or.inr (Or.inr (Or.inr (Or.inr (Or.inr (Or.inr (Or.inr (Or.inr (Or.inl h40))))))))))))))))))))))))))))))))))))))))
  by_cases h41 : v = 41
  · exact Or.inr (Or.inr (Or.inr (Or.inr (Or.inr (Or.inr (Or.inr (Or.inr (Or.inr (Or.inr (Or.inr (Or.inr (Or.inr (Or.inr (Or.inr (Or.inr (Or.inr (Or.inr (Or.inr (Or.inr (Or.inr (Or.inr (Or.inr (Or.inr (Or.inr (Or.inr (Or.inr (Or.inr (Or.inr (Or.inr (Or.inr (Or.inr (Or.inr (Or.inr (Or.inr (Or.inr (Or.inr (Or.inr (Or.inr (Or.inr (Or.inr (Or.inl h41)))))))))))))))))))))))))))))))))))))))))
  refine Or.inr (Or.inr (Or.inr (Or.inr (Or.inr (Or.inr (Or.inr (Or.inr (Or.inr (Or.inr (Or.inr (Or.inr (Or.inr (Or.inr (Or.inr (Or.inr (Or.inr (Or.inr (Or.inr (Or.inr (Or.inr (Or.inr (Or.inr (Or.inr (Or.inr (Or.inr (Or.inr (Or.inr (Or.inr (Or.inr (Or.inr (Or.inr (Or.inr (Or.inr (Or.inr (Or.inr (Or.inr (Or.inr (Or.inr (Or.inr (Or.inr (Or.inr (?_))))))))))))))))))))))))))))))))))))))))))
  have q0 := lv_neT (a := 0) h0 rfl
  have q1 := lv_neT (a := 1) h1 rfl
  have q2 := lv_neT (a := 2) h2 rfl
  have q3 := lv_neT (a := 3) h3 rfl
  have q4 := lv_neT (a := 4) h4 rfl
  have q5 := lv_neT (a := 5) h5 rfl
  have q6 := lv_neT (a := 6) h6 rfl
  have q7 := lv_neT (a := 7) h7 rfl
  have q8 := lv_neT (a := 8) h8 rfl
  have q9 := lv_neT (a := 9) h9 rfl
  have q10 := lv_neT (a := 10) h10 rfl
  have q11 := lv_neT (a := 11) h11 rfl
  have q12 := lv_neT (a := 12) h12 rfl
  have q13 := lv_neT (a := 13) h13 rfl
  have q14 := lv_neT (a := 14) h14 rfl
  have q15 := lv_neT (a := 15) h15 rfl
  have q16 := lv_neT (a := 16) h16 rfl
  have q17 := lv_neT (a := 17) h17 rfl
  have q18 := lv_neT (a := 18) h18 rfl
  have q19 := lv_neT (a := 19) h19 rfl
  have q20 := lv_neT (a := 20) h20 rfl
  have q21 := lv_neT (a := 21) h21 rfl
  have q22 := lv_neT (a := 22) h22 rfl
  have q23 := lv_neT (a := 23) h23 rfl
  have q24 := lv_neT (a := 24) h24 rfl
  have q25 := lv_neT (a := 25) h25 rfl
  have q26 := lv_neT (a := 26) h26 rfl
  have q27 := lv_neT (a := 27) h27 rfl
  have q28 := lv_neT (a := 28) h28 rfl
  have q29 := lv_neT (a := 29) h29 rfl
  have q30 := lv_neT (a := 30) h30 rfl
  have q31 := lv_neT (a := 31) h31 rfl
  have q32 := lv_neT (a := 32) h32 rfl
  have q33 := lv_neT (a := 33) h33 rfl
  have q34 := lv_neT (a := 34) h34 rfl
  have q35 := lv_neT (a := 35) h35 rfl
  have q36 := lv_neT (a := 36) h36 rfl
  have q37 := lv_neT (a := 37) h37 rfl
  have q38 := lv_neT (a := 38) h38 rfl
  have q39 := lv_neT (a := 39) h39 rfl
  have q40 := lv_neT (a := 40) h40 rfl
  have q41 := lv_neT (a := 41) h41 rfl
  omega
set_option maxRecDepth 20000 in
theorem tw_265 : Cond.methodLink RL 13 yX7_append ∈ gtbl := gt_mem 265 rfl rfl
set_option maxRecDepth 20000 in
theorem tw_266 : Cond.instanceMethod yX7_append ∈ gtbl := gt_mem 266 rfl rfl
set_option maxRecDepth 20000 in
theorem tw_267 : Cond.selects RX7 yX7_append yX7_append ∈ gtbl := gt_mem 267 rfl rfl
set_option maxRecDepth 20000 in
theorem tw_268 : Cond.code yX7_append cX7_append 2 (some .int) ∈ gtbl := gt_mem 268 rfl rfl
set_option maxRecDepth 20000 in
theorem tw_275 : Cond.methodLink RL 18 yX7_clearText ∈ gtbl := gt_mem 275 rfl rfl
set_option maxRecDepth 20000 in
theorem tw_276 : Cond.instanceMethod yX7_clearText ∈ gtbl := gt_mem 276 rfl rfl
set_option maxRecDepth 20000 in
theorem tw_277 : Cond.selects RX7 yX7_clearText yX7_clearText ∈ gtbl := gt_mem 277 rfl rfl
set_option maxRecDepth 20000 in
theorem tw_278 : Cond.code yX7_clearText cX7_clearText 2 (some .int) ∈ gtbl := gt_mem 278 rfl rfl
set_option maxRecDepth 20000 in
theorem tw_279 : Cond.methodLink RL 23 yX7_faultPosition ∈ gtbl := gt_mem 279 rfl rfl
set_option maxRecDepth 20000 in
theorem tw_280 : Cond.instanceMethod yX7_faultPosition ∈ gtbl := gt_mem 280 rfl rfl
set_option maxRecDepth 20000 in
theorem tw_281 : Cond.selects RX7 yX7_faultPosition yX7_faultPosition ∈ gtbl := gt_mem 281 rfl rfl
set_option maxRecDepth 20000 in
theorem tw_282 : Cond.code yX7_faultPosition cX7_faultPosition 1 (some .int) ∈ gtbl := gt_mem 282 rfl rfl
set_option maxRecDepth 20000 in
theorem tw_304 : Cond.methodLink RL 27 yX7_read ∈ gtbl := gt_mem 304 rfl rfl
set_option maxRecDepth 20000 in
theorem tw_305 : Cond.instanceMethod yX7_read ∈ gtbl := gt_mem 305 rfl rfl
set_option maxRecDepth 20000 in
theorem tw_306 : Cond.selects RX7 yX7_read yX7_read ∈ gtbl := gt_mem 306 rfl rfl
set_option maxRecDepth 20000 in
theorem tw_307 : Cond.code yX7_read cX7_read 3 (some .int) ∈ gtbl := gt_mem 307 rfl rfl
set_option maxRecDepth 20000 in
theorem tw_318 : Cond.methodLink RL 31 yX7_remove ∈ gtbl := gt_mem 318 rfl rfl
set_option maxRecDepth 20000 in
theorem tw_319 : Cond.instanceMethod yX7_remove ∈ gtbl := gt_mem 319 rfl rfl
set_option maxRecDepth 20000 in
theorem tw_320 : Cond.selects RX7 yX7_remove yX7_remove ∈ gtbl := gt_mem 320 rfl rfl
set_option maxRecDepth 20000 in
theorem tw_321 : Cond.code yX7_remove cX7_remove 4 (some .int) ∈ gtbl := gt_mem 321 rfl rfl
set_option maxRecDepth 20000 in
theorem tw_331 : Cond.methodLink RL 35 yX7_sentences ∈ gtbl := gt_mem 331 rfl rfl
set_option maxRecDepth 20000 in
theorem tw_332 : Cond.instanceMethod yX7_sentences ∈ gtbl := gt_mem 332 rfl rfl
set_option maxRecDepth 20000 in
theorem tw_333 : Cond.selects RX7 yX7_sentences yX7_sentences ∈ gtbl := gt_mem 333 rfl rfl
set_option maxRecDepth 20000 in
theorem tw_334 : Cond.code yX7_sentences cX7_sentences 1 (some .int) ∈ gtbl := gt_mem 334 rfl rfl
set_option maxRecDepth 20000 in
theorem tw_335 : Cond.methodLink RL 39 yX7_words ∈ gtbl := gt_mem 335 rfl rfl
set_option maxRecDepth 20000 in
theorem tw_336 : Cond.instanceMethod yX7_words ∈ gtbl := gt_mem 336 rfl rfl
set_option maxRecDepth 20000 in
theorem tw_337 : Cond.selects RX7 yX7_words yX7_words ∈ gtbl := gt_mem 337 rfl rfl
set_option maxRecDepth 20000 in
theorem tw_338 : Cond.code yX7_words cX7_words 3 (some .int) ∈ gtbl := gt_mem 338 rfl rfl
set_option maxRecDepth 20000 in
theorem tw_339 : Cond.methodLink RL 43 yX7_tag ∈ gtbl := gt_mem 339 rfl rfl
set_option maxRecDepth 20000 in
theorem tw_340 : Cond.instanceMethod yX7_tag ∈ gtbl := gt_mem 340 rfl rfl
set_option maxRecDepth 20000 in
theorem tw_341 : Cond.selects RX7 yX7_tag yX7_tag ∈ gtbl := gt_mem 341 rfl rfl
set_option maxRecDepth 20000 in
theorem tw_342 : Cond.code yX7_tag cX7_tag 4 (some .int) ∈ gtbl := gt_mem 342 rfl rfl
set_option maxRecDepth 20000 in
theorem tw_347 : Cond.methodLink RL 48 yX7_annotatedHead ∈ gtbl := gt_mem 347 rfl rfl
set_option maxRecDepth 20000 in
theorem tw_348 : Cond.instanceMethod yX7_annotatedHead ∈ gtbl := gt_mem 348 rfl rfl
set_option maxRecDepth 20000 in
theorem tw_349 : Cond.selects RX7 yX7_annotatedHead yX7_annotatedHead ∈ gtbl := gt_mem 349 rfl rfl
set_option maxRecDepth 20000 in
theorem tw_350 : Cond.code yX7_annotatedHead cX7_annotatedHead 4 (some .int) ∈ gtbl := gt_mem 350 rfl rfl
set_option maxRecDepth 20000 in
theorem tw_351 : Cond.methodLink RL 52 yX7_annotate ∈ gtbl := gt_mem 351 rfl rfl
set_option maxRecDepth 20000 in
theorem tw_352 : Cond.instanceMethod yX7_annotate ∈ gtbl := gt_mem 352 rfl rfl
set_option maxRecDepth 20000 in
theorem tw_353 : Cond.selects RX7 yX7_annotate yX7_annotate ∈ gtbl := gt_mem 353 rfl rfl
set_option maxRecDepth 20000 in
theorem tw_354 : Cond.code yX7_annotate cX7_annotate 6 (some .int) ∈ gtbl := gt_mem 354 rfl rfl
set_option maxRecDepth 20000 in
theorem tw_361 : Cond.methodLink RL 57 yX7_acceptBest ∈ gtbl := gt_mem 361 rfl rfl
set_option maxRecDepth 20000 in
theorem tw_362 : Cond.instanceMethod yX7_acceptBest ∈ gtbl := gt_mem 362 rfl rfl
set_option maxRecDepth 20000 in
theorem tw_363 : Cond.selects RX7 yX7_acceptBest yX7_acceptBest ∈ gtbl := gt_mem 363 rfl rfl
set_option maxRecDepth 20000 in
theorem tw_364 : Cond.code yX7_acceptBest cX7_acceptBest 5 (some .int) ∈ gtbl := gt_mem 364 rfl rfl
set_option maxRecDepth 20000 in
theorem tw_455 : Cond.methodLink RL 61 yX7_setTagWeight ∈ gtbl := gt_mem 455 rfl rfl
set_option maxRecDepth 20000 in
theorem tw_456 : Cond.instanceMethod yX7_setTagWeight ∈ gtbl := gt_mem 456 rfl rfl
set_option maxRecDepth 20000 in
theorem tw_457 : Cond.selects RX7 yX7_setTagWeight yX7_setTagWeight ∈ gtbl := gt_mem 457 rfl rfl
set_option maxRecDepth 20000 in
theorem tw_458 : Cond.code yX7_setTagWeight cX7_setTagWeight 5 (some .int) ∈ gtbl := gt_mem 458 rfl rfl
set_option maxRecDepth 20000 in
theorem tw_465 : Cond.methodLink RL 65 yX7_setDistanceWeight ∈ gtbl := gt_mem 465 rfl rfl
set_option maxRecDepth 20000 in
theorem tw_466 : Cond.instanceMethod yX7_setDistanceWeight ∈ gtbl := gt_mem 466 rfl rfl
set_option maxRecDepth 20000 in
theorem tw_467 : Cond.selects RX7 yX7_setDistanceWeight yX7_setDistanceWeight ∈ gtbl := gt_mem 467 rfl rfl
set_option maxRecDepth 20000 in
theorem tw_468 : Cond.code yX7_setDistanceWeight cX7_setDistanceWeight 5 (some .int) ∈ gtbl := gt_mem 468 rfl rfl
set_option maxRecDepth 20000 in
theorem tw_472 : Cond.methodLink RL 69 yX7_setBias ∈ gtbl := gt_mem 472 rfl rfl
set_option maxRecDepth 20000 in
theorem tw_473 : Cond.instanceMethod yX7_setBias ∈ gtbl := gt_mem 473 rfl rfl
set_option maxRecDepth 20000 in
theorem tw_474 : Cond.selects RX7 yX7_setBias yX7_setBias ∈ gtbl := gt_mem 474 rfl rfl
set_option maxRecDepth 20000 in
theorem tw_475 : Cond.code yX7_setBias cX7_setBias 7 (some .int) ∈ gtbl := gt_mem 475 rfl rfl
set_option maxRecDepth 20000 in
theorem tw_476 : Cond.methodLink RL 74 yX7_constrain ∈ gtbl := gt_mem 476 rfl rfl
set_option maxRecDepth 20000 in
theorem tw_477 : Cond.instanceMethod yX7_constrain ∈ gtbl := gt_mem 477 rfl rfl
set_option maxRecDepth 20000 in
theorem tw_478 : Cond.selects RX7 yX7_constrain yX7_constrain ∈ gtbl := gt_mem 478 rfl rfl
set_option maxRecDepth 20000 in
theorem tw_479 : Cond.code yX7_constrain cX7_constrain 7 (some .int) ∈ gtbl := gt_mem 479 rfl rfl
set_option maxRecDepth 20000 in
theorem tw_480 : Cond.methodLink RL 78 yX7_setSingleRoot ∈ gtbl := gt_mem 480 rfl rfl
set_option maxRecDepth 20000 in
theorem tw_481 : Cond.instanceMethod yX7_setSingleRoot ∈ gtbl := gt_mem 481 rfl rfl
set_option maxRecDepth 20000 in
theorem tw_482 : Cond.selects RX7 yX7_setSingleRoot yX7_setSingleRoot ∈ gtbl := gt_mem 482 rfl rfl
set_option maxRecDepth 20000 in
theorem tw_483 : Cond.code yX7_setSingleRoot cX7_setSingleRoot 3 (some .int) ∈ gtbl := gt_mem 483 rfl rfl
set_option maxRecDepth 20000 in
theorem tw_484 : Cond.methodLink RL 83 yX7_setProjective ∈ gtbl := gt_mem 484 rfl rfl
set_option maxRecDepth 20000 in
theorem tw_485 : Cond.instanceMethod yX7_setProjective ∈ gtbl := gt_mem 485 rfl rfl
set_option maxRecDepth 20000 in
theorem tw_486 : Cond.selects RX7 yX7_setProjective yX7_setProjective ∈ gtbl := gt_mem 486 rfl rfl
set_option maxRecDepth 20000 in
theorem tw_487 : Cond.code yX7_setProjective cX7_setProjective 3 (some .int) ∈ gtbl := gt_mem 487 rfl rfl
set_option maxRecDepth 20000 in
theorem tw_488 : Cond.methodLink RL 87 yX7_setShift ∈ gtbl := gt_mem 488 rfl rfl
set_option maxRecDepth 20000 in
theorem tw_489 : Cond.instanceMethod yX7_setShift ∈ gtbl := gt_mem 489 rfl rfl
set_option maxRecDepth 20000 in
theorem tw_490 : Cond.selects RX7 yX7_setShift yX7_setShift ∈ gtbl := gt_mem 490 rfl rfl
set_option maxRecDepth 20000 in
theorem tw_491 : Cond.code yX7_setShift cX7_setShift 3 (some .int) ∈ gtbl := gt_mem 491 rfl rfl
set_option maxRecDepth 20000 in
theorem tw_492 : Cond.methodLink RL 91 yX7_tagWeight ∈ gtbl := gt_mem 492 rfl rfl
set_option maxRecDepth 20000 in
theorem tw_493 : Cond.instanceMethod yX7_tagWeight ∈ gtbl := gt_mem 493 rfl rfl
set_option maxRecDepth 20000 in
theorem tw_494 : Cond.selects RX7 yX7_tagWeight yX7_tagWeight ∈ gtbl := gt_mem 494 rfl rfl
set_option maxRecDepth 20000 in
theorem tw_495 : Cond.code yX7_tagWeight cX7_tagWeight 3 (some .int) ∈ gtbl := gt_mem 495 rfl rfl
set_option maxRecDepth 20000 in
theorem tw_496 : Cond.methodLink RL 95 yX7_distanceWeight ∈ gtbl := gt_mem 496 rfl rfl
set_option maxRecDepth 20000 in
theorem tw_497 : Cond.instanceMethod yX7_distanceWeight ∈ gtbl := gt_mem 497 rfl rfl
set_option maxRecDepth 20000 in
theorem tw_498 : Cond.selects RX7 yX7_distanceWeight yX7_distanceWeight ∈ gtbl := gt_mem 498 rfl rfl
set_option maxRecDepth 20000 in
theorem tw_499 : Cond.code yX7_distanceWeight cX7_distanceWeight 3 (some .int) ∈ gtbl := gt_mem 499 rfl rfl
set_option maxRecDepth 20000 in
theorem tw_500 : Cond.methodLink RL 99 yX7_score ∈ gtbl := gt_mem 500 rfl rfl
set_option maxRecDepth 20000 in
theorem tw_501 : Cond.instanceMethod yX7_score ∈ gtbl := gt_mem 501 rfl rfl
set_option maxRecDepth 20000 in
theorem tw_502 : Cond.selects RX7 yX7_score yX7_score ∈ gtbl := gt_mem 502 rfl rfl
set_option maxRecDepth 20000 in
theorem tw_503 : Cond.code yX7_score cX7_score 5 (some .int) ∈ gtbl := gt_mem 503 rfl rfl
set_option maxRecDepth 20000 in
theorem tw_504 : Cond.methodLink RL 103 yX7_bestScore ∈ gtbl := gt_mem 504 rfl rfl
set_option maxRecDepth 20000 in
theorem tw_505 : Cond.instanceMethod yX7_bestScore ∈ gtbl := gt_mem 505 rfl rfl
set_option maxRecDepth 20000 in
theorem tw_506 : Cond.selects RX7 yX7_bestScore yX7_bestScore ∈ gtbl := gt_mem 506 rfl rfl
set_option maxRecDepth 20000 in
theorem tw_507 : Cond.code yX7_bestScore cX7_bestScore 3 (some .int) ∈ gtbl := gt_mem 507 rfl rfl
set_option maxRecDepth 20000 in
theorem tw_515 : Cond.methodLink RL 107 yX7_bestHead ∈ gtbl := gt_mem 515 rfl rfl
set_option maxRecDepth 20000 in
theorem tw_516 : Cond.instanceMethod yX7_bestHead ∈ gtbl := gt_mem 516 rfl rfl
set_option maxRecDepth 20000 in
theorem tw_517 : Cond.selects RX7 yX7_bestHead yX7_bestHead ∈ gtbl := gt_mem 517 rfl rfl
set_option maxRecDepth 20000 in
theorem tw_518 : Cond.code yX7_bestHead cX7_bestHead 4 (some .int) ∈ gtbl := gt_mem 518 rfl rfl
set_option maxRecDepth 20000 in
theorem tw_519 : Cond.methodLink RL 111 yX7_rankedScore ∈ gtbl := gt_mem 519 rfl rfl
set_option maxRecDepth 20000 in
theorem tw_520 : Cond.instanceMethod yX7_rankedScore ∈ gtbl := gt_mem 520 rfl rfl
set_option maxRecDepth 20000 in
theorem tw_521 : Cond.selects RX7 yX7_rankedScore yX7_rankedScore ∈ gtbl := gt_mem 521 rfl rfl
set_option maxRecDepth 20000 in
theorem tw_522 : Cond.code yX7_rankedScore cX7_rankedScore 4 (some .int) ∈ gtbl := gt_mem 522 rfl rfl
set_option maxRecDepth 20000 in
theorem tw_523 : Cond.methodLink RL 115 yX7_rankedHead ∈ gtbl := gt_mem 523 rfl rfl
set_option maxRecDepth 20000 in
theorem tw_524 : Cond.instanceMethod yX7_rankedHead ∈ gtbl := gt_mem 524 rfl rfl
set_option maxRecDepth 20000 in
theorem tw_525 : Cond.selects RX7 yX7_rankedHead yX7_rankedHead ∈ gtbl := gt_mem 525 rfl rfl
set_option maxRecDepth 20000 in
theorem tw_526 : Cond.code yX7_rankedHead cX7_rankedHead 5 (some .int) ∈ gtbl := gt_mem 526 rfl rfl
set_option maxRecDepth 20000 in
theorem tw_527 : Cond.methodLink RL 119 yX7_regret ∈ gtbl := gt_mem 527 rfl rfl
set_option maxRecDepth 20000 in
theorem tw_528 : Cond.instanceMethod yX7_regret ∈ gtbl := gt_mem 528 rfl rfl
set_option maxRecDepth 20000 in
theorem tw_529 : Cond.selects RX7 yX7_regret yX7_regret ∈ gtbl := gt_mem 529 rfl rfl
set_option maxRecDepth 20000 in
theorem tw_530 : Cond.code yX7_regret cX7_regret 6 (some .int) ∈ gtbl := gt_mem 530 rfl rfl
set_option maxRecDepth 20000 in
theorem tw_535 : Cond.methodLink RL 123 yX7_margin ∈ gtbl := gt_mem 535 rfl rfl
set_option maxRecDepth 20000 in
theorem tw_536 : Cond.instanceMethod yX7_margin ∈ gtbl := gt_mem 536 rfl rfl
set_option maxRecDepth 20000 in
theorem tw_537 : Cond.selects RX7 yX7_margin yX7_margin ∈ gtbl := gt_mem 537 rfl rfl
set_option maxRecDepth 20000 in
theorem tw_538 : Cond.code yX7_margin cX7_margin 5 (some .int) ∈ gtbl := gt_mem 538 rfl rfl
set_option maxRecDepth 20000 in
theorem tw_543 : Cond.methodLink RL 127 yX7_correct ∈ gtbl := gt_mem 543 rfl rfl
set_option maxRecDepth 20000 in
theorem tw_544 : Cond.instanceMethod yX7_correct ∈ gtbl := gt_mem 544 rfl rfl
set_option maxRecDepth 20000 in
theorem tw_545 : Cond.selects RX7 yX7_correct yX7_correct ∈ gtbl := gt_mem 545 rfl rfl
set_option maxRecDepth 20000 in
theorem tw_546 : Cond.code yX7_correct cX7_correct 3 (some .int) ∈ gtbl := gt_mem 546 rfl rfl
set_option maxRecDepth 20000 in
theorem tw_547 : Cond.methodLink RL 131 yX7_treeCount ∈ gtbl := gt_mem 547 rfl rfl
set_option maxRecDepth 20000 in
theorem tw_548 : Cond.instanceMethod yX7_treeCount ∈ gtbl := gt_mem 548 rfl rfl
set_option maxRecDepth 20000 in
theorem tw_549 : Cond.selects RX7 yX7_treeCount yX7_treeCount ∈ gtbl := gt_mem 549 rfl rfl
set_option maxRecDepth 20000 in
theorem tw_550 : Cond.code yX7_treeCount cX7_treeCount 3 (some .int) ∈ gtbl := gt_mem 550 rfl rfl
set_option maxRecDepth 20000 in
theorem tw_594 : Cond.methodLink RL 135 yX7_weightSum ∈ gtbl := gt_mem 594 rfl rfl
set_option maxRecDepth 20000 in
theorem tw_595 : Cond.instanceMethod yX7_weightSum ∈ gtbl := gt_mem 595 rfl rfl
set_option maxRecDepth 20000 in
theorem tw_596 : Cond.selects RX7 yX7_weightSum yX7_weightSum ∈ gtbl := gt_mem 596 rfl rfl
set_option maxRecDepth 20000 in
theorem tw_597 : Cond.code yX7_weightSum cX7_weightSum 3 (some .long) ∈ gtbl := gt_mem 597 rfl rfl
set_option maxRecDepth 20000 in
theorem tw_603 : Cond.methodLink RL 140 yX7_chance ∈ gtbl := gt_mem 603 rfl rfl
set_option maxRecDepth 20000 in
theorem tw_604 : Cond.instanceMethod yX7_chance ∈ gtbl := gt_mem 604 rfl rfl
set_option maxRecDepth 20000 in
theorem tw_605 : Cond.selects RX7 yX7_chance yX7_chance ∈ gtbl := gt_mem 605 rfl rfl
set_option maxRecDepth 20000 in
theorem tw_606 : Cond.code yX7_chance cX7_chance 12 (some .long) ∈ gtbl := gt_mem 606 rfl rfl
set_option maxRecDepth 20000 in
theorem tw_627 : Cond.methodLink RL 145 yX7_riskHead ∈ gtbl := gt_mem 627 rfl rfl
set_option maxRecDepth 20000 in
theorem tw_628 : Cond.instanceMethod yX7_riskHead ∈ gtbl := gt_mem 628 rfl rfl
set_option maxRecDepth 20000 in
theorem tw_629 : Cond.selects RX7 yX7_riskHead yX7_riskHead ∈ gtbl := gt_mem 629 rfl rfl
set_option maxRecDepth 20000 in
theorem tw_630 : Cond.code yX7_riskHead cX7_riskHead 4 (some .int) ∈ gtbl := gt_mem 630 rfl rfl
set_option maxRecDepth 20000 in
theorem tw_631 : Cond.methodLink RL 149 yX7_crossings ∈ gtbl := gt_mem 631 rfl rfl
set_option maxRecDepth 20000 in
theorem tw_632 : Cond.instanceMethod yX7_crossings ∈ gtbl := gt_mem 632 rfl rfl
set_option maxRecDepth 20000 in
theorem tw_633 : Cond.selects RX7 yX7_crossings yX7_crossings ∈ gtbl := gt_mem 633 rfl rfl
set_option maxRecDepth 20000 in
theorem tw_634 : Cond.code yX7_crossings cX7_crossings 3 (some .int) ∈ gtbl := gt_mem 634 rfl rfl
set_option maxRecDepth 20000 in
theorem tw_639 : Cond.methodLink RL 153 yX7_depth ∈ gtbl := gt_mem 639 rfl rfl
set_option maxRecDepth 20000 in
theorem tw_640 : Cond.instanceMethod yX7_depth ∈ gtbl := gt_mem 640 rfl rfl
set_option maxRecDepth 20000 in
theorem tw_641 : Cond.selects RX7 yX7_depth yX7_depth ∈ gtbl := gt_mem 641 rfl rfl
set_option maxRecDepth 20000 in
theorem tw_642 : Cond.code yX7_depth cX7_depth 4 (some .int) ∈ gtbl := gt_mem 642 rfl rfl
set_option maxRecDepth 20000 in
theorem tw_643 : Cond.methodLink RL 157 yX7_projectiveOrder ∈ gtbl := gt_mem 643 rfl rfl
set_option maxRecDepth 20000 in
theorem tw_644 : Cond.instanceMethod yX7_projectiveOrder ∈ gtbl := gt_mem 644 rfl rfl
set_option maxRecDepth 20000 in
theorem tw_645 : Cond.selects RX7 yX7_projectiveOrder yX7_projectiveOrder ∈ gtbl := gt_mem 645 rfl rfl
set_option maxRecDepth 20000 in
theorem tw_646 : Cond.code yX7_projectiveOrder cX7_projectiveOrder 4 (some .int) ∈ gtbl := gt_mem 646 rfl rfl
set_option maxRecDepth 20000 in
theorem tw_658 : Cond.methodLink RL 161 yX7_transitions ∈ gtbl := gt_mem 658 rfl rfl
set_option maxRecDepth 20000 in
theorem tw_659 : Cond.instanceMethod yX7_transitions ∈ gtbl := gt_mem 659 rfl rfl
set_option maxRecDepth 20000 in
theorem tw_660 : Cond.selects RX7 yX7_transitions yX7_transitions ∈ gtbl := gt_mem 660 rfl rfl
set_option maxRecDepth 20000 in
theorem tw_661 : Cond.code yX7_transitions cX7_transitions 3 (some .int) ∈ gtbl := gt_mem 661 rfl rfl
set_option maxRecDepth 20000 in
theorem tw_682 : Cond.methodLink RL 165 yX7_transition ∈ gtbl := gt_mem 682 rfl rfl
set_option maxRecDepth 20000 in
theorem tw_683 : Cond.instanceMethod yX7_transition ∈ gtbl := gt_mem 683 rfl rfl
set_option maxRecDepth 20000 in
theorem tw_684 : Cond.selects RX7 yX7_transition yX7_transition ∈ gtbl := gt_mem 684 rfl rfl
set_option maxRecDepth 20000 in
theorem tw_685 : Cond.code yX7_transition cX7_transition 4 (some .int) ∈ gtbl := gt_mem 685 rfl rfl
set_option maxRecDepth 20000 in
theorem tw_686 : Cond.methodLink RL 169 yX7_train ∈ gtbl := gt_mem 686 rfl rfl
set_option maxRecDepth 20000 in
theorem tw_687 : Cond.instanceMethod yX7_train ∈ gtbl := gt_mem 687 rfl rfl
set_option maxRecDepth 20000 in
theorem tw_688 : Cond.selects RX7 yX7_train yX7_train ∈ gtbl := gt_mem 688 rfl rfl
set_option maxRecDepth 20000 in
theorem tw_689 : Cond.code yX7_train cX7_train 3 (some .int) ∈ gtbl := gt_mem 689 rfl rfl
set_option maxRecDepth 20000 in
theorem tw_703 : Cond.methodLink RL 173 yX7_trainAll ∈ gtbl := gt_mem 703 rfl rfl
set_option maxRecDepth 20000 in
theorem tw_704 : Cond.instanceMethod yX7_trainAll ∈ gtbl := gt_mem 704 rfl rfl
set_option maxRecDepth 20000 in
theorem tw_705 : Cond.selects RX7 yX7_trainAll yX7_trainAll ∈ gtbl := gt_mem 705 rfl rfl
set_option maxRecDepth 20000 in
theorem tw_706 : Cond.code yX7_trainAll cX7_trainAll 5 (some .int) ∈ gtbl := gt_mem 706 rfl rfl
set_option maxRecDepth 20000 in
theorem tw_707 : Cond.methodLink RL 177 yX7_save ∈ gtbl := gt_mem 707 rfl rfl
set_option maxRecDepth 20000 in
theorem tw_708 : Cond.instanceMethod yX7_save ∈ gtbl := gt_mem 708 rfl rfl
set_option maxRecDepth 20000 in
theorem tw_709 : Cond.selects RX7 yX7_save yX7_save ∈ gtbl := gt_mem 709 rfl rfl
set_option maxRecDepth 20000 in
theorem tw_710 : Cond.code yX7_save cX7_save 2 (some .int) ∈ gtbl := gt_mem 710 rfl rfl
set_option maxRecDepth 20000 in
theorem tw_720 : Cond.methodLink RL 181 yX7_restore ∈ gtbl := gt_mem 720 rfl rfl
set_option maxRecDepth 20000 in
theorem tw_721 : Cond.instanceMethod yX7_restore ∈ gtbl := gt_mem 721 rfl rfl
set_option maxRecDepth 20000 in
theorem tw_722 : Cond.selects RX7 yX7_restore yX7_restore ∈ gtbl := gt_mem 722 rfl rfl
set_option maxRecDepth 20000 in
theorem tw_723 : Cond.code yX7_restore cX7_restore 2 (some .int) ∈ gtbl := gt_mem 723 rfl rfl
set_option maxRecDepth 20000 in
theorem tw_724 : Cond.methodLink RL 185 yX7_checksum ∈ gtbl := gt_mem 724 rfl rfl
set_option maxRecDepth 20000 in
theorem tw_725 : Cond.instanceMethod yX7_checksum ∈ gtbl := gt_mem 725 rfl rfl
set_option maxRecDepth 20000 in
theorem tw_726 : Cond.selects RX7 yX7_checksum yX7_checksum ∈ gtbl := gt_mem 726 rfl rfl
set_option maxRecDepth 20000 in
theorem tw_727 : Cond.code yX7_checksum cX7_checksum 4 (some .long) ∈ gtbl := gt_mem 727 rfl rfl
set_option maxRecDepth 20000 in
theorem tw_869 : Cond.methodLink RL 17 yX8_append ∈ gtbl := gt_mem 869 rfl rfl
set_option maxRecDepth 20000 in
theorem tw_870 : Cond.instanceMethod yX8_append ∈ gtbl := gt_mem 870 rfl rfl
set_option maxRecDepth 20000 in
theorem tw_871 : Cond.selects RX8 yX8_append yX8_append ∈ gtbl := gt_mem 871 rfl rfl
set_option maxRecDepth 20000 in
theorem tw_872 : Cond.code yX8_append cX8_append 2 (some .int) ∈ gtbl := gt_mem 872 rfl rfl
set_option maxRecDepth 20000 in
theorem tw_878 : Cond.methodLink RL 22 yX8_clearText ∈ gtbl := gt_mem 878 rfl rfl
set_option maxRecDepth 20000 in
theorem tw_879 : Cond.instanceMethod yX8_clearText ∈ gtbl := gt_mem 879 rfl rfl
set_option maxRecDepth 20000 in
theorem tw_880 : Cond.selects RX8 yX8_clearText yX8_clearText ∈ gtbl := gt_mem 880 rfl rfl
set_option maxRecDepth 20000 in
theorem tw_881 : Cond.code yX8_clearText cX8_clearText 2 (some .int) ∈ gtbl := gt_mem 881 rfl rfl
set_option maxRecDepth 20000 in
theorem tw_882 : Cond.methodLink RL 26 yX8_faultPosition ∈ gtbl := gt_mem 882 rfl rfl
set_option maxRecDepth 20000 in
theorem tw_883 : Cond.instanceMethod yX8_faultPosition ∈ gtbl := gt_mem 883 rfl rfl
set_option maxRecDepth 20000 in
theorem tw_884 : Cond.selects RX8 yX8_faultPosition yX8_faultPosition ∈ gtbl := gt_mem 884 rfl rfl
set_option maxRecDepth 20000 in
theorem tw_885 : Cond.code yX8_faultPosition cX8_faultPosition 1 (some .int) ∈ gtbl := gt_mem 885 rfl rfl
set_option maxRecDepth 20000 in
theorem tw_894 : Cond.methodLink RL 30 yX8_read ∈ gtbl := gt_mem 894 rfl rfl
set_option maxRecDepth 20000 in
theorem tw_895 : Cond.instanceMethod yX8_read ∈ gtbl := gt_mem 895 rfl rfl
set_option maxRecDepth 20000 in
theorem tw_896 : Cond.selects RX8 yX8_read yX8_read ∈ gtbl := gt_mem 896 rfl rfl
set_option maxRecDepth 20000 in
theorem tw_897 : Cond.code yX8_read cX8_read 3 (some .int) ∈ gtbl := gt_mem 897 rfl rfl
set_option maxRecDepth 20000 in
theorem tw_902 : Cond.methodLink RL 34 yX8_remove ∈ gtbl := gt_mem 902 rfl rfl
set_option maxRecDepth 20000 in
theorem tw_903 : Cond.instanceMethod yX8_remove ∈ gtbl := gt_mem 903 rfl rfl
set_option maxRecDepth 20000 in
theorem tw_904 : Cond.selects RX8 yX8_remove yX8_remove ∈ gtbl := gt_mem 904 rfl rfl
set_option maxRecDepth 20000 in
theorem tw_905 : Cond.code yX8_remove cX8_remove 4 (some .int) ∈ gtbl := gt_mem 905 rfl rfl
set_option maxRecDepth 20000 in
theorem tw_911 : Cond.methodLink RL 38 yX8_sentences ∈ gtbl := gt_mem 911 rfl rfl
set_option maxRecDepth 20000 in
theorem tw_912 : Cond.instanceMethod yX8_sentences ∈ gtbl := gt_mem 912 rfl rfl
set_option maxRecDepth 20000 in
theorem tw_913 : Cond.selects RX8 yX8_sentences yX8_sentences ∈ gtbl := gt_mem 913 rfl rfl
set_option maxRecDepth 20000 in
theorem tw_914 : Cond.code yX8_sentences cX8_sentences 1 (some .int) ∈ gtbl := gt_mem 914 rfl rfl
set_option maxRecDepth 20000 in
theorem tw_915 : Cond.methodLink RL 42 yX8_words ∈ gtbl := gt_mem 915 rfl rfl
set_option maxRecDepth 20000 in
theorem tw_916 : Cond.instanceMethod yX8_words ∈ gtbl := gt_mem 916 rfl rfl
set_option maxRecDepth 20000 in
theorem tw_917 : Cond.selects RX8 yX8_words yX8_words ∈ gtbl := gt_mem 917 rfl rfl
set_option maxRecDepth 20000 in
theorem tw_918 : Cond.code yX8_words cX8_words 2 (some .int) ∈ gtbl := gt_mem 918 rfl rfl
set_option maxRecDepth 20000 in
theorem tw_919 : Cond.methodLink RL 47 yX8_tag ∈ gtbl := gt_mem 919 rfl rfl
set_option maxRecDepth 20000 in
theorem tw_920 : Cond.instanceMethod yX8_tag ∈ gtbl := gt_mem 920 rfl rfl
set_option maxRecDepth 20000 in
theorem tw_921 : Cond.selects RX8 yX8_tag yX8_tag ∈ gtbl := gt_mem 921 rfl rfl
set_option maxRecDepth 20000 in
theorem tw_922 : Cond.code yX8_tag cX8_tag 3 (some .int) ∈ gtbl := gt_mem 922 rfl rfl
set_option maxRecDepth 20000 in
theorem tw_927 : Cond.methodLink RL 51 yX8_annotatedHead ∈ gtbl := gt_mem 927 rfl rfl
set_option maxRecDepth 20000 in
theorem tw_928 : Cond.instanceMethod yX8_annotatedHead ∈ gtbl := gt_mem 928 rfl rfl
set_option maxRecDepth 20000 in
theorem tw_929 : Cond.selects RX8 yX8_annotatedHead yX8_annotatedHead ∈ gtbl := gt_mem 929 rfl rfl
set_option maxRecDepth 20000 in
theorem tw_930 : Cond.code yX8_annotatedHead cX8_annotatedHead 3 (some .int) ∈ gtbl := gt_mem 930 rfl rfl
set_option maxRecDepth 20000 in
theorem tw_931 : Cond.methodLink RL 56 yX8_annotate ∈ gtbl := gt_mem 931 rfl rfl
set_option maxRecDepth 20000 in
theorem tw_932 : Cond.instanceMethod yX8_annotate ∈ gtbl := gt_mem 932 rfl rfl
set_option maxRecDepth 20000 in
theorem tw_933 : Cond.selects RX8 yX8_annotate yX8_annotate ∈ gtbl := gt_mem 933 rfl rfl
set_option maxRecDepth 20000 in
theorem tw_934 : Cond.code yX8_annotate cX8_annotate 6 (some .int) ∈ gtbl := gt_mem 934 rfl rfl
set_option maxRecDepth 20000 in
theorem tw_939 : Cond.methodLink RL 64 yX8_setTagWeight ∈ gtbl := gt_mem 939 rfl rfl
set_option maxRecDepth 20000 in
theorem tw_940 : Cond.instanceMethod yX8_setTagWeight ∈ gtbl := gt_mem 940 rfl rfl
set_option maxRecDepth 20000 in
theorem tw_941 : Cond.selects RX8 yX8_setTagWeight yX8_setTagWeight ∈ gtbl := gt_mem 941 rfl rfl
set_option maxRecDepth 20000 in
theorem tw_942 : Cond.code yX8_setTagWeight cX8_setTagWeight 4 (some .int) ∈ gtbl := gt_mem 942 rfl rfl
set_option maxRecDepth 20000 in
theorem tw_953 : Cond.methodLink RL 68 yX8_setDistanceWeight ∈ gtbl := gt_mem 953 rfl rfl
set_option maxRecDepth 20000 in
theorem tw_954 : Cond.instanceMethod yX8_setDistanceWeight ∈ gtbl := gt_mem 954 rfl rfl
set_option maxRecDepth 20000 in
theorem tw_955 : Cond.selects RX8 yX8_setDistanceWeight yX8_setDistanceWeight ∈ gtbl := gt_mem 955 rfl rfl
set_option maxRecDepth 20000 in
theorem tw_956 : Cond.code yX8_setDistanceWeight cX8_setDistanceWeight 4 (some .int) ∈ gtbl := gt_mem 956 rfl rfl
set_option maxRecDepth 20000 in
theorem tw_963 : Cond.methodLink RL 94 yX8_tagWeight ∈ gtbl := gt_mem 963 rfl rfl
set_option maxRecDepth 20000 in
theorem tw_964 : Cond.instanceMethod yX8_tagWeight ∈ gtbl := gt_mem 964 rfl rfl
set_option maxRecDepth 20000 in
theorem tw_965 : Cond.selects RX8 yX8_tagWeight yX8_tagWeight ∈ gtbl := gt_mem 965 rfl rfl
set_option maxRecDepth 20000 in
theorem tw_966 : Cond.code yX8_tagWeight cX8_tagWeight 3 (some .int) ∈ gtbl := gt_mem 966 rfl rfl
set_option maxRecDepth 20000 in
theorem tw_967 : Cond.methodLink RL 98 yX8_distanceWeight ∈ gtbl := gt_mem 967 rfl rfl
set_option maxRecDepth 20000 in
theorem tw_968 : Cond.instanceMethod yX8_distanceWeight ∈ gtbl := gt_mem 968 rfl rfl
set_option maxRecDepth 20000 in
theorem tw_969 : Cond.selects RX8 yX8_distanceWeight yX8_distanceWeight ∈ gtbl := gt_mem 969 rfl rfl
set_option maxRecDepth 20000 in
theorem tw_970 : Cond.code yX8_distanceWeight cX8_distanceWeight 3 (some .int) ∈ gtbl := gt_mem 970 rfl rfl
set_option maxRecDepth 20000 in
theorem tw_971 : Cond.methodLink RL 73 yX8_setBias ∈ gtbl := gt_mem 971 rfl rfl
set_option maxRecDepth 20000 in
theorem tw_972 : Cond.instanceMethod yX8_setBias ∈ gtbl := gt_mem 972 rfl rfl
set_option maxRecDepth 20000 in
theorem tw_973 : Cond.selects RX8 yX8_setBias yX8_setBias ∈ gtbl := gt_mem 973 rfl rfl
set_option maxRecDepth 20000 in
theorem tw_974 : Cond.code yX8_setBias cX8_setBias 7 (some .int) ∈ gtbl := gt_mem 974 rfl rfl
set_option maxRecDepth 20000 in
theorem tw_978 : Cond.methodLink RL 77 yX8_constrain ∈ gtbl := gt_mem 978 rfl rfl
set_option maxRecDepth 20000 in
theorem tw_979 : Cond.instanceMethod yX8_constrain ∈ gtbl := gt_mem 979 rfl rfl
set_option maxRecDepth 20000 in
theorem tw_980 : Cond.selects RX8 yX8_constrain yX8_constrain ∈ gtbl := gt_mem 980 rfl rfl
set_option maxRecDepth 20000 in
theorem tw_981 : Cond.code yX8_constrain cX8_constrain 7 (some .int) ∈ gtbl := gt_mem 981 rfl rfl
set_option maxRecDepth 20000 in
theorem tw_982 : Cond.methodLink RL 82 yX8_setSingleRoot ∈ gtbl := gt_mem 982 rfl rfl
set_option maxRecDepth 20000 in
theorem tw_983 : Cond.instanceMethod yX8_setSingleRoot ∈ gtbl := gt_mem 983 rfl rfl
set_option maxRecDepth 20000 in
theorem tw_984 : Cond.selects RX8 yX8_setSingleRoot yX8_setSingleRoot ∈ gtbl := gt_mem 984 rfl rfl
set_option maxRecDepth 20000 in
theorem tw_985 : Cond.code yX8_setSingleRoot cX8_setSingleRoot 3 (some .int) ∈ gtbl := gt_mem 985 rfl rfl
set_option maxRecDepth 20000 in
theorem tw_986 : Cond.methodLink RL 86 yX8_setProjective ∈ gtbl := gt_mem 986 rfl rfl
set_option maxRecDepth 20000 in
theorem tw_987 : Cond.instanceMethod yX8_setProjective ∈ gtbl := gt_mem 987 rfl rfl
set_option maxRecDepth 20000 in
theorem tw_988 : Cond.selects RX8 yX8_setProjective yX8_setProjective ∈ gtbl := gt_mem 988 rfl rfl
set_option maxRecDepth 20000 in
theorem tw_989 : Cond.code yX8_setProjective cX8_setProjective 3 (some .int) ∈ gtbl := gt_mem 989 rfl rfl
set_option maxRecDepth 20000 in
theorem tw_990 : Cond.methodLink RL 90 yX8_setShift ∈ gtbl := gt_mem 990 rfl rfl
set_option maxRecDepth 20000 in
theorem tw_991 : Cond.instanceMethod yX8_setShift ∈ gtbl := gt_mem 991 rfl rfl
set_option maxRecDepth 20000 in
theorem tw_992 : Cond.selects RX8 yX8_setShift yX8_setShift ∈ gtbl := gt_mem 992 rfl rfl
set_option maxRecDepth 20000 in
theorem tw_993 : Cond.code yX8_setShift cX8_setShift 3 (some .int) ∈ gtbl := gt_mem 993 rfl rfl
set_option maxRecDepth 20000 in
theorem tw_994 : Cond.methodLink RL 102 yX8_score ∈ gtbl := gt_mem 994 rfl rfl
set_option maxRecDepth 20000 in
theorem tw_995 : Cond.instanceMethod yX8_score ∈ gtbl := gt_mem 995 rfl rfl
set_option maxRecDepth 20000 in
theorem tw_996 : Cond.selects RX8 yX8_score yX8_score ∈ gtbl := gt_mem 996 rfl rfl
set_option maxRecDepth 20000 in
theorem tw_997 : Cond.code yX8_score cX8_score 4 (some .int) ∈ gtbl := gt_mem 997 rfl rfl
set_option maxRecDepth 20000 in
theorem tw_1013 : Cond.methodLink RL 106 yX8_bestScore ∈ gtbl := gt_mem 1013 rfl rfl
set_option maxRecDepth 20000 in
theorem tw_1014 : Cond.instanceMethod yX8_bestScore ∈ gtbl := gt_mem 1014 rfl rfl
set_option maxRecDepth 20000 in
theorem tw_1015 : Cond.selects RX8 yX8_bestScore yX8_bestScore ∈ gtbl := gt_mem 1015 rfl rfl
set_option maxRecDepth 20000 in
theorem tw_1016 : Cond.code yX8_bestScore cX8_bestScore 2 (some .int) ∈ gtbl := gt_mem 1016 rfl rfl
set_option maxRecDepth 20000 in
theorem tw_1061 : Cond.methodLink RL 110 yX8_bestHead ∈ gtbl := gt_mem 1061 rfl rfl
set_option maxRecDepth 20000 in
theorem tw_1062 : Cond.instanceMethod yX8_bestHead ∈ gtbl := gt_mem 1062 rfl rfl
set_option maxRecDepth 20000 in
theorem tw_1063 : Cond.selects RX8 yX8_bestHead yX8_bestHead ∈ gtbl := gt_mem 1063 rfl rfl
set_option maxRecDepth 20000 in
theorem tw_1064 : Cond.code yX8_bestHead cX8_bestHead 3 (some .int) ∈ gtbl := gt_mem 1064 rfl rfl
set_option maxRecDepth 20000 in
theorem tw_1065 : Cond.methodLink RL 114 yX8_rankedScore ∈ gtbl := gt_mem 1065 rfl rfl
set_option maxRecDepth 20000 in
theorem tw_1066 : Cond.instanceMethod yX8_rankedScore ∈ gtbl := gt_mem 1066 rfl rfl
set_option maxRecDepth 20000 in
theorem tw_1067 : Cond.selects RX8 yX8_rankedScore yX8_rankedScore ∈ gtbl := gt_mem 1067 rfl rfl
set_option maxRecDepth 20000 in
theorem tw_1068 : Cond.code yX8_rankedScore cX8_rankedScore 3 (some .int) ∈ gtbl := gt_mem 1068 rfl rfl
set_option maxRecDepth 20000 in
theorem tw_1069 : Cond.methodLink RL 118 yX8_rankedHead ∈ gtbl := gt_mem 1069 rfl rfl
set_option maxRecDepth 20000 in
theorem tw_1070 : Cond.instanceMethod yX8_rankedHead ∈ gtbl := gt_mem 1070 rfl rfl
set_option maxRecDepth 20000 in
theorem tw_1071 : Cond.selects RX8 yX8_rankedHead yX8_rankedHead ∈ gtbl := gt_mem 1071 rfl rfl
set_option maxRecDepth 20000 in
theorem tw_1072 : Cond.code yX8_rankedHead cX8_rankedHead 4 (some .int) ∈ gtbl := gt_mem 1072 rfl rfl
set_option maxRecDepth 20000 in
theorem tw_1073 : Cond.methodLink RL 122 yX8_regret ∈ gtbl := gt_mem 1073 rfl rfl
set_option maxRecDepth 20000 in
theorem tw_1074 : Cond.instanceMethod yX8_regret ∈ gtbl := gt_mem 1074 rfl rfl
set_option maxRecDepth 20000 in
theorem tw_1075 : Cond.selects RX8 yX8_regret yX8_regret ∈ gtbl := gt_mem 1075 rfl rfl
set_option maxRecDepth 20000 in
theorem tw_1076 : Cond.code yX8_regret cX8_regret 5 (some .int) ∈ gtbl := gt_mem 1076 rfl rfl
set_option maxRecDepth 20000 in
theorem tw_1077 : Cond.methodLink RL 126 yX8_margin ∈ gtbl := gt_mem 1077 rfl rfl
set_option maxRecDepth 20000 in
theorem tw_1078 : Cond.instanceMethod yX8_margin ∈ gtbl := gt_mem 1078 rfl rfl
set_option maxRecDepth 20000 in
theorem tw_1079 : Cond.selects RX8 yX8_margin yX8_margin ∈ gtbl := gt_mem 1079 rfl rfl
set_option maxRecDepth 20000 in
theorem tw_1080 : Cond.code yX8_margin cX8_margin 4 (some .int) ∈ gtbl := gt_mem 1080 rfl rfl
set_option maxRecDepth 20000 in
theorem tw_1081 : Cond.methodLink RL 130 yX8_correct ∈ gtbl := gt_mem 1081 rfl rfl
set_option maxRecDepth 20000 in
theorem tw_1082 : Cond.instanceMethod yX8_correct ∈ gtbl := gt_mem 1082 rfl rfl
set_option maxRecDepth 20000 in
theorem tw_1083 : Cond.selects RX8 yX8_correct yX8_correct ∈ gtbl := gt_mem 1083 rfl rfl
set_option maxRecDepth 20000 in
theorem tw_1084 : Cond.code yX8_correct cX8_correct 2 (some .int) ∈ gtbl := gt_mem 1084 rfl rfl
set_option maxRecDepth 20000 in
theorem tw_1089 : Cond.methodLink RL 134 yX8_treeCount ∈ gtbl := gt_mem 1089 rfl rfl
set_option maxRecDepth 20000 in
theorem tw_1090 : Cond.instanceMethod yX8_treeCount ∈ gtbl := gt_mem 1090 rfl rfl
set_option maxRecDepth 20000 in
theorem tw_1091 : Cond.selects RX8 yX8_treeCount yX8_treeCount ∈ gtbl := gt_mem 1091 rfl rfl
set_option maxRecDepth 20000 in
theorem tw_1092 : Cond.code yX8_treeCount cX8_treeCount 2 (some .int) ∈ gtbl := gt_mem 1092 rfl rfl
set_option maxRecDepth 20000 in
theorem tw_1093 : Cond.methodLink RL 60 yX8_acceptBest ∈ gtbl := gt_mem 1093 rfl rfl
set_option maxRecDepth 20000 in
theorem tw_1094 : Cond.instanceMethod yX8_acceptBest ∈ gtbl := gt_mem 1094 rfl rfl
set_option maxRecDepth 20000 in
theorem tw_1095 : Cond.selects RX8 yX8_acceptBest yX8_acceptBest ∈ gtbl := gt_mem 1095 rfl rfl
set_option maxRecDepth 20000 in
theorem tw_1096 : Cond.code yX8_acceptBest cX8_acceptBest 4 (some .int) ∈ gtbl := gt_mem 1096 rfl rfl
set_option maxRecDepth 20000 in
theorem tw_1097 : Cond.methodLink RL 139 yX8_weightSum ∈ gtbl := gt_mem 1097 rfl rfl
set_option maxRecDepth 20000 in
theorem tw_1098 : Cond.instanceMethod yX8_weightSum ∈ gtbl := gt_mem 1098 rfl rfl
set_option maxRecDepth 20000 in
theorem tw_1099 : Cond.selects RX8 yX8_weightSum yX8_weightSum ∈ gtbl := gt_mem 1099 rfl rfl
set_option maxRecDepth 20000 in
theorem tw_1100 : Cond.code yX8_weightSum cX8_weightSum 2 (some .long) ∈ gtbl := gt_mem 1100 rfl rfl
set_option maxRecDepth 20000 in
theorem tw_1102 : Cond.methodLink RL 144 yX8_chance ∈ gtbl := gt_mem 1102 rfl rfl
set_option maxRecDepth 20000 in
theorem tw_1103 : Cond.instanceMethod yX8_chance ∈ gtbl := gt_mem 1103 rfl rfl
set_option maxRecDepth 20000 in
theorem tw_1104 : Cond.selects RX8 yX8_chance yX8_chance ∈ gtbl := gt_mem 1104 rfl rfl
set_option maxRecDepth 20000 in
theorem tw_1105 : Cond.code yX8_chance cX8_chance 13 (some .long) ∈ gtbl := gt_mem 1105 rfl rfl
set_option maxRecDepth 20000 in
theorem tw_1107 : Cond.methodLink RL 148 yX8_riskHead ∈ gtbl := gt_mem 1107 rfl rfl
set_option maxRecDepth 20000 in
theorem tw_1108 : Cond.instanceMethod yX8_riskHead ∈ gtbl := gt_mem 1108 rfl rfl
set_option maxRecDepth 20000 in
theorem tw_1109 : Cond.selects RX8 yX8_riskHead yX8_riskHead ∈ gtbl := gt_mem 1109 rfl rfl
set_option maxRecDepth 20000 in
theorem tw_1110 : Cond.code yX8_riskHead cX8_riskHead 3 (some .int) ∈ gtbl := gt_mem 1110 rfl rfl
set_option maxRecDepth 20000 in
theorem tw_1119 : Cond.methodLink RL 152 yX8_crossings ∈ gtbl := gt_mem 1119 rfl rfl
set_option maxRecDepth 20000 in
theorem tw_1120 : Cond.instanceMethod yX8_crossings ∈ gtbl := gt_mem 1120 rfl rfl
set_option maxRecDepth 20000 in
theorem tw_1121 : Cond.selects RX8 yX8_crossings yX8_crossings ∈ gtbl := gt_mem 1121 rfl rfl
set_option maxRecDepth 20000 in
theorem tw_1122 : Cond.code yX8_crossings cX8_crossings 2 (some .int) ∈ gtbl := gt_mem 1122 rfl rfl
set_option maxRecDepth 20000 in
theorem tw_1123 : Cond.methodLink RL 156 yX8_depth ∈ gtbl := gt_mem 1123 rfl rfl
set_option maxRecDepth 20000 in
theorem tw_1124 : Cond.instanceMethod yX8_depth ∈ gtbl := gt_mem 1124 rfl rfl
set_option maxRecDepth 20000 in
theorem tw_1125 : Cond.selects RX8 yX8_depth yX8_depth ∈ gtbl := gt_mem 1125 rfl rfl
set_option maxRecDepth 20000 in
theorem tw_1126 : Cond.code yX8_depth cX8_depth 5 (some .int) ∈ gtbl := gt_mem 1126 rfl rfl
set_option maxRecDepth 20000 in
theorem tw_1127 : Cond.methodLink RL 160 yX8_projectiveOrder ∈ gtbl := gt_mem 1127 rfl rfl
set_option maxRecDepth 20000 in
theorem tw_1128 : Cond.instanceMethod yX8_projectiveOrder ∈ gtbl := gt_mem 1128 rfl rfl
set_option maxRecDepth 20000 in
theorem tw_1129 : Cond.selects RX8 yX8_projectiveOrder yX8_projectiveOrder ∈ gtbl := gt_mem 1129 rfl rfl
set_option maxRecDepth 20000 in
theorem tw_1130 : Cond.code yX8_projectiveOrder cX8_projectiveOrder 3 (some .int) ∈ gtbl := gt_mem 1130 rfl rfl
set_option maxRecDepth 20000 in
theorem tw_1143 : Cond.methodLink RL 164 yX8_transitions ∈ gtbl := gt_mem 1143 rfl rfl
set_option maxRecDepth 20000 in
theorem tw_1144 : Cond.instanceMethod yX8_transitions ∈ gtbl := gt_mem 1144 rfl rfl
set_option maxRecDepth 20000 in
theorem tw_1145 : Cond.selects RX8 yX8_transitions yX8_transitions ∈ gtbl := gt_mem 1145 rfl rfl
set_option maxRecDepth 20000 in
theorem tw_1146 : Cond.code yX8_transitions cX8_transitions 2 (some .int) ∈ gtbl := gt_mem 1146 rfl rfl
set_option maxRecDepth 20000 in
theorem tw_1159 : Cond.methodLink RL 168 yX8_transition ∈ gtbl := gt_mem 1159 rfl rfl
set_option maxRecDepth 20000 in
theorem tw_1160 : Cond.instanceMethod yX8_transition ∈ gtbl := gt_mem 1160 rfl rfl
set_option maxRecDepth 20000 in
theorem tw_1161 : Cond.selects RX8 yX8_transition yX8_transition ∈ gtbl := gt_mem 1161 rfl rfl
set_option maxRecDepth 20000 in
theorem tw_1162 : Cond.code yX8_transition cX8_transition 3 (some .int) ∈ gtbl := gt_mem 1162 rfl rfl
set_option maxRecDepth 20000 in
theorem tw_1163 : Cond.methodLink RL 172 yX8_train ∈ gtbl := gt_mem 1163 rfl rfl
set_option maxRecDepth 20000 in
theorem tw_1164 : Cond.instanceMethod yX8_train ∈ gtbl := gt_mem 1164 rfl rfl
set_option maxRecDepth 20000 in
theorem tw_1165 : Cond.selects RX8 yX8_train yX8_train ∈ gtbl := gt_mem 1165 rfl rfl
set_option maxRecDepth 20000 in
theorem tw_1166 : Cond.code yX8_train cX8_train 2 (some .int) ∈ gtbl := gt_mem 1166 rfl rfl
set_option maxRecDepth 20000 in
theorem tw_1175 : Cond.methodLink RL 176 yX8_trainAll ∈ gtbl := gt_mem 1175 rfl rfl
set_option maxRecDepth 20000 in
theorem tw_1176 : Cond.instanceMethod yX8_trainAll ∈ gtbl := gt_mem 1176 rfl rfl
set_option maxRecDepth 20000 in
theorem tw_1177 : Cond.selects RX8 yX8_trainAll yX8_trainAll ∈ gtbl := gt_mem 1177 rfl rfl
set_option maxRecDepth 20000 in
theorem tw_1178 : Cond.code yX8_trainAll cX8_trainAll 6 (some .int) ∈ gtbl := gt_mem 1178 rfl rfl
set_option maxRecDepth 20000 in
theorem tw_1179 : Cond.methodLink RL 180 yX8_save ∈ gtbl := gt_mem 1179 rfl rfl
set_option maxRecDepth 20000 in
theorem tw_1180 : Cond.instanceMethod yX8_save ∈ gtbl := gt_mem 1180 rfl rfl
set_option maxRecDepth 20000 in
theorem tw_1181 : Cond.selects RX8 yX8_save yX8_save ∈ gtbl := gt_mem 1181 rfl rfl
set_option maxRecDepth 20000 in
theorem tw_1182 : Cond.code yX8_save cX8_save 3 (some .int) ∈ gtbl := gt_mem 1182 rfl rfl
set_option maxRecDepth 20000 in
theorem tw_1187 : Cond.methodLink RL 184 yX8_restore ∈ gtbl := gt_mem 1187 rfl rfl
set_option maxRecDepth 20000 in
theorem tw_1188 : Cond.instanceMethod yX8_restore ∈ gtbl := gt_mem 1188 rfl rfl
set_option maxRecDepth 20000 in
theorem tw_1189 : Cond.selects RX8 yX8_restore yX8_restore ∈ gtbl := gt_mem 1189 rfl rfl
set_option maxRecDepth 20000 in
theorem tw_1190 : Cond.code yX8_restore cX8_restore 3 (some .int) ∈ gtbl := gt_mem 1190 rfl rfl
set_option maxRecDepth 20000 in
theorem tw_1191 : Cond.methodLink RL 189 yX8_checksum ∈ gtbl := gt_mem 1191 rfl rfl
set_option maxRecDepth 20000 in
theorem tw_1192 : Cond.instanceMethod yX8_checksum ∈ gtbl := gt_mem 1192 rfl rfl
set_option maxRecDepth 20000 in
theorem tw_1193 : Cond.selects RX8 yX8_checksum yX8_checksum ∈ gtbl := gt_mem 1193 rfl rfl
set_option maxRecDepth 20000 in
theorem tw_1194 : Cond.code yX8_checksum cX8_checksum 5 (some .long) ∈ gtbl := gt_mem 1194 rfl rfl
theorem LRL_13 : LkV RL 13 yX7_append cX7_append 2 (some .int) 1 := ⟨⟨tw_265, tw_266, tw_267, tw_268, tw_1⟩, ⟨by decide, by decide, by decide +kernel⟩, by decide⟩
theorem LRL_17 : LkV RL 17 yX8_append cX8_append 2 (some .int) 1 := ⟨⟨tw_869, tw_870, tw_871, tw_872, tw_9⟩, ⟨by decide, by decide, by decide +kernel⟩, by decide⟩
theorem LRL_18 : LkV RL 18 yX7_clearText cX7_clearText 2 (some .int) 0 := ⟨⟨tw_275, tw_276, tw_277, tw_278, tw_1⟩, ⟨by decide, by decide, by decide +kernel⟩, by decide⟩
theorem LRL_22 : LkV RL 22 yX8_clearText cX8_clearText 2 (some .int) 0 := ⟨⟨tw_878, tw_879, tw_880, tw_881, tw_9⟩, ⟨by decide, by decide, by decide +kernel⟩, by decide⟩
theorem LRL_23 : LkV RL 23 yX7_faultPosition cX7_faultPosition 1 (some .int) 0 := ⟨⟨tw_279, tw_280, tw_281, tw_282, tw_1⟩, ⟨by decide, by decide, by decide +kernel⟩, by decide⟩
theorem LRL_26 : LkV RL 26 yX8_faultPosition cX8_faultPosition 1 (some .int) 0 := ⟨⟨tw_882, tw_883, tw_884, tw_885, tw_9⟩, ⟨by decide, by decide, by decide +kernel⟩, by decide⟩
theorem LRL_27 : LkV RL 27 yX7_read cX7_read 3 (some .int) 0 := ⟨⟨tw_304, tw_305, tw_306, tw_307, tw_1⟩, ⟨by decide, by decide, by decide +kernel⟩, by decide⟩
theorem LRL_30 : LkV RL 30 yX8_read cX8_read 3 (some .int) 0 := ⟨⟨tw_894, tw_895, tw_896, tw_897, tw_9⟩, ⟨by decide, by decide, by decide +kernel⟩, by decide⟩
theorem LRL_31 : LkV RL 31 yX7_remove cX7_remove 4 (some .int) 1 := ⟨⟨tw_318, tw_319, tw_320, tw_321, tw_1⟩, ⟨by decide, by decide, by decide +kernel⟩, by decide⟩
theorem LRL_34 : LkV RL 34 yX8_remove cX8_remove 4 (some .int) 1 := ⟨⟨tw_902, tw_903, tw_904, tw_905, tw_9⟩, ⟨by decide, by decide, by decide +kernel⟩, by decide⟩
theorem LRL_35 : LkV RL 35 yX7_sentences cX7_sentences 1 (some .int) 0 := ⟨⟨tw_331, tw_332, tw_333, tw_334, tw_1⟩, ⟨by decide, by decide, by decide +kernel⟩, by decide⟩
theorem LRL_38 : LkV RL 38 yX8_sentences cX8_sentences 1 (some .int) 0 := ⟨⟨tw_911, tw_912, tw_913, tw_914, tw_9⟩, ⟨by decide, by decide, by decide +kernel⟩, by decide⟩
theorem LRL_39 : LkV RL 39 yX7_words cX7_words 3 (some .int) 1 := ⟨⟨tw_335, tw_336, tw_337, tw_338, tw_1⟩, ⟨by decide, by decide, by decide +kernel⟩, by decide⟩
theorem LRL_42 : LkV RL 42 yX8_words cX8_words 2 (some .int) 1 := ⟨⟨tw_915, tw_916, tw_917, tw_918, tw_9⟩, ⟨by decide, by decide, by decide +kernel⟩, by decide⟩
theorem LRL_43 : LkV RL 43 yX7_tag cX7_tag 4 (some .int) 2 := ⟨⟨tw_339, tw_340, tw_341, tw_342, tw_1⟩, ⟨by decide, by decide, by decide +kernel⟩, by decide⟩
theorem LRL_47 : LkV RL 47 yX8_tag cX8_tag 3 (some .int) 2 := ⟨⟨tw_919, tw_920, tw_921, tw_922, tw_9⟩, ⟨by decide, by decide, by decide +kernel⟩, by decide⟩
theorem LRL_48 : LkV RL 48 yX7_annotatedHead cX7_annotatedHead 4 (some .int) 2 := ⟨⟨tw_347, tw_348, tw_349, tw_350, tw_1⟩, ⟨by decide, by decide, by decide +kernel⟩, by decide⟩
theorem LRL_51 : LkV RL 51 yX8_annotatedHead cX8_annotatedHead 3 (some .int) 2 := ⟨⟨tw_927, tw_928, tw_929, tw_930, tw_9⟩, ⟨by decide, by decide, by decide +kernel⟩, by decide⟩
theorem LRL_52 : LkV RL 52 yX7_annotate cX7_annotate 6 (some .int) 3 := ⟨⟨tw_351, tw_352, tw_353, tw_354, tw_1⟩, ⟨by decide, by decide, by decide +kernel⟩, by decide⟩
theorem LRL_56 : LkV RL 56 yX8_annotate cX8_annotate 6 (some .int) 3 := ⟨⟨tw_931, tw_932, tw_933, tw_934, tw_9⟩, ⟨by decide, by decide, by decide +kernel⟩, by decide⟩
theorem LRL_57 : LkV RL 57 yX7_acceptBest cX7_acceptBest 5 (some .int) 1 := ⟨⟨tw_361, tw_362, tw_363, tw_364, tw_1⟩, ⟨by decide, by decide, by decide +kernel⟩, by decide⟩
theorem LRL_60 : LkV RL 60 yX8_acceptBest cX8_acceptBest 4 (some .int) 1 := ⟨⟨tw_1093, tw_1094, tw_1095, tw_1096, tw_9⟩, ⟨by decide, by decide, by decide +kernel⟩, by decide⟩
theorem LRL_61 : LkV RL 61 yX7_setTagWeight cX7_setTagWeight 5 (some .int) 3 := ⟨⟨tw_455, tw_456, tw_457, tw_458, tw_1⟩, ⟨by decide, by decide, by decide +kernel⟩, by decide⟩
theorem LRL_64 : LkV RL 64 yX8_setTagWeight cX8_setTagWeight 4 (some .int) 3 := ⟨⟨tw_939, tw_940, tw_941, tw_942, tw_9⟩, ⟨by decide, by decide, by decide +kernel⟩, by decide⟩
theorem LRL_65 : LkV RL 65 yX7_setDistanceWeight cX7_setDistanceWeight 5 (some .int) 3 := ⟨⟨tw_465, tw_466, tw_467, tw_468, tw_1⟩, ⟨by decide, by decide, by decide +kernel⟩, by decide⟩
theorem LRL_68 : LkV RL 68 yX8_setDistanceWeight cX8_setDistanceWeight 4 (some .int) 3 := ⟨⟨tw_953, tw_954, tw_955, tw_956, tw_9⟩, ⟨by decide, by decide, by decide +kernel⟩, by decide⟩
theorem LRL_69 : LkV RL 69 yX7_setBias cX7_setBias 7 (some .int) 4 := ⟨⟨tw_472, tw_473, tw_474, tw_475, tw_1⟩, ⟨by decide, by decide, by decide +kernel⟩, by decide⟩
theorem LRL_73 : LkV RL 73 yX8_setBias cX8_setBias 7 (some .int) 4 := ⟨⟨tw_971, tw_972, tw_973, tw_974, tw_9⟩, ⟨by decide, by decide, by decide +kernel⟩, by decide⟩
theorem LRL_74 : LkV RL 74 yX7_constrain cX7_constrain 7 (some .int) 4 := ⟨⟨tw_476, tw_477, tw_478, tw_479, tw_1⟩, ⟨by decide, by decide, by decide +kernel⟩, by decide⟩
theorem LRL_77 : LkV RL 77 yX8_constrain cX8_constrain 7 (some .int) 4 := ⟨⟨tw_978, tw_979, tw_980, tw_981, tw_9⟩, ⟨by decide, by decide, by decide +kernel⟩, by decide⟩
theorem LRL_78 : LkV RL 78 yX7_setSingleRoot cX7_setSingleRoot 3 (some .int) 1 := ⟨⟨tw_480, tw_481, tw_482, tw_483, tw_1⟩, ⟨by decide, by decide, by decide +kernel⟩, by decide⟩
theorem LRL_82 : LkV RL 82 yX8_setSingleRoot cX8_setSingleRoot 3 (some .int) 1 := ⟨⟨tw_982, tw_983, tw_984, tw_985, tw_9⟩, ⟨by decide, by decide, by decide +kernel⟩, by decide⟩
theorem LRL_83 : LkV RL 83 yX7_setProjective cX7_setProjective 3 (some .int) 1 := ⟨⟨tw_484, tw_485, tw_486, tw_487, tw_1⟩, ⟨by decide, by decide, by decide +kernel⟩, by decide⟩
theorem LRL_86 : LkV RL 86 yX8_setProjective cX8_setProjective 3 (some .int) 1 := ⟨⟨tw_986, tw_987, tw_988, tw_989, tw_9⟩, ⟨by decide, by decide, by decide +kernel⟩, by decide⟩
theorem LRL_87 : LkV RL 87 yX7_setShift cX7_setShift 3 (some .int) 1 := ⟨⟨tw_488, tw_489, tw_490, tw_491, tw_1⟩, ⟨by decide, by decide, by decide +kernel⟩, by decide⟩
theorem LRL_90 : LkV RL 90 yX8_setShift cX8_setShift 3 (some .int) 1 := ⟨⟨tw_990, tw_991, tw_992, tw_993, tw_9⟩, ⟨by decide, by decide, by decide +kernel⟩, by decide⟩
theorem LRL_91 : LkV RL 91 yX7_tagWeight cX7_tagWeight 3 (some .int) 2 := ⟨⟨tw_492, tw_493, tw_494, tw_495, tw_1⟩, ⟨by decide, by decide, by decide +kernel⟩, by decide⟩
theorem LRL_94 : LkV RL 94 yX8_tagWeight cX8_tagWeight 3 (some .int) 2 := ⟨⟨tw_963, tw_964, tw_965, tw_966, tw_9⟩, ⟨by decide, by decide, by decide +kernel⟩, by decide⟩
theorem LRL_95 : LkV RL 95 yX7_distanceWeight cX7_distanceWeight 3 (some .int) 2 := ⟨⟨tw_496, tw_497, tw_498, tw_499, tw_1⟩, ⟨by decide, by decide, by decide +kernel⟩, by decide⟩
theorem LRL_98 : LkV RL 98 yX8_distanceWeight cX8_distanceWeight 3 (some .int) 2 := ⟨⟨tw_967, tw_968, tw_969, tw_970, tw_9⟩, ⟨by decide, by decide, by decide +kernel⟩, by decide⟩
theorem LRL_99 : LkV RL 99 yX7_score cX7_score 5 (some .int) 3 := ⟨⟨tw_500, tw_501, tw_502, tw_503, tw_1⟩, ⟨by decide, by decide, by decide +kernel⟩, by decide⟩
theorem LRL_102 : LkV RL 102 yX8_score cX8_score 4 (some .int) 3 := ⟨⟨tw_994, tw_995, tw_996, tw_997, tw_9⟩, ⟨by decide, by decide, by decide +kernel⟩, by decide⟩
theorem LRL_103 : LkV RL 103 yX7_bestScore cX7_bestScore 3 (some .int) 1 := ⟨⟨tw_504, tw_505, tw_506, tw_507, tw_1⟩, ⟨by decide, by decide, by decide +kernel⟩, by decide⟩
theorem LRL_106 : LkV RL 106 yX8_bestScore cX8_bestScore 2 (some .int) 1 := ⟨⟨tw_1013, tw_1014, tw_1015, tw_1016, tw_9⟩, ⟨by decide, by decide, by decide +kernel⟩, by decide⟩
theorem LRL_107 : LkV RL 107 yX7_bestHead cX7_bestHead 4 (some .int) 2 := ⟨⟨tw_515, tw_516, tw_517, tw_518, tw_1⟩, ⟨by decide, by decide, by decide +kernel⟩, by decide⟩
theorem LRL_110 : LkV RL 110 yX8_bestHead cX8_bestHead 3 (some .int) 2 := ⟨⟨tw_1061, tw_1062, tw_1063, tw_1064, tw_9⟩, ⟨by decide, by decide, by decide +kernel⟩, by decide⟩
theorem LRL_111 : LkV RL 111 yX7_rankedScore cX7_rankedScore 4 (some .int) 2 := ⟨⟨tw_519, tw_520, tw_521, tw_522, tw_1⟩, ⟨by decide, by decide, by decide +kernel⟩, by decide⟩
theorem LRL_114 : LkV RL 114 yX8_rankedScore cX8_rankedScore 3 (some .int) 2 := ⟨⟨tw_1065, tw_1066, tw_1067, tw_1068, tw_9⟩, ⟨by decide, by decide, by decide +kernel⟩, by decide⟩
theorem LRL_115 : LkV RL 115 yX7_rankedHead cX7_rankedHead 5 (some .int) 3 := ⟨⟨tw_523, tw_524, tw_525, tw_526, tw_1⟩, ⟨by decide, by decide, by decide +kernel⟩, by decide⟩
theorem LRL_118 : LkV RL 118 yX8_rankedHead cX8_rankedHead 4 (some .int) 3 := ⟨⟨tw_1069, tw_1070, tw_1071, tw_1072, tw_9⟩, ⟨by decide, by decide, by decide +kernel⟩, by decide⟩
theorem LRL_119 : LkV RL 119 yX7_regret cX7_regret 6 (some .int) 3 := ⟨⟨tw_527, tw_528, tw_529, tw_530, tw_1⟩, ⟨by decide, by decide, by decide +kernel⟩, by decide⟩
theorem LRL_122 : LkV RL 122 yX8_regret cX8_regret 5 (some .int) 3 := ⟨⟨tw_1073, tw_1074, tw_1075, tw_1076, tw_9⟩, ⟨by decide, by decide, by decide +kernel⟩, by decide⟩
theorem LRL_123 : LkV RL 123 yX7_margin cX7_margin 5 (some .int) 1 := ⟨⟨tw_535, tw_536, tw_537, tw_538, tw_1⟩, ⟨by decide, by decide, by decide +kernel⟩, by decide⟩
theorem LRL_126 : LkV RL 126 yX8_margin cX8_margin 4 (some .int) 1 := ⟨⟨tw_1077, tw_1078, tw_1079, tw_1080, tw_9⟩, ⟨by decide, by decide, by decide +kernel⟩, by decide⟩
theorem LRL_127 : LkV RL 127 yX7_correct cX7_correct 3 (some .int) 1 := ⟨⟨tw_543, tw_544, tw_545, tw_546, tw_1⟩, ⟨by decide, by decide, by decide +kernel⟩, by decide⟩
theorem LRL_130 : LkV RL 130 yX8_correct cX8_correct 2 (some .int) 1 := ⟨⟨tw_1081, tw_1082, tw_1083, tw_1084, tw_9⟩, ⟨by decide, by decide, by decide +kernel⟩, by decide⟩
theorem LRL_131 : LkV RL 131 yX7_treeCount cX7_treeCount 3 (some .int) 1 := ⟨⟨tw_547, tw_548, tw_549, tw_550, tw_1⟩, ⟨by decide, by decide, by decide +kernel⟩, by decide⟩
theorem LRL_134 : LkV RL 134 yX8_treeCount cX8_treeCount 2 (some .int) 1 := ⟨⟨tw_1089, tw_1090, tw_1091, tw_1092, tw_9⟩, ⟨by decide, by decide, by decide +kernel⟩, by decide⟩
theorem LRL_135 : LkV RL 135 yX7_weightSum cX7_weightSum 3 (some .long) 1 := ⟨⟨tw_594, tw_595, tw_596, tw_597, tw_1⟩, ⟨by decide, by decide, by decide +kernel⟩, by decide⟩
theorem LRL_139 : LkV RL 139 yX8_weightSum cX8_weightSum 2 (some .long) 1 := ⟨⟨tw_1097, tw_1098, tw_1099, tw_1100, tw_9⟩, ⟨by decide, by decide, by decide +kernel⟩, by decide⟩
theorem LRL_140 : LkV RL 140 yX7_chance cX7_chance 12 (some .long) 4 := ⟨⟨tw_603, tw_604, tw_605, tw_606, tw_1⟩, ⟨by decide, by decide, by decide +kernel⟩, by decide⟩
theorem LRL_144 : LkV RL 144 yX8_chance cX8_chance 13 (some .long) 4 := ⟨⟨tw_1102, tw_1103, tw_1104, tw_1105, tw_9⟩, ⟨by decide, by decide, by decide +kernel⟩, by decide⟩
theorem LRL_145 : LkV RL 145 yX7_riskHead cX7_riskHead 4 (some .int) 2 := ⟨⟨tw_627, tw_628, tw_629, tw_630, tw_1⟩, ⟨by decide, by decide, by decide +kernel⟩, by decide⟩
theorem LRL_148 : LkV RL 148 yX8_riskHead cX8_riskHead 3 (some .int) 2 := ⟨⟨tw_1107, tw_1108, tw_1109, tw_1110, tw_9⟩, ⟨by decide, by decide, by decide +kernel⟩, by decide⟩
theorem LRL_149 : LkV RL 149 yX7_crossings cX7_crossings 3 (some .int) 1 := ⟨⟨tw_631, tw_632, tw_633, tw_634, tw_1⟩, ⟨by decide, by decide, by decide +kernel⟩, by decide⟩
theorem LRL_152 : LkV RL 152 yX8_crossings cX8_crossings 2 (some .int) 1 := ⟨⟨tw_1119, tw_1120, tw_1121, tw_1122, tw_9⟩, ⟨by decide, by decide, by decide +kernel⟩, by decide⟩
theorem LRL_153 : LkV RL 153 yX7_depth cX7_depth 4 (some .int) 2 := ⟨⟨tw_639, tw_640, tw_641, tw_642, tw_1⟩, ⟨by decide, by decide, by decide +kernel⟩, by decide⟩
theorem LRL_156 : LkV RL 156 yX8_depth cX8_depth 5 (some .int) 2 := ⟨⟨tw_1123, tw_1124, tw_1125, tw_1126, tw_9⟩, ⟨by decide, by decide, by decide +kernel⟩, by decide⟩
theorem LRL_157 : LkV RL 157 yX7_projectiveOrder cX7_projectiveOrder 4 (some .int) 2 := ⟨⟨tw_643, tw_644, tw_645, tw_646, tw_1⟩, ⟨by decide, by decide, by decide +kernel⟩, by decide⟩
theorem LRL_160 : LkV RL 160 yX8_projectiveOrder cX8_projectiveOrder 3 (some .int) 2 := ⟨⟨tw_1127, tw_1128, tw_1129, tw_1130, tw_9⟩, ⟨by decide, by decide, by decide +kernel⟩, by decide⟩
theorem LRL_161 : LkV RL 161 yX7_transitions cX7_transitions 3 (some .int) 1 := ⟨⟨tw_658, tw_659, tw_660, tw_661, tw_1⟩, ⟨by decide, by decide, by decide +kernel⟩, by decide⟩
theorem LRL_164 : LkV RL 164 yX8_transitions cX8_transitions 2 (some .int) 1 := ⟨⟨tw_1143, tw_1144, tw_1145, tw_1146, tw_9⟩, ⟨by decide, by decide, by decide +kernel⟩, by decide⟩
theorem LRL_165 : LkV RL 165 yX7_transition cX7_transition 4 (some .int) 2 := ⟨⟨tw_682, tw_683, tw_684, tw_685, tw_1⟩, ⟨by decide, by decide, by decide +kernel⟩, by decide⟩
theorem LRL_168 : LkV RL 168 yX8_transition cX8_transition 3 (some .int) 2 := ⟨⟨tw_1159, tw_1160, tw_1161, tw_1162, tw_9⟩, ⟨by decide, by decide, by decide +kernel⟩, by decide⟩
theorem LRL_169 : LkV RL 169 yX7_train cX7_train 3 (some .int) 1 := ⟨⟨tw_686, tw_687, tw_688, tw_689, tw_1⟩, ⟨by decide, by decide, by decide +kernel⟩, by decide⟩
theorem LRL_172 : LkV RL 172 yX8_train cX8_train 2 (some .int) 1 := ⟨⟨tw_1163, tw_1164, tw_1165, tw_1166, tw_9⟩, ⟨by decide, by decide, by decide +kernel⟩, by decide⟩
theorem LRL_173 : LkV RL 173 yX7_trainAll cX7_trainAll 5 (some .int) 1 := ⟨⟨tw_703, tw_704, tw_705, tw_706, tw_1⟩, ⟨by decide, by decide, by decide +kernel⟩, by decide⟩
theorem LRL_176 : LkV RL 176 yX8_trainAll cX8_trainAll 6 (some .int) 1 := ⟨⟨tw_1175, tw_1176, tw_1177, tw_1178, tw_9⟩, ⟨by decide, by decide, by decide +kernel⟩, by decide⟩
theorem LRL_177 : LkV RL 177 yX7_save cX7_save 2 (some .int) 1 := ⟨⟨tw_707, tw_708, tw_709, tw_710, tw_1⟩, ⟨by decide, by decide, by decide +kernel⟩, by decide⟩
theorem LRL_180 : LkV RL 180 yX8_save cX8_save 3 (some .int) 1 := ⟨⟨tw_1179, tw_1180, tw_1181, tw_1182, tw_9⟩, ⟨by decide, by decide, by decide +kernel⟩, by decide⟩
theorem LRL_181 : LkV RL 181 yX7_restore cX7_restore 2 (some .int) 1 := ⟨⟨tw_720, tw_721, tw_722, tw_723, tw_1⟩, ⟨by decide, by decide, by decide +kernel⟩, by decide⟩
theorem LRL_184 : LkV RL 184 yX8_restore cX8_restore 3 (some .int) 1 := ⟨⟨tw_1187, tw_1188, tw_1189, tw_1190, tw_9⟩, ⟨by decide, by decide, by decide +kernel⟩, by decide⟩
theorem LRL_185 : LkV RL 185 yX7_checksum cX7_checksum 4 (some .long) 0 := ⟨⟨tw_724, tw_725, tw_726, tw_727, tw_1⟩, ⟨by decide, by decide, by decide +kernel⟩, by decide⟩
theorem LRL_189 : LkV RL 189 yX8_checksum cX8_checksum 5 (some .long) 0 := ⟨⟨tw_1191, tw_1192, tw_1193, tw_1194, tw_9⟩, ⟨by decide, by decide, by decide +kernel⟩, by decide⟩
def J_L_law_216 (L : Nat) (xs : Nat → Int32) (K : Unit) (c18 : (Int32 × St) → Prop) (u3 : Int32) (σ : St) : Prop := vp_in (u3 + 1) L ∧ (P_X7_append (xs (ix (u3 + 1))) σ (fun r5 s4 => vp_in (u3 + 1) L ∧ (P_X8_append (xs (ix (u3 + 1))) s4 (fun r8 s7 => (r5 = r8 → ∀ v9 : Int32, v9 = u3 + 5 → c18 (v9, s7)) ∧ (¬ (r5 = r8) → (False))))))
set_option maxHeartbeats 4000000 in
set_option maxRecDepth 100000 in
theorem J_L_law_216_w {κ : Kap} {K : Unit} {b L : Nat} {xs : Nat → Int32} {c18 : (Int32 × St) → Prop} (C : Ok κ RL cL_law 4 17) (hret : ∀ (pc : Nat) (loc : List (Nat × Value)) (σ : St), decode cL_law pc = .ok (.ireturn, 1) → GG κ pc loc [.int 1] σ) (hX : lawX κ b L xs) (u3 : Int32)     (σ : St) (hc18 : ∀ (u3 : Int32) (σ : St), c18 (u3, σ) → GG κ 18 [(0, .ref b), (1, .ref (kad κ 0)), (2, .ref (kad κ 204)), (3, .int u3)] [] σ) (hp : J_L_law_216 L xs K c18 u3 σ) : GG κ 216 [(0, .ref b), (1, .ref (kad κ 0)), (2, .ref (kad κ 204)), (3, .int u3)] [] σ := by
  unfold J_L_law_216 at hp
  refine x_aload_n 1 C rfl (dL_law_p0 22 rfl) ?_
  refine x_aload_n 0 C rfl (dL_law_p0 23 rfl) ?_
  refine x_iload_n 3 C rfl (dL_law_p0 24 rfl) ?_
  refine x_iconst (v := 1) C (by decide) (dL_law_p0 25 rfl) ?_
  refine x_iadd C (dL_law_p0 26 rfl) ?_
  obtain ⟨h3, hp⟩ := hp
  refine x_sld C hX h3 (dL_law_p0 27 rfl) ?_
  refine x_cvI (As := [.int (xs (ix (u3 + 1)))]) (st := []) C LRL_13 (ci := 7) rfl rfl (by decide) (by decide) (m_X7_append (kL κ) (kad κ) (kD κ) (kca κ) C.ado (xs (ix (u3 + 1)))  σ _ hp) rfl (by decide) rfl (Nat.le_of_ble_eq_true rfl) (dL_law_p0 28 rfl) (fun r5 s4 hp => ?_)
  refine x_aload_n 2 C rfl (dL_law_p0 29 rfl) ?_
  refine x_aload_n 0 C rfl (dL_law_p0 30 rfl) ?_
  refine x_iload_n 3 C rfl (dL_law_p0 31 rfl) ?_
  refine x_iconst (v := 1) C (by decide) (dL_law_p0 32 rfl) ?_
  refine x_iadd C (dL_law_p0 33 rfl) ?_
  obtain ⟨h6, hp⟩ := hp
  refine x_sld C hX h6 (dL_law_p0 34 rfl) ?_
  refine x_cvI (As := [.int (xs (ix (u3 + 1)))]) (st := [.int r5]) C LRL_17 (ci := 8) rfl rfl (by decide) (by decide) (m_X8_append (kL κ) (kad κ) (kD κ) (kca κ) C.ado (xs (ix (u3 + 1)))  s4 _ hp) rfl (by decide) rfl (Nat.le_of_ble_eq_true rfl) (dL_law_p0 35 rfl) (fun r8 s7 hp => ?_)
  refine x_icmp_eq (tgt := 1493) C (dL_law_p0 36 rfl) (by decide) (fun hc => ?_) (fun hc => ?_)
  · have hp := hp.1 hc
    obtain ⟨v9, ev9⟩ : ∃ z : Int32, z = u3 + 5 := ⟨_, rfl⟩
    have hp := hp v9 ev9
    refine x_iinc (v := v9) (loc' := [(3, .int v9), (0, .ref b), (1, .ref (kad κ 0)), (2, .ref (kad κ 204))]) 3 C rfl (by rw [ev9]; rfl) (by decide) rfl (dL_law_p25 23 rfl) ?_
    refine x_goto (tgt := 18) C (dL_law_p25 24 rfl) (by decide) ?_
    refine x_loc (loc' := [(0, .ref b), (1, .ref (kad κ 0)), (2, .ref (kad κ 204)), (3, .int v9)]) [1, 2, 3, 0] rfl ?_
    exact hc18 v9 s7 hp
  · have hp := hp.2 hc
    refine x_iconst (v := 0) C (by decide) (dL_law_p0 37 rfl) ?_
    exact hp.elim
def J_L_law_239 (L : Nat) (xs : Nat → Int32) (K : Unit) (c18 : (Int32 × St) → Prop) (u3 : Int32) (σ : St) : Prop := P_X7_clearText  σ (fun r11 s10 => P_X8_clearText  s10 (fun r13 s12 => (r11 = r13 → ∀ v14 : Int32, v14 = u3 + 5 → c18 (v14, s12)) ∧ (¬ (r11 = r13) → (False))))
set_option maxHeartbeats 4000000 in
set_option maxRecDepth 100000 in
theorem J_L_law_239_w {κ : Kap} {K : Unit} {b L : Nat} {xs : Nat → Int32} {c18 : (Int32 × St) → Prop} (C : Ok κ RL cL_law 4 17) (hret : ∀ (pc : Nat) (loc : List (Nat × Value)) (σ : St), decode cL_law pc = .ok (.ireturn, 1) → GG κ pc loc [.int 1] σ) (hX : lawX κ b L xs) (u3 : Int32)     (σ : St) (hc18 : ∀ (u3 : Int32) (σ : St), c18 (u3, σ) → GG κ 18 [(0, .ref b), (1, .ref (kad κ 0)), (2, .ref (kad κ 204)), (3, .int u3)] [] σ) (hp : J_L_law_239 L xs K c18 u3 σ) : GG κ 239 [(0, .ref b), (1, .ref (kad κ 0)), (2, .ref (kad κ 204)), (3, .int u3)] [] σ := by
  unfold J_L_law_239 at hp
  refine x_aload_n 1 C rfl (dL_law_p0 39 rfl) ?_
  refine x_cvI (As := []) (st := []) C LRL_18 (ci := 7) rfl rfl (by decide) (by decide) (m_X7_clearText (kL κ) (kad κ) (kD κ) (kca κ) C.ado   σ _ hp) rfl (by decide) rfl (Nat.le_of_ble_eq_true rfl) (dL_law_p1 0 rfl) (fun r11 s10 hp => ?_)
  refine x_aload_n 2 C rfl (dL_law_p1 1 rfl) ?_
  refine x_cvI (As := []) (st := [.int r11]) C LRL_22 (ci := 8) rfl rfl (by decide) (by decide) (m_X8_clearText (kL κ) (kad κ) (kD κ) (kca κ) C.ado   s10 _ hp) rfl (by decide) rfl (Nat.le_of_ble_eq_true rfl) (dL_law_p1 2 rfl) (fun r13 s12 hp => ?_)
  refine x_icmp_eq (tgt := 1493) C (dL_law_p1 3 rfl) (by decide) (fun hc => ?_) (fun hc => ?_)
  · have hp := hp.1 hc
    obtain ⟨v14, ev14⟩ : ∃ z : Int32, z = u3 + 5 := ⟨_, rfl⟩
    have hp := hp v14 ev14
    refine x_iinc (v := v14) (loc' := [(3, .int v14), (0, .ref b), (1, .ref (kad κ 0)), (2, .ref (kad κ 204))]) 3 C rfl (by rw [ev14]; rfl) (by decide) rfl (dL_law_p25 23 rfl) ?_
    refine x_goto (tgt := 18) C (dL_law_p25 24 rfl) (by decide) ?_
    refine x_loc (loc' := [(0, .ref b), (1, .ref (kad κ 0)), (2, .ref (kad κ 204)), (3, .int v14)]) [1, 2, 3, 0] rfl ?_
    exact hc18 v14 s12 hp
  · have hp := hp.2 hc
    refine x_iconst (v := 0) C (by decide) (dL_law_p1 4 rfl) ?_
    exact hp.elim
def J_L_law_252 (L : Nat) (xs : Nat → Int32) (K : Unit) (c18 : (Int32 × St) → Prop) (u3 : Int32) (σ : St) : Prop := P_X7_faultPosition  σ (fun r16 s15 => P_X8_faultPosition  s15 (fun r18 s17 => (r16 = r18 → ∀ v19 : Int32, v19 = u3 + 5 → c18 (v19, s17)) ∧ (¬ (r16 = r18) → (False))))
set_option maxHeartbeats 4000000 in
set_option maxRecDepth 100000 in
theorem J_L_law_252_w {κ : Kap} {K : Unit} {b L : Nat} {xs : Nat → Int32} {c18 : (Int32 × St) → Prop} (C : Ok κ RL cL_law 4 17) (hret : ∀ (pc : Nat) (loc : List (Nat × Value)) (σ : St), decode cL_law pc = .ok (.ireturn, 1) → GG κ pc loc [.int 1] σ) (hX : lawX κ b L xs) (u3 : Int32)     (σ : St) (hc18 : ∀ (u3 : Int32) (σ : St), c18 (u3, σ) → GG κ 18 [(0, .ref b), (1, .ref (kad κ 0)), (2, .ref (kad κ 204)), (3, .int u3)] [] σ) (hp : J_L_law_252 L xs K c18 u3 σ) : GG κ 252 [(0, .ref b), (1, .ref (kad κ 0)), (2, .ref (kad κ 204)), (3, .int u3)] [] σ := by
  unfold J_L_law_252 at hp
  refine x_aload_n 1 C rfl (dL_law_p1 6 rfl) ?_
  refine x_cvI (As := []) (st := []) C LRL_23 (ci := 7) rfl rfl (by decide) (by decide) (m_X7_faultPosition (kL κ) (kad κ) (kD κ) (kca κ) C.ado   σ _ hp) rfl (by decide) rfl (Nat.le_of_ble_eq_true rfl) (dL_law_p1 7 rfl) (fun r16 s15 hp => ?_)
  refine x_aload_n 2 C rfl (dL_law_p1 8 rfl) ?_
  refine x_cvI (As := []) (st := [.int r16]) C LRL_26 (ci := 8) rfl rfl (by decide) (by decide) (m_X8_faultPosition (kL κ) (kad κ) (kD κ) (kca κ) C.ado   s15 _ hp) rfl (by decide) rfl (Nat.le_of_ble_eq_true rfl) (dL_law_p1 9 rfl) (fun r18 s17 hp => ?_)
  refine x_icmp_eq (tgt := 1493) C (dL_law_p1 10 rfl) (by decide) (fun hc => ?_) (fun hc => ?_)
  · have hp := hp.1 hc
    obtain ⟨v19, ev19⟩ : ∃ z : Int32, z = u3 + 5 := ⟨_, rfl⟩
    have hp := hp v19 ev19
    refine x_iinc (v := v19) (loc' := [(3, .int v19), (0, .ref b), (1, .ref (kad κ 0)), (2, .ref (kad κ 204))]) 3 C rfl (by rw [ev19]; rfl) (by decide) rfl (dL_law_p25 23 rfl) ?_
    refine x_goto (tgt := 18) C (dL_law_p25 24 rfl) (by decide) ?_
    refine x_loc (loc' := [(0, .ref b), (1, .ref (kad κ 0)), (2, .ref (kad κ 204)), (3, .int v19)]) [1, 2, 3, 0] rfl ?_
    exact hc18 v19 s17 hp
  · have hp := hp.2 hc
    refine x_iconst (v := 0) C (by decide) (dL_law_p1 11 rfl) ?_
    exact hp.elim
def J_L_law_265 (L : Nat) (xs : Nat → Int32) (K : Unit) (c18 : (Int32 × St) → Prop) (u3 : Int32) (σ : St) : Prop := P_X7_read  σ (fun r21 s20 => P_X8_read  s20 (fun r23 s22 => (r21 = r23 → ∀ v24 : Int32, v24 = u3 + 5 → c18 (v24, s22)) ∧ (¬ (r21 = r23) → (False))))
set_option maxHeartbeats 4000000 in
set_option maxRecDepth 100000 in
theorem J_L_law_265_w {κ : Kap} {K : Unit} {b L : Nat} {xs : Nat → Int32} {c18 : (Int32 × St) → Prop} (C : Ok κ RL cL_law 4 17) (hret : ∀ (pc : Nat) (loc : List (Nat × Value)) (σ : St), decode cL_law pc = .ok (.ireturn, 1) → GG κ pc loc [.int 1] σ) (hX : lawX κ b L xs) (u3 : Int32)     (σ : St) (hc18 : ∀ (u3 : Int32) (σ : St), c18 (u3, σ) → GG κ 18 [(0, .ref b), (1, .ref (kad κ 0)), (2, .ref (kad κ 204)), (3, .int u3)] [] σ) (hp : J_L_law_265 L xs K c18 u3 σ) : GG κ 265 [(0, .ref b), (1, .ref (kad κ 0)), (2, .ref (kad κ 204)), (3, .int u3)] [] σ := by
  unfold J_L_law_265 at hp
  refine x_aload_n 1 C rfl (dL_law_p1 13 rfl) ?_
  refine x_cvI (As := []) (st := []) C LRL_27 (ci := 7) rfl rfl (by decide) (by decide) (m_X7_read (kL κ) (kad κ) (kD κ) (kca κ) C.ado   σ _ hp) rfl (by decide) rfl (Nat.le_of_ble_eq_true rfl) (dL_law_p1 14 rfl) (fun r21 s20 hp => ?_)
  refine x_aload_n 2 C rfl (dL_law_p1 15 rfl) ?_
  refine x_cvI (As := []) (st := [.int r21]) C LRL_30 (ci := 8) rfl rfl (by decide) (by decide) (m_X8_read (kL κ) (kad κ) (kD κ) (kca κ) C.ado   s20 _ hp) rfl (by decide) rfl (Nat.le_of_ble_eq_true rfl) (dL_law_p1 16 rfl) (fun r23 s22 hp => ?_)
  refine x_icmp_eq (tgt := 1493) C (dL_law_p1 17 rfl) (by decide) (fun hc => ?_) (fun hc => ?_)
  · have hp := hp.1 hc
    obtain ⟨v24, ev24⟩ : ∃ z : Int32, z = u3 + 5 := ⟨_, rfl⟩
    have hp := hp v24 ev24
    refine x_iinc (v := v24) (loc' := [(3, .int v24), (0, .ref b), (1, .ref (kad κ 0)), (2, .ref (kad κ 204))]) 3 C rfl (by rw [ev24]; rfl) (by decide) rfl (dL_law_p25 23 rfl) ?_
    refine x_goto (tgt := 18) C (dL_law_p25 24 rfl) (by decide) ?_
    refine x_loc (loc' := [(0, .ref b), (1, .ref (kad κ 0)), (2, .ref (kad κ 204)), (3, .int v24)]) [1, 2, 3, 0] rfl ?_
    exact hc18 v24 s22 hp
  · have hp := hp.2 hc
    refine x_iconst (v := 0) C (by decide) (dL_law_p1 18 rfl) ?_
    exact hp.elim
def J_L_law_278 (L : Nat) (xs : Nat → Int32) (K : Unit) (c18 : (Int32 × St) → Prop) (u3 : Int32) (σ : St) : Prop := vp_in (u3 + 1) L ∧ (P_X7_remove (xs (ix (u3 + 1))) σ (fun r27 s26 => vp_in (u3 + 1) L ∧ (P_X8_remove (xs (ix (u3 + 1))) s26 (fun r30 s29 => (r27 = r30 → ∀ v31 : Int32, v31 = u3 + 5 → c18 (v31, s29)) ∧ (¬ (r27 = r30) → (False))))))
set_option maxHeartbeats 4000000 in
set_option maxRecDepth 100000 in
theorem J_L_law_278_w {κ : Kap} {K : Unit} {b L : Nat} {xs : Nat → Int32} {c18 : (Int32 × St) → Prop} (C : Ok κ RL cL_law 4 17) (hret : ∀ (pc : Nat) (loc : List (Nat × Value)) (σ : St), decode cL_law pc = .ok (.ireturn, 1) → GG κ pc loc [.int 1] σ) (hX : lawX κ b L xs) (u3 : Int32)     (σ : St) (hc18 : ∀ (u3 : Int32) (σ : St), c18 (u3, σ) → GG κ 18 [(0, .ref b), (1, .ref (kad κ 0)), (2, .ref (kad κ 204)), (3, .int u3)] [] σ) (hp : J_L_law_278 L xs K c18 u3 σ) : GG κ 278 [(0, .ref b), (1, .ref (kad κ 0)), (2, .ref (kad κ 204)), (3, .int u3)] [] σ := by
  unfold J_L_law_278 at hp
  refine x_aload_n 1 C rfl (dL_law_p1 20 rfl) ?_
  refine x_aload_n 0 C rfl (dL_law_p1 21 rfl) ?_
  refine x_iload_n 3 C rfl (dL_law_p1 22 rfl) ?_
  refine x_iconst (v := 1) C (by decide) (dL_law_p1 23 rfl) ?_
  refine x_iadd C (dL_law_p1 24 rfl) ?_
  obtain ⟨h25, hp⟩ := hp
  refine x_sld C hX h25 (dL_law_p1 25 rfl) ?_
  refine x_cvI (As := [.int (xs (ix (u3 + 1)))]) (st := []) C LRL_31 (ci := 7) rfl rfl (by decide) (by decide) (m_X7_remove (kL κ) (kad κ) (kD κ) (kca κ) C.ado (xs (ix (u3 + 1)))  σ _ hp) rfl (by decide) rfl (Nat.le_of_ble_eq_true rfl) (dL_law_p1 26 rfl) (fun r27 s26 hp => ?_)
  refine x_aload_n 2 C rfl (dL_law_p1 27 rfl) ?_
  refine x_aload_n 0 C rfl (dL_law_p1 28 rfl) ?_
  refine x_iload_n 3 C rfl (dL_law_p1 29 rfl) ?_
  refine x_iconst (v := 1) C (by decide) (dL_law_p1 30 rfl) ?_
  refine x_iadd C (dL_law_p1 31 rfl) ?_
  obtain ⟨h28, hp⟩ := hp
  refine x_sld C hX h28 (dL_law_p1 32 rfl) ?_
  refine x_cvI (As := [.int (xs (ix (u3 + 1)))]) (st := [.int r27]) C LRL_34 (ci := 8) rfl rfl (by decide) (by decide) (m_X8_remove (kL κ) (kad κ) (kD κ) (kca κ) C.ado (xs (ix (u3 + 1)))  s26 _ hp) rfl (by decide) rfl (Nat.le_of_ble_eq_true rfl) (dL_law_p1 33 rfl) (fun r30 s29 hp => ?_)
  refine x_icmp_eq (tgt := 1493) C (dL_law_p1 34 rfl) (by decide) (fun hc => ?_) (fun hc => ?_)
  · have hp := hp.1 hc
    obtain ⟨v31, ev31⟩ : ∃ z : Int32, z = u3 + 5 := ⟨_, rfl⟩
    have hp := hp v31 ev31
    refine x_iinc (v := v31) (loc' := [(3, .int v31), (0, .ref b), (1, .ref (kad κ 0)), (2, .ref (kad κ 204))]) 3 C rfl (by rw [ev31]; rfl) (by decide) rfl (dL_law_p25 23 rfl) ?_
    refine x_goto (tgt := 18) C (dL_law_p25 24 rfl) (by decide) ?_
    refine x_loc (loc' := [(0, .ref b), (1, .ref (kad κ 0)), (2, .ref (kad κ 204)), (3, .int v31)]) [1, 2, 3, 0] rfl ?_
    exact hc18 v31 s29 hp
  · have hp := hp.2 hc
    refine x_iconst (v := 0) C (by decide) (dL_law_p1 35 rfl) ?_
    exact hp.elim
def J_L_law_301 (L : Nat) (xs : Nat → Int32) (K : Unit) (c18 : (Int32 × St) → Prop) (u3 : Int32) (σ : St) : Prop := P_X7_sentences  σ (fun r33 s32 => P_X8_sentences  s32 (fun r35 s34 => (r33 = r35 → ∀ v36 : Int32, v36 = u3 + 5 → c18 (v36, s34)) ∧ (¬ (r33 = r35) → (False))))
set_option maxHeartbeats 4000000 in
set_option maxRecDepth 100000 in
theorem J_L_law_301_w {κ : Kap} {K : Unit} {b L : Nat} {xs : Nat → Int32} {c18 : (Int32 × St) → Prop} (C : Ok κ RL cL_law 4 17) (hret : ∀ (pc : Nat) (loc : List (Nat × Value)) (σ : St), decode cL_law pc = .ok (.ireturn, 1) → GG κ pc loc [.int 1] σ) (hX : lawX κ b L xs) (u3 : Int32)     (σ : St) (hc18 : ∀ (u3 : Int32) (σ : St), c18 (u3, σ) → GG κ 18 [(0, .ref b), (1, .ref (kad κ 0)), (2, .ref (kad κ 204)), (3, .int u3)] [] σ) (hp : J_L_law_301 L xs K c18 u3 σ) : GG κ 301 [(0, .ref b), (1, .ref (kad κ 0)), (2, .ref (kad κ 204)), (3, .int u3)] [] σ := by
  unfold J_L_law_301 at hp
  refine x_aload_n 1 C rfl (dL_law_p1 37 rfl) ?_
  refine x_cvI (As := []) (st := []) C LRL_35 (ci := 7) rfl rfl (by decide) (by decide) (m_X7_sentences (kL κ) (kad κ) (kD κ) (kca κ) C.ado   σ _ hp) rfl (by decide) rfl (Nat.le_of_ble_eq_true rfl) (dL_law_p1 38 rfl) (fun r33 s32 hp => ?_)
  refine x_aload_n 2 C rfl (dL_law_p1 39 rfl) ?_
  refine x_cvI (As := []) (st := [.int r33]) C LRL_38 (ci := 8) rfl rfl (by decide) (by decide) (m_X8_sentences (kL κ) (kad κ) (kD κ) (kca κ) C.ado   s32 _ hp) rfl (by decide) rfl (Nat.le_of_ble_eq_true rfl) (dL_law_p2 0 rfl) (fun r35 s34 hp => ?_)
  refine x_icmp_eq (tgt := 1493) C (dL_law_p2 1 rfl) (by decide) (fun hc => ?_) (fun hc => ?_)
  · have hp := hp.1 hc
    obtain ⟨v36, ev36⟩ : ∃ z : Int32, z = u3 + 5 := ⟨_, rfl⟩
    have hp := hp v36 ev36
    refine x_iinc (v := v36) (loc' := [(3, .int v36), (0, .ref b), (1, .ref (kad κ 0)), (2, .ref (kad κ 204))]) 3 C rfl (by rw [ev36]; rfl) (by decide) rfl (dL_law_p25 23 rfl) ?_
    refine x_goto (tgt := 18) C (dL_law_p25 24 rfl) (by decide) ?_
    refine x_loc (loc' := [(0, .ref b), (1, .ref (kad κ 0)), (2, .ref (kad κ 204)), (3, .int v36)]) [1, 2, 3, 0] rfl ?_
    exact hc18 v36 s34 hp
  · have hp := hp.2 hc
    refine x_iconst (v := 0) C (by decide) (dL_law_p2 2 rfl) ?_
    exact hp.elim
def J_L_law_314 (L : Nat) (xs : Nat → Int32) (K : Unit) (c18 : (Int32 × St) → Prop) (u3 : Int32) (σ : St) : Prop := vp_in (u3 + 1) L ∧ (P_X7_words (xs (ix (u3 + 1))) σ (fun r39 s38 => vp_in (u3 + 1) L ∧ (P_X8_words (xs (ix (u3 + 1))) s38 (fun r42 s41 => (r39 = r42 → ∀ v43 : Int32, v43 = u3 + 5 → c18 (v43, s41)) ∧ (¬ (r39 = r42) → (False))))))
set_option maxHeartbeats 4000000 in
set_option maxRecDepth 100000 in
theorem J_L_law_314_w {κ : Kap} {K : Unit} {b L : Nat} {xs : Nat → Int32} {c18 : (Int32 × St) → Prop} (C : Ok κ RL cL_law 4 17) (hret : ∀ (pc : Nat) (loc : List (Nat × Value)) (σ : St), decode cL_law pc = .ok (.ireturn, 1) → GG κ pc loc [.int 1] σ) (hX : lawX κ b L xs) (u3 : Int32)     (σ : St) (hc18 : ∀ (u3 : Int32) (σ : St), c18 (u3, σ) → GG κ 18 [(0, .ref b), (1, .ref (kad κ 0)), (2, .ref (kad κ 204)), (3, .int u3)] [] σ) (hp : J_L_law_314 L xs K c18 u3 σ) : GG κ 314 [(0, .ref b), (1, .ref (kad κ 0)), (2, .ref (kad κ 204)), (3, .int u3)] [] σ := by
  unfold J_L_law_314 at hp
  refine x_aload_n 1 C rfl (dL_law_p2 4 rfl) ?_
  refine x_aload_n 0 C rfl (dL_law_p2 5 rfl) ?_
  refine x_iload_n 3 C rfl (dL_law_p2 6 rfl) ?_
  refine x_iconst (v := 1) C (by decide) (dL_law_p2 7 rfl) ?_
  refine x_iadd C (dL_law_p2 8 rfl) ?_
  obtain ⟨h37, hp⟩ := hp
  refine x_sld C hX h37 (dL_law_p2 9 rfl) ?_
  refine x_cvI (As := [.int (xs (ix (u3 + 1)))]) (st := []) C LRL_39 (ci := 7) rfl rfl (by decide) (by decide) (m_X7_words (kL κ) (kad κ) (kD κ) (kca κ) C.ado (xs (ix (u3 + 1)))  σ _ hp) rfl (by decide) rfl (Nat.le_of_ble_eq_true rfl) (dL_law_p2 10 rfl) (fun r39 s38 hp => ?_)
  refine x_aload_n 2 C rfl (dL_law_p2 11 rfl) ?_
  refine x_aload_n 0 C rfl (dL_law_p2 12 rfl) ?_
  refine x_iload_n 3 C rfl (dL_law_p2 13 rfl) ?_
  refine x_iconst (v := 1) C (by decide) (dL_law_p2 14 rfl) ?_
  refine x_iadd C (dL_law_p2 15 rfl) ?_
  obtain ⟨h40, hp⟩ := hp
  refine x_sld C hX h40 (dL_law_p2 16 rfl) ?_
  refine x_cvI (As := [.int (xs (ix (u3 + 1)))]) (st := [.int r39]) C LRL_42 (ci := 8) rfl rfl (by decide) (by decide) (m_X8_words (kL κ) (kad κ) (kD κ) (kca κ) C.ado (xs (ix (u3 + 1)))  s38 _ hp) rfl (by decide) rfl (Nat.le_of_ble_eq_true rfl) (dL_law_p2 17 rfl) (fun r42 s41 hp => ?_)
  refine x_icmp_eq (tgt := 1493) C (dL_law_p2 18 rfl) (by decide) (fun hc => ?_) (fun hc => ?_)
  · have hp := hp.1 hc
    obtain ⟨v43, ev43⟩ : ∃ z : Int32, z = u3 + 5 := ⟨_, rfl⟩
    have hp := hp v43 ev43
    refine x_iinc (v := v43) (loc' := [(3, .int v43), (0, .ref b), (1, .ref (kad κ 0)), (2, .ref (kad κ 204))]) 3 C rfl (by rw [ev43]; rfl) (by decide) rfl (dL_law_p25 23 rfl) ?_
    refine x_goto (tgt := 18) C (dL_law_p25 24 rfl) (by decide) ?_
    refine x_loc (loc' := [(0, .ref b), (1, .ref (kad κ 0)), (2, .ref (kad κ 204)), (3, .int v43)]) [1, 2, 3, 0] rfl ?_
    exact hc18 v43 s41 hp
  · have hp := hp.2 hc
    refine x_iconst (v := 0) C (by decide) (dL_law_p2 19 rfl) ?_
    exact hp.elim
def J_L_law_337 (L : Nat) (xs : Nat → Int32) (K : Unit) (c18 : (Int32 × St) → Prop) (u3 : Int32) (σ : St) : Prop := vp_in (u3 + 1) L ∧ (vp_in (u3 + 2) L ∧ (P_X7_tag (xs (ix (u3 + 1))) (xs (ix (u3 + 2))) σ (fun r47 s46 => vp_in (u3 + 1) L ∧ (vp_in (u3 + 2) L ∧ (P_X8_tag (xs (ix (u3 + 1))) (xs (ix (u3 + 2))) s46 (fun r51 s50 => (r47 = r51 → ∀ v52 : Int32, v52 = u3 + 5 → c18 (v52, s50)) ∧ (¬ (r47 = r51) → (False))))))))
set_option maxHeartbeats 4000000 in
set_option maxRecDepth 100000 in
theorem J_L_law_337_w {κ : Kap} {K : Unit} {b L : Nat} {xs : Nat → Int32} {c18 : (Int32 × St) → Prop} (C : Ok κ RL cL_law 4 17) (hret : ∀ (pc : Nat) (loc : List (Nat × Value)) (σ : St), decode cL_law pc = .ok (.ireturn, 1) → GG κ pc loc [.int 1] σ) (hX : lawX κ b L xs) (u3 : Int32)     (σ : St) (hc18 : ∀ (u3 : Int32) (σ : St), c18 (u3, σ) → GG κ 18 [(0, .ref b), (1, .ref (kad κ 0)), (2, .ref (kad κ 204)), (3, .int u3)] [] σ) (hp : J_L_law_337 L xs K c18 u3 σ) : GG κ 337 [(0, .ref b), (1, .ref (kad κ 0)), (2, .ref (kad κ 204)), (3, .int u3)] [] σ := by
  unfold J_L_law_337 at hp
  refine x_aload_n 1 C rfl (dL_law_p2 21 rfl) ?_
  refine x_aload_n 0 C rfl (dL_law_p2 22 rfl) ?_
  refine x_iload_n 3 C rfl (dL_law_p2 23 rfl) ?_
  refine x_iconst (v := 1) C (by decide) (dL_law_p2 24 rfl) ?_
  refine x_iadd C (dL_law_p2 25 rfl) ?_
  obtain ⟨h44, hp⟩ := hp
  refine x_sld C hX h44 (dL_law_p2 26 rfl) ?_
  refine x_aload_n 0 C rfl (dL_law_p2 27 rfl) ?_
  refine x_iload_n 3 C rfl (dL_law_p2 28 rfl) ?_
  refine x_iconst (v := 2) C (by decide) (dL_law_p2 29 rfl) ?_
  refine x_iadd C (dL_law_p2 30 rfl) ?_
  obtain ⟨h45, hp⟩ := hp
  refine x_sld C hX h45 (dL_law_p2 31 rfl) ?_
  refine x_cvI (As := [.int (xs (ix (u3 + 1))), .int (xs (ix (u3 + 2)))]) (st := []) C LRL_43 (ci := 7) rfl rfl (by decide) (by decide) (m_X7_tag (kL κ) (kad κ) (kD κ) (kca κ) C.ado (xs (ix (u3 + 1))) (xs (ix (u3 + 2)))  σ _ hp) rfl (by decide) rfl (Nat.le_of_ble_eq_true rfl) (dL_law_p2 32 rfl) (fun r47 s46 hp => ?_)
  refine x_aload_n 2 C rfl (dL_law_p2 33 rfl) ?_
  refine x_aload_n 0 C rfl (dL_law_p2 34 rfl) ?_
  refine x_iload_n 3 C rfl (dL_law_p2 35 rfl) ?_
  refine x_iconst (v := 1) C (by decide) (dL_law_p2 36 rfl) ?_
  refine x_iadd C (dL_law_p2 37 rfl) ?_
  obtain ⟨h48, hp⟩ := hp
  refine x_sld C hX h48 (dL_law_p2 38 rfl) ?_
  refine x_aload_n 0 C rfl (dL_law_p2 39 rfl) ?_
  refine x_iload_n 3 C rfl (dL_law_p3 0 rfl) ?_
  refine x_iconst (v := 2) C (by decide) (dL_law_p3 1 rfl) ?_
  refine x_iadd C (dL_law_p3 2 rfl) ?_
  obtain ⟨h49, hp⟩ := hp
  refine x_sld C hX h49 (dL_law_p3 3 rfl) ?_
  refine x_cvI (As := [.int (xs (ix (u3 + 1))), .int (xs (ix (u3 + 2)))]) (st := [.int r47]) C LRL_47 (ci := 8) rfl rfl (by decide) (by decide) (m_X8_tag (kL κ) (kad κ) (kD κ) (kca κ) C.ado (xs (ix (u3 + 1))) (xs (ix (u3 + 2)))  s46 _ hp) rfl (by decide) rfl (Nat.le_of_ble_eq_true rfl) (dL_law_p3 4 rfl) (fun r51 s50 hp => ?_)
  refine x_icmp_eq (tgt := 1493) C (dL_law_p3 5 rfl) (by decide) (fun hc => ?_) (fun hc => ?_)
  · have hp := hp.1 hc
    obtain ⟨v52, ev52⟩ : ∃ z : Int32, z = u3 + 5 := ⟨_, rfl⟩
    have hp := hp v52 ev52
    refine x_iinc (v := v52) (loc' := [(3, .int v52), (0, .ref b), (1, .ref (kad κ 0)), (2, .ref (kad κ 204))]) 3 C rfl (by rw [ev52]; rfl) (by decide) rfl (dL_law_p25 23 rfl) ?_
    refine x_goto (tgt := 18) C (dL_law_p25 24 rfl) (by decide) ?_
    refine x_loc (loc' := [(0, .ref b), (1, .ref (kad κ 0)), (2, .ref (kad κ 204)), (3, .int v52)]) [1, 2, 3, 0] rfl ?_
    exact hc18 v52 s50 hp
  · have hp := hp.2 hc
    refine x_iconst (v := 0) C (by decide) (dL_law_p3 6 rfl) ?_
    exact hp.elim
def J_L_law_370 (L : Nat) (xs : Nat → Int32) (K : Unit) (c18 : (Int32 × St) → Prop) (u3 : Int32) (σ : St) : Prop := vp_in (u3 + 1) L ∧ (vp_in (u3 + 2) L ∧ (P_X7_annotatedHead (xs (ix (u3 + 1))) (xs (ix (u3 + 2))) σ (fun r56 s55 => vp_in (u3 + 1) L ∧ (vp_in (u3 + 2) L ∧ (P_X8_annotatedHead (xs (ix (u3 + 1))) (xs (ix (u3 + 2))) s55 (fun r60 s59 => (r56 = r60 → ∀ v61 : Int32, v61 = u3 + 5 → c18 (v61, s59)) ∧ (¬ (r56 = r60) → (False))))))))
set_option maxHeartbeats 4000000 in
set_option maxRecDepth 100000 in
theorem J_L_law_370_w {κ : Kap} {K : Unit} {b L : Nat} {xs : Nat → Int32} {c18 : (Int32 × St) → Prop} (C : Ok κ RL cL_law 4 17) (hret : ∀ (pc : Nat) (loc : List (Nat × Value)) (σ : St), decode cL_law pc = .ok (.ireturn, 1) → GG κ pc loc [.int 1] σ) (hX : lawX κ b L xs) (u3 : Int32)     (σ : St) (hc18 : ∀ (u3 : Int32) (σ : St), c18 (u3, σ) → GG κ 18 [(0, .ref b), (1, .ref (kad κ 0)), (2, .ref (kad κ 204)), (3, .int u3)] [] σ) (hp : J_L_law_370 L xs K c18 u3 σ) : GG κ 370 [(0, .ref b), (1, .ref (kad κ 0)), (2, .ref (kad κ 204)), (3, .int u3)] [] σ := by
  unfold J_L_law_370 at hp
  refine x_aload_n 1 C rfl (dL_law_p3 8 rfl) ?_
  refine x_aload_n 0 C rfl (dL_law_p3 9 rfl) ?_
  refine x_iload_n 3 C rfl (dL_law_p3 10 rfl) ?_
  refine x_iconst (v := 1) C (by decide) (dL_law_p3 11 rfl) ?_
  refine x_iadd C (dL_law_p3 12 rfl) ?_
  obtain ⟨h53, hp⟩ := hp
  refine x_sld C hX h53 (dL_law_p3 13 rfl) ?_
  refine x_aload_n 0 C rfl (dL_law_p3 14 rfl) ?_
  refine x_iload_n 3 C rfl (dL_law_p3 15 rfl) ?_
  refine x_iconst (v := 2) C (by decide) (dL_law_p3 16 rfl) ?_
  refine x_iadd C (dL_law_p3 17 rfl) ?_
  obtain ⟨h54, hp⟩ := hp
  refine x_sld C hX h54 (dL_law_p3 18 rfl) ?_
  refine x_cvI (As := [.int (xs (ix (u3 + 1))), .int (xs (ix (u3 + 2)))]) (st := []) C LRL_48 (ci := 7) rfl rfl (by decide) (by decide) (m_X7_annotatedHead (kL κ) (kad κ) (kD κ) (kca κ) C.ado (xs (ix (u3 + 1))) (xs (ix (u3 + 2)))  σ _ hp) rfl (by decide) rfl (Nat.le_of_ble_eq_true rfl) (dL_law_p3 19 rfl) (fun r56 s55 hp => ?_)
  refine x_aload_n 2 C rfl (dL_law_p3 20 rfl) ?_
  refine x_aload_n 0 C rfl (dL_law_p3 21 rfl) ?_
  refine x_iload_n 3 C rfl (dL_law_p3 22 rfl) ?_
  refine x_iconst (v := 1) C (by decide) (dL_law_p3 23 rfl) ?_
  refine x_iadd C (dL_law_p3 24 rfl) ?_
  obtain ⟨h57, hp⟩ := hp
  refine x_sld C hX h57 (dL_law_p3 25 rfl) ?_
  refine x_aload_n 0 C rfl (dL_law_p3 26 rfl) ?_
  refine x_iload_n 3 C rfl (dL_law_p3 27 rfl) ?_
  refine x_iconst (v := 2) C (by decide) (dL_law_p3 28 rfl) ?_
  refine x_iadd C (dL_law_p3 29 rfl) ?_
  obtain ⟨h58, hp⟩ := hp
  refine x_sld C hX h58 (dL_law_p3 30 rfl) ?_
  refine x_cvI (As := [.int (xs (ix (u3 + 1))), .int (xs (ix (u3 + 2)))]) (st := [.int r56]) C LRL_51 (ci := 8) rfl rfl (by decide) (by decide) (m_X8_annotatedHead (kL κ) (kad κ) (kD κ) (kca κ) C.ado (xs (ix (u3 + 1))) (xs (ix (u3 + 2)))  s55 _ hp) rfl (by decide) rfl (Nat.le_of_ble_eq_true rfl) (dL_law_p3 31 rfl) (fun r60 s59 hp => ?_)
  refine x_icmp_eq (tgt := 1493) C (dL_law_p3 32 rfl) (by decide) (fun hc => ?_) (fun hc => ?_)
  · have hp := hp.1 hc
    obtain ⟨v61, ev61⟩ : ∃ z : Int32, z = u3 + 5 := ⟨_, rfl⟩
    have hp := hp v61 ev61
    refine x_iinc (v := v61) (loc' := [(3, .int v61), (0, .ref b), (1, .ref (kad κ 0)), (2, .ref (kad κ 204))]) 3 C rfl (by rw [ev61]; rfl) (by decide) rfl (dL_law_p25 23 rfl) ?_
    refine x_goto (tgt := 18) C (dL_law_p25 24 rfl) (by decide) ?_
    refine x_loc (loc' := [(0, .ref b), (1, .ref (kad κ 0)), (2, .ref (kad κ 204)), (3, .int v61)]) [1, 2, 3, 0] rfl ?_
    exact hc18 v61 s59 hp
  · have hp := hp.2 hc
    refine x_iconst (v := 0) C (by decide) (dL_law_p3 33 rfl) ?_
    exact hp.elim
def J_L_law_403 (L : Nat) (xs : Nat → Int32) (K : Unit) (c18 : (Int32 × St) → Prop) (u3 : Int32) (σ : St) : Prop := vp_in (u3 + 1) L ∧ (vp_in (u3 + 2) L ∧ (vp_in (u3 + 3) L ∧ (P_X7_annotate (xs (ix (u3 + 1))) (xs (ix (u3 + 2))) (xs (ix (u3 + 3))) σ (fun r66 s65 => vp_in (u3 + 1) L ∧ (vp_in (u3 + 2) L ∧ (vp_in (u3 + 3) L ∧ (P_X8_annotate (xs (ix (u3 + 1))) (xs (ix (u3 + 2))) (xs (ix (u3 + 3))) s65 (fun r71 s70 => (r66 = r71 → ∀ v72 : Int32, v72 = u3 + 5 → c18 (v72, s70)) ∧ (¬ (r66 = r71) → (False))))))))))
set_option maxHeartbeats 4000000 in
set_option maxRecDepth 100000 in
theorem J_L_law_403_w {κ : Kap} {K : Unit} {b L : Nat} {xs : Nat → Int32} {c18 : (Int32 × St) → Prop} (C : Ok κ RL cL_law 4 17) (hret : ∀ (pc : Nat) (loc : List (Nat × Value)) (σ : St), decode cL_law pc = .ok (.ireturn, 1) → GG κ pc loc [.int 1] σ) (hX : lawX κ b L xs) (u3 : Int32)     (σ : St) (hc18 : ∀ (u3 : Int32) (σ : St), c18 (u3, σ) → GG κ 18 [(0, .ref b), (1, .ref (kad κ 0)), (2, .ref (kad κ 204)), (3, .int u3)] [] σ) (hp : J_L_law_403 L xs K c18 u3 σ) : GG κ 403 [(0, .ref b), (1, .ref (kad κ 0)), (2, .ref (kad κ 204)), (3, .int u3)] [] σ := by
  unfold J_L_law_403 at hp
  refine x_aload_n 1 C rfl (dL_law_p3 35 rfl) ?_
  refine x_aload_n 0 C rfl (dL_law_p3 36 rfl) ?_
  refine x_iload_n 3 C rfl (dL_law_p3 37 rfl) ?_
  refine x_iconst (v := 1) C (by decide) (dL_law_p3 38 rfl) ?_
  refine x_iadd C (dL_law_p3 39 rfl) ?_
  obtain ⟨h62, hp⟩ := hp
  refine x_sld C hX h62 (dL_law_p4 0 rfl) ?_
  refine x_aload_n 0 C rfl (dL_law_p4 1 rfl) ?_
  refine x_iload_n 3 C rfl (dL_law_p4 2 rfl) ?_
  refine x_iconst (v := 2) C (by decide) (dL_law_p4 3 rfl) ?_
  refine x_iadd C (dL_law_p4 4 rfl) ?_
  obtain ⟨h63, hp⟩ := hp
  refine x_sld C hX h63 (dL_law_p4 5 rfl) ?_
  refine x_aload_n 0 C rfl (dL_law_p4 6 rfl) ?_
  refine x_iload_n 3 C rfl (dL_law_p4 7 rfl) ?_
  refine x_iconst (v := 3) C (by decide) (dL_law_p4 8 rfl) ?_
  refine x_iadd C (dL_law_p4 9 rfl) ?_
  obtain ⟨h64, hp⟩ := hp
  refine x_sld C hX h64 (dL_law_p4 10 rfl) ?_
  refine x_cvI (As := [.int (xs (ix (u3 + 1))), .int (xs (ix (u3 + 2))), .int (xs (ix (u3 + 3)))]) (st := []) C LRL_52 (ci := 7) rfl rfl (by decide) (by decide) (m_X7_annotate (kL κ) (kad κ) (kD κ) (kca κ) C.ado (xs (ix (u3 + 1))) (xs (ix (u3 + 2))) (xs (ix (u3 + 3)))  σ _ hp) rfl (by decide) rfl (Nat.le_of_ble_eq_true rfl) (dL_law_p4 11 rfl) (fun r66 s65 hp => ?_)
  refine x_aload_n 2 C rfl (dL_law_p4 12 rfl) ?_
  refine x_aload_n 0 C rfl (dL_law_p4 13 rfl) ?_
  refine x_iload_n 3 C rfl (dL_law_p4 14 rfl) ?_
  refine x_iconst (v := 1) C (by decide) (dL_law_p4 15 rfl) ?_
  refine x_iadd C (dL_law_p4 16 rfl) ?_
  obtain ⟨h67, hp⟩ := hp
  refine x_sld C hX h67 (dL_law_p4 17 rfl) ?_
  refine x_aload_n 0 C rfl (dL_law_p4 18 rfl) ?_
  refine x_iload_n 3 C rfl (dL_law_p4 19 rfl) ?_
  refine x_iconst (v := 2) C (by decide) (dL_law_p4 20 rfl) ?_
  refine x_iadd C (dL_law_p4 21 rfl) ?_
  obtain ⟨h68, hp⟩ := hp
  refine x_sld C hX h68 (dL_law_p4 22 rfl) ?_
  refine x_aload_n 0 C rfl (dL_law_p4 23 rfl) ?_
  refine x_iload_n 3 C rfl (dL_law_p4 24 rfl) ?_
  refine x_iconst (v := 3) C (by decide) (dL_law_p4 25 rfl) ?_
  refine x_iadd C (dL_law_p4 26 rfl) ?_
  obtain ⟨h69, hp⟩ := hp
  refine x_sld C hX h69 (dL_law_p4 27 rfl) ?_
  refine x_cvI (As := [.int (xs (ix (u3 + 1))), .int (xs (ix (u3 + 2))), .int (xs (ix (u3 + 3)))]) (st := [.int r66]) C LRL_56 (ci := 8) rfl rfl (by decide) (by decide) (m_X8_annotate (kL κ) (kad κ) (kD κ) (kca κ) C.ado (xs (ix (u3 + 1))) (xs (ix (u3 + 2))) (xs (ix (u3 + 3)))  s65 _ hp) rfl (by decide) rfl (Nat.le_of_ble_eq_true rfl) (dL_law_p4 28 rfl) (fun r71 s70 hp => ?_)
  refine x_icmp_eq (tgt := 1493) C (dL_law_p4 29 rfl) (by decide) (fun hc => ?_) (fun hc => ?_)
  · have hp := hp.1 hc
    obtain ⟨v72, ev72⟩ : ∃ z : Int32, z = u3 + 5 := ⟨_, rfl⟩
    have hp := hp v72 ev72
    refine x_iinc (v := v72) (loc' := [(3, .int v72), (0, .ref b), (1, .ref (kad κ 0)), (2, .ref (kad κ 204))]) 3 C rfl (by rw [ev72]; rfl) (by decide) rfl (dL_law_p25 23 rfl) ?_
    refine x_goto (tgt := 18) C (dL_law_p25 24 rfl) (by decide) ?_
    refine x_loc (loc' := [(0, .ref b), (1, .ref (kad κ 0)), (2, .ref (kad κ 204)), (3, .int v72)]) [1, 2, 3, 0] rfl ?_
    exact hc18 v72 s70 hp
  · have hp := hp.2 hc
    refine x_iconst (v := 0) C (by decide) (dL_law_p4 30 rfl) ?_
    exact hp.elim
def J_L_law_446 (L : Nat) (xs : Nat → Int32) (K : Unit) (c18 : (Int32 × St) → Prop) (u3 : Int32) (σ : St) : Prop := vp_in (u3 + 1) L ∧ (P_X7_acceptBest (xs (ix (u3 + 1))) σ (fun r75 s74 => vp_in (u3 + 1) L ∧ (P_X8_acceptBest (xs (ix (u3 + 1))) s74 (fun r78 s77 => (r75 = r78 → ∀ v79 : Int32, v79 = u3 + 5 → c18 (v79, s77)) ∧ (¬ (r75 = r78) → (False))))))
set_option maxHeartbeats 4000000 in
set_option maxRecDepth 100000 in
theorem J_L_law_446_w {κ : Kap} {K : Unit} {b L : Nat} {xs : Nat → Int32} {c18 : (Int32 × St) → Prop} (C : Ok κ RL cL_law 4 17) (hret : ∀ (pc : Nat) (loc : List (Nat × Value)) (σ : St), decode cL_law pc = .ok (.ireturn, 1) → GG κ pc loc [.int 1] σ) (hX : lawX κ b L xs) (u3 : Int32)     (σ : St) (hc18 : ∀ (u3 : Int32) (σ : St), c18 (u3, σ) → GG κ 18 [(0, .ref b), (1, .ref (kad κ 0)), (2, .ref (kad κ 204)), (3, .int u3)] [] σ) (hp : J_L_law_446 L xs K c18 u3 σ) : GG κ 446 [(0, .ref b), (1, .ref (kad κ 0)), (2, .ref (kad κ 204)), (3, .int u3)] [] σ := by
  unfold J_L_law_446 at hp
  refine x_aload_n 1 C rfl (dL_law_p4 32 rfl) ?_
  refine x_aload_n 0 C rfl (dL_law_p4 33 rfl) ?_
  refine x_iload_n 3 C rfl (dL_law_p4 34 rfl) ?_
  refine x_iconst (v := 1) C (by decide) (dL_law_p4 35 rfl) ?_
  refine x_iadd C (dL_law_p4 36 rfl) ?_
  obtain ⟨h73, hp⟩ := hp
  refine x_sld C hX h73 (dL_law_p4 37 rfl) ?_
  refine x_cvI (As := [.int (xs (ix (u3 + 1)))]) (st := []) C LRL_57 (ci := 7) rfl rfl (by decide) (by decide) (m_X7_acceptBest (kL κ) (kad κ) (kD κ) (kca κ) C.ado (xs (ix (u3 + 1)))  σ _ hp) rfl (by decide) rfl (Nat.le_of_ble_eq_true rfl) (dL_law_p4 38 rfl) (fun r75 s74 hp => ?_)
  refine x_aload_n 2 C rfl (dL_law_p4 39 rfl) ?_
  refine x_aload_n 0 C rfl (dL_law_p5 0 rfl) ?_
  refine x_iload_n 3 C rfl (dL_law_p5 1 rfl) ?_
  refine x_iconst (v := 1) C (by decide) (dL_law_p5 2 rfl) ?_
  refine x_iadd C (dL_law_p5 3 rfl) ?_
  obtain ⟨h76, hp⟩ := hp
  refine x_sld C hX h76 (dL_law_p5 4 rfl) ?_
  refine x_cvI (As := [.int (xs (ix (u3 + 1)))]) (st := [.int r75]) C LRL_60 (ci := 8) rfl rfl (by decide) (by decide) (m_X8_acceptBest (kL κ) (kad κ) (kD κ) (kca κ) C.ado (xs (ix (u3 + 1)))  s74 _ hp) rfl (by decide) rfl (Nat.le_of_ble_eq_true rfl) (dL_law_p5 5 rfl) (fun r78 s77 hp => ?_)
  refine x_icmp_eq (tgt := 1493) C (dL_law_p5 6 rfl) (by decide) (fun hc => ?_) (fun hc => ?_)
  · have hp := hp.1 hc
    obtain ⟨v79, ev79⟩ : ∃ z : Int32, z = u3 + 5 := ⟨_, rfl⟩
    have hp := hp v79 ev79
    refine x_iinc (v := v79) (loc' := [(3, .int v79), (0, .ref b), (1, .ref (kad κ 0)), (2, .ref (kad κ 204))]) 3 C rfl (by rw [ev79]; rfl) (by decide) rfl (dL_law_p25 23 rfl) ?_
    refine x_goto (tgt := 18) C (dL_law_p25 24 rfl) (by decide) ?_
    refine x_loc (loc' := [(0, .ref b), (1, .ref (kad κ 0)), (2, .ref (kad κ 204)), (3, .int v79)]) [1, 2, 3, 0] rfl ?_
    exact hc18 v79 s77 hp
  · have hp := hp.2 hc
    refine x_iconst (v := 0) C (by decide) (dL_law_p5 7 rfl) ?_
    exact hp.elim
def J_L_law_469 (L : Nat) (xs : Nat → Int32) (K : Unit) (c18 : (Int32 × St) → Prop) (u3 : Int32) (σ : St) : Prop := vp_in (u3 + 1) L ∧ (vp_in (u3 + 2) L ∧ (vp_in (u3 + 3) L ∧ (P_X7_setTagWeight (xs (ix (u3 + 1))) (xs (ix (u3 + 2))) (xs (ix (u3 + 3))) σ (fun r84 s83 => vp_in (u3 + 1) L ∧ (vp_in (u3 + 2) L ∧ (vp_in (u3 + 3) L ∧ (P_X8_setTagWeight (xs (ix (u3 + 1))) (xs (ix (u3 + 2))) (xs (ix (u3 + 3))) s83 (fun r89 s88 => (r84 = r89 → ∀ v90 : Int32, v90 = u3 + 5 → c18 (v90, s88)) ∧ (¬ (r84 = r89) → (False))))))))))
set_option maxHeartbeats 4000000 in
set_option maxRecDepth 100000 in
theorem J_L_law_469_w {κ : Kap} {K : Unit} {b L : Nat} {xs : Nat → Int32} {c18 : (Int32 × St) → Prop} (C : Ok κ RL cL_law 4 17) (hret : ∀ (pc : Nat) (loc : List (Nat × Value)) (σ : St), decode cL_law pc = .ok (.ireturn, 1) → GG κ pc loc [.int 1] σ) (hX : lawX κ b L xs) (u3 : Int32)     (σ : St) (hc18 : ∀ (u3 : Int32) (σ : St), c18 (u3, σ) → GG κ 18 [(0, .ref b), (1, .ref (kad κ 0)), (2, .ref (kad κ 204)), (3, .int u3)] [] σ) (hp : J_L_law_469 L xs K c18 u3 σ) : GG κ 469 [(0, .ref b), (1, .ref (kad κ 0)), (2, .ref (kad κ 204)), (3, .int u3)] [] σ := by
  unfold J_L_law_469 at hp
  refine x_aload_n 1 C rfl (dL_law_p5 9 rfl) ?_
  refine x_aload_n 0 C rfl (dL_law_p5 10 rfl) ?_
  refine x_iload_n 3 C rfl (dL_law_p5 11 rfl) ?_
  refine x_iconst (v := 1) C (by decide) (dL_law_p5 12 rfl) ?_
  refine x_iadd C (dL_law_p5 13 rfl) ?_
  obtain ⟨h80, hp⟩ := hp
  refine x_sld C hX h80 (dL_law_p5 14 rfl) ?_
  refine x_aload_n 0 C rfl (dL_law_p5 15 rfl) ?_
  refine x_iload_n 3 C rfl (dL_law_p5 16 rfl) ?_
  refine x_iconst (v := 2) C (by decide) (dL_law_p5 17 rfl) ?_
  refine x_iadd C (dL_law_p5 18 rfl) ?_
  obtain ⟨h81, hp⟩ := hp
  refine x_sld C hX h81 (dL_law_p5 19 rfl) ?_
  refine x_aload_n 0 C rfl (dL_law_p5 20 rfl) ?_
  refine x_iload_n 3 C rfl (dL_law_p5 21 rfl) ?_
  refine x_iconst (v := 3) C (by decide) (dL_law_p5 22 rfl) ?_
  refine x_iadd C (dL_law_p5 23 rfl) ?_
  obtain ⟨h82, hp⟩ := hp
  refine x_sld C hX h82 (dL_law_p5 24 rfl) ?_
  refine x_cvI (As := [.int (xs (ix (u3 + 1))), .int (xs (ix (u3 + 2))), .int (xs (ix (u3 + 3)))]) (st := []) C LRL_61 (ci := 7) rfl rfl (by decide) (by decide) (m_X7_setTagWeight (kL κ) (kad κ) (kD κ) (kca κ) C.ado (xs (ix (u3 + 1))) (xs (ix (u3 + 2))) (xs (ix (u3 + 3)))  σ _ hp) rfl (by decide) rfl (Nat.le_of_ble_eq_true rfl) (dL_law_p5 25 rfl) (fun r84 s83 hp => ?_)
  refine x_aload_n 2 C rfl (dL_law_p5 26 rfl) ?_
  refine x_aload_n 0 C rfl (dL_law_p5 27 rfl) ?_
  refine x_iload_n 3 C rfl (dL_law_p5 28 rfl) ?_
  refine x_iconst (v := 1) C (by decide) (dL_law_p5 29 rfl) ?_
  refine x_iadd C (dL_law_p5 30 rfl) ?_
  obtain ⟨h85, hp⟩ := hp
  refine x_sld C hX h85 (dL_law_p5 31 rfl) ?_
  refine x_aload_n 0 C rfl (dL_law_p5 32 rfl) ?_
  refine x_iload_n 3 C rfl (dL_law_p5 33 rfl) ?_
  refine x_iconst (v := 2) C (by decide) (dL_law_p5 34 rfl) ?_
  refine x_iadd C (dL_law_p5 35 rfl) ?_
  obtain ⟨h86, hp⟩ := hp
  refine x_sld C hX h86 (dL_law_p5 36 rfl) ?_
  refine x_aload_n 0 C rfl (dL_law_p5 37 rfl) ?_
  refine x_iload_n 3 C rfl (dL_law_p5 38 rfl) ?_
  refine x_iconst (v := 3) C (by decide) (dL_law_p5 39 rfl) ?_
  refine x_iadd C (dL_law_p6 0 rfl) ?_
  obtain ⟨h87, hp⟩ := hp
  refine x_sld C hX h87 (dL_law_p6 1 rfl) ?_
  refine x_cvI (As := [.int (xs (ix (u3 + 1))), .int (xs (ix (u3 + 2))), .int (xs (ix (u3 + 3)))]) (st := [.int r84]) C LRL_64 (ci := 8) rfl rfl (by decide) (by decide) (m_X8_setTagWeight (kL κ) (kad κ) (kD κ) (kca κ) C.ado (xs (ix (u3 + 1))) (xs (ix (u3 + 2))) (xs (ix (u3 + 3)))  s83 _ hp) rfl (by decide) rfl (Nat.le_of_ble_eq_true rfl) (dL_law_p6 2 rfl) (fun r89 s88 hp => ?_)
  refine x_icmp_eq (tgt := 1493) C (dL_law_p6 3 rfl) (by decide) (fun hc => ?_) (fun hc => ?_)
  · have hp := hp.1 hc
    obtain ⟨v90, ev90⟩ : ∃ z : Int32, z = u3 + 5 := ⟨_, rfl⟩
    have hp := hp v90 ev90
    refine x_iinc (v := v90) (loc' := [(3, .int v90), (0, .ref b), (1, .ref (kad κ 0)), (2, .ref (kad κ 204))]) 3 C rfl (by rw [ev90]; rfl) (by decide) rfl (dL_law_p25 23 rfl) ?_
    refine x_goto (tgt := 18) C (dL_law_p25 24 rfl) (by decide) ?_
    refine x_loc (loc' := [(0, .ref b), (1, .ref (kad κ 0)), (2, .ref (kad κ 204)), (3, .int v90)]) [1, 2, 3, 0] rfl ?_
    exact hc18 v90 s88 hp
  · have hp := hp.2 hc
    refine x_iconst (v := 0) C (by decide) (dL_law_p6 4 rfl) ?_
    exact hp.elim
def J_L_law_512 (L : Nat) (xs : Nat → Int32) (K : Unit) (c18 : (Int32 × St) → Prop) (u3 : Int32) (σ : St) : Prop := vp_in (u3 + 1) L ∧ (vp_in (u3 + 2) L ∧ (vp_in (u3 + 3) L ∧ (P_X7_setDistanceWeight (xs (ix (u3 + 1))) (xs (ix (u3 + 2))) (xs (ix (u3 + 3))) σ (fun r95 s94 => vp_in (u3 + 1) L ∧ (vp_in (u3 + 2) L ∧ (vp_in (u3 + 3) L ∧ (P_X8_setDistanceWeight (xs (ix (u3 + 1))) (xs (ix (u3 + 2))) (xs (ix (u3 + 3))) s94 (fun r100 s99 => (r95 = r100 → ∀ v101 : Int32, v101 = u3 + 5 → c18 (v101, s99)) ∧ (¬ (r95 = r100) → (False))))))))))
set_option maxHeartbeats 4000000 in
set_option maxRecDepth 100000 in
theorem J_L_law_512_w {κ : Kap} {K : Unit} {b L : Nat} {xs : Nat → Int32} {c18 : (Int32 × St) → Prop} (C : Ok κ RL cL_law 4 17) (hret : ∀ (pc : Nat) (loc : List (Nat × Value)) (σ : St), decode cL_law pc = .ok (.ireturn, 1) → GG κ pc loc [.int 1] σ) (hX : lawX κ b L xs) (u3 : Int32)     (σ : St) (hc18 : ∀ (u3 : Int32) (σ : St), c18 (u3, σ) → GG κ 18 [(0, .ref b), (1, .ref (kad κ 0)), (2, .ref (kad κ 204)), (3, .int u3)] [] σ) (hp : J_L_law_512 L xs K c18 u3 σ) : GG κ 512 [(0, .ref b), (1, .ref (kad κ 0)), (2, .ref (kad κ 204)), (3, .int u3)] [] σ := by
  unfold J_L_law_512 at hp
  refine x_aload_n 1 C rfl (dL_law_p6 6 rfl) ?_
  refine x_aload_n 0 C rfl (dL_law_p6 7 rfl) ?_
  refine x_iload_n 3 C rfl (dL_law_p6 8 rfl) ?_
  refine x_iconst (v := 1) C (by decide) (dL_law_p6 9 rfl) ?_
  refine x_iadd C (dL_law_p6 10 rfl) ?_
  obtain ⟨h91, hp⟩ := hp
  refine x_sld C hX h91 (dL_law_p6 11 rfl) ?_
  refine x_aload_n 0 C rfl (dL_law_p6 12 rfl) ?_
  refine x_iload_n 3 C rfl (dL_law_p6 13 rfl) ?_
  refine x_iconst (v := 2) C (by decide) (dL_law_p6 14 rfl) ?_
  refine x_iadd C (dL_law_p6 15 rfl) ?_
  obtain ⟨h92, hp⟩ := hp
  refine x_sld C hX h92 (dL_law_p6 16 rfl) ?_
  refine x_aload_n 0 C rfl (dL_law_p6 17 rfl) ?_
  refine x_iload_n 3 C rfl (dL_law_p6 18 rfl) ?_
  refine x_iconst (v := 3) C (by decide) (dL_law_p6 19 rfl) ?_
  refine x_iadd C (dL_law_p6 20 rfl) ?_
  obtain ⟨h93, hp⟩ := hp
  refine x_sld C hX h93 (dL_law_p6 21 rfl) ?_
  refine x_cvI (As := [.int (xs (ix (u3 + 1))), .int (xs (ix (u3 + 2))), .int (xs (ix (u3 + 3)))]) (st := []) C LRL_65 (ci := 7) rfl rfl (by decide) (by decide) (m_X7_setDistanceWeight (kL κ) (kad κ) (kD κ) (kca κ) C.ado (xs (ix (u3 + 1))) (xs (ix (u3 + 2))) (xs (ix (u3 + 3)))  σ _ hp) rfl (by decide) rfl (Nat.le_of_ble_eq_true rfl) (dL_law_p6 22 rfl) (fun r95 s94 hp => ?_)
  refine x_aload_n 2 C rfl (dL_law_p6 23 rfl) ?_
  refine x_aload_n 0 C rfl (dL_law_p6 24 rfl) ?_
  refine x_iload_n 3 C rfl (dL_law_p6 25 rfl) ?_
  refine x_iconst (v := 1) C (by decide) (dL_law_p6 26 rfl) ?_
  refine x_iadd C (dL_law_p6 27 rfl) ?_
  obtain ⟨h96, hp⟩ := hp
  refine x_sld C hX h96 (dL_law_p6 28 rfl) ?_
  refine x_aload_n 0 C rfl (dL_law_p6 29 rfl) ?_
  refine x_iload_n 3 C rfl (dL_law_p6 30 rfl) ?_
  refine x_iconst (v := 2) C (by decide) (dL_law_p6 31 rfl) ?_
  refine x_iadd C (dL_law_p6 32 rfl) ?_
  obtain ⟨h97, hp⟩ := hp
  refine x_sld C hX h97 (dL_law_p6 33 rfl) ?_
  refine x_aload_n 0 C rfl (dL_law_p6 34 rfl) ?_
  refine x_iload_n 3 C rfl (dL_law_p6 35 rfl) ?_
  refine x_iconst (v := 3) C (by decide) (dL_law_p6 36 rfl) ?_
  refine x_iadd C (dL_law_p6 37 rfl) ?_
  obtain ⟨h98, hp⟩ := hp
  refine x_sld C hX h98 (dL_law_p6 38 rfl) ?_
  refine x_cvI (As := [.int (xs (ix (u3 + 1))), .int (xs (ix (u3 + 2))), .int (xs (ix (u3 + 3)))]) (st := [.int r95]) C LRL_68 (ci := 8) rfl rfl (by decide) (by decide) (m_X8_setDistanceWeight (kL κ) (kad κ) (kD κ) (kca κ) C.ado (xs (ix (u3 + 1))) (xs (ix (u3 + 2))) (xs (ix (u3 + 3)))  s94 _ hp) rfl (by decide) rfl (Nat.le_of_ble_eq_true rfl) (dL_law_p6 39 rfl) (fun r100 s99 hp => ?_)
  refine x_icmp_eq (tgt := 1493) C (dL_law_p7 0 rfl) (by decide) (fun hc => ?_) (fun hc => ?_)
  · have hp := hp.1 hc
    obtain ⟨v101, ev101⟩ : ∃ z : Int32, z = u3 + 5 := ⟨_, rfl⟩
    have hp := hp v101 ev101
    refine x_iinc (v := v101) (loc' := [(3, .int v101), (0, .ref b), (1, .ref (kad κ 0)), (2, .ref (kad κ 204))]) 3 C rfl (by rw [ev101]; rfl) (by decide) rfl (dL_law_p25 23 rfl) ?_
    refine x_goto (tgt := 18) C (dL_law_p25 24 rfl) (by decide) ?_
    refine x_loc (loc' := [(0, .ref b), (1, .ref (kad κ 0)), (2, .ref (kad κ 204)), (3, .int v101)]) [1, 2, 3, 0] rfl ?_
    exact hc18 v101 s99 hp
  · have hp := hp.2 hc
    refine x_iconst (v := 0) C (by decide) (dL_law_p7 1 rfl) ?_
    exact hp.elim
def J_L_law_555 (L : Nat) (xs : Nat → Int32) (K : Unit) (c18 : (Int32 × St) → Prop) (u3 : Int32) (σ : St) : Prop := vp_in (u3 + 1) L ∧ (vp_in (u3 + 2) L ∧ (vp_in (u3 + 3) L ∧ (vp_in (u3 + 4) L ∧ (P_X7_setBias (xs (ix (u3 + 1))) (xs (ix (u3 + 2))) (xs (ix (u3 + 3))) (xs (ix (u3 + 4))) σ (fun r107 s106 => vp_in (u3 + 1) L ∧ (vp_in (u3 + 2) L ∧ (vp_in (u3 + 3) L ∧ (vp_in (u3 + 4) L ∧ (P_X8_setBias (xs (ix (u3 + 1))) (xs (ix (u3 + 2))) (xs (ix (u3 + 3))) (xs (ix (u3 + 4))) s106 (fun r113 s112 => (r107 = r113 → ∀ v114 : Int32, v114 = u3 + 5 → c18 (v114, s112)) ∧ (¬ (r107 = r113) → (False))))))))))))
set_option maxHeartbeats 4000000 in
set_option maxRecDepth 100000 in
theorem J_L_law_555_w {κ : Kap} {K : Unit} {b L : Nat} {xs : Nat → Int32} {c18 : (Int32 × St) → Prop} (C : Ok κ RL cL_law 4 17) (hret : ∀ (pc : Nat) (loc : List (Nat × Value)) (σ : St), decode cL_law pc = .ok (.ireturn, 1) → GG κ pc loc [.int 1] σ) (hX : lawX κ b L xs) (u3 : Int32)     (σ : St) (hc18 : ∀ (u3 : Int32) (σ : St), c18 (u3, σ) → GG κ 18 [(0, .ref b), (1, .ref (kad κ 0)), (2, .ref (kad κ 204)), (3, .int u3)] [] σ) (hp : J_L_law_555 L xs K c18 u3 σ) : GG κ 555 [(0, .ref b), (1, .ref (kad κ 0)), (2, .ref (kad κ 204)), (3, .int u3)] [] σ := by
  unfold J_L_law_555 at hp
  refine x_aload_n 1 C rfl (dL_law_p7 3 rfl) ?_
  refine x_aload_n 0 C rfl (dL_law_p7 4 rfl) ?_
  refine x_iload_n 3 C rfl (dL_law_p7 5 rfl) ?_
  refine x_iconst (v := 1) C (by decide) (dL_law_p7 6 rfl) ?_
  refine x_iadd C (dL_law_p7 7 rfl) ?_
  obtain ⟨h102, hp⟩ := hp
  refine x_sld C hX h102 (dL_law_p7 8 rfl) ?_
  refine x_aload_n 0 C rfl (dL_law_p7 9 rfl) ?_
  refine x_iload_n 3 C rfl (dL_law_p7 10 rfl) ?_
  refine x_iconst (v := 2) C (by decide) (dL_law_p7 11 rfl) ?_
  refine x_iadd C (dL_law_p7 12 rfl) ?_
  obtain ⟨h103, hp⟩ := hp
  refine x_sld C hX h103 (dL_law_p7 13 rfl) ?_
  refine x_aload_n 0 C rfl (dL_law_p7 14 rfl) ?_
  refine x_iload_n 3 C rfl (dL_law_p7 15 rfl) ?_
  refine x_iconst (v := 3) C (by decide) (dL_law_p7 16 rfl) ?_
  refine x_iadd C (dL_law_p7 17 rfl) ?_
  obtain ⟨h104, hp⟩ := hp
  refine x_sld C hX h104 (dL_law_p7 18 rfl) ?_
  refine x_aload_n 0 C rfl (dL_law_p7 19 rfl) ?_
  refine x_iload_n 3 C rfl (dL_law_p7 20 rfl) ?_
  refine x_iconst (v := 4) C (by decide) (dL_law_p7 21 rfl) ?_
  refine x_iadd C (dL_law_p7 22 rfl) ?_
  obtain ⟨h105, hp⟩ := hp
  refine x_sld C hX h105 (dL_law_p7 23 rfl) ?_
  refine x_cvI (As := [.int (xs (ix (u3 + 1))), .int (xs (ix (u3 + 2))), .int (xs (ix (u3 + 3))), .int (xs (ix (u3 + 4)))]) (st := []) C LRL_69 (ci := 7) rfl rfl (by decide) (by decide) (m_X7_setBias (kL κ) (kad κ) (kD κ) (kca κ) C.ado (xs (ix (u3 + 1))) (xs (ix (u3 + 2))) (xs (ix (u3 + 3))) (xs (ix (u3 + 4)))  σ _ hp) rfl (by decide) rfl (Nat.le_of_ble_eq_true rfl) (dL_law_p7 24 rfl) (fun r107 s106 hp => ?_)
  refine x_aload_n 2 C rfl (dL_law_p7 25 rfl) ?_
  refine x_aload_n 0 C rfl (dL_law_p7 26 rfl) ?_
  refine x_iload_n 3 C rfl (dL_law_p7 27 rfl) ?_
  refine x_iconst (v := 1) C (by decide) (dL_law_p7 28 rfl) ?_
  refine x_iadd C (dL_law_p7 29 rfl) ?_
  obtain ⟨h108, hp⟩ := hp
  refine x_sld C hX h108 (dL_law_p7 30 rfl) ?_
  refine x_aload_n 0 C rfl (dL_law_p7 31 rfl) ?_
  refine x_iload_n 3 C rfl (dL_law_p7 32 rfl) ?_
  refine x_iconst (v := 2) C (by decide) (dL_law_p7 33 rfl) ?_
  refine x_iadd C (dL_law_p7 34 rfl) ?_
  obtain ⟨h109, hp⟩ := hp
  refine x_sld C hX h109 (dL_law_p7 35 rfl) ?_
  refine x_aload_n 0 C rfl (dL_law_p7 36 rfl) ?_
  refine x_iload_n 3 C rfl (dL_law_p7 37 rfl) ?_
  refine x_iconst (v := 3) C (by decide) (dL_law_p7 38 rfl) ?_
  refine x_iadd C (dL_law_p7 39 rfl) ?_
  obtain ⟨h110, hp⟩ := hp
  refine x_sld C hX h110 (dL_law_p8 0 rfl) ?_
  refine x_aload_n 0 C rfl (dL_law_p8 1 rfl) ?_
  refine x_iload_n 3 C rfl (dL_law_p8 2 rfl) ?_
  refine x_iconst (v := 4) C (by decide) (dL_law_p8 3 rfl) ?_
  refine x_iadd C (dL_law_p8 4 rfl) ?_
  obtain ⟨h111, hp⟩ := hp
  refine x_sld C hX h111 (dL_law_p8 5 rfl) ?_
  refine x_cvI (As := [.int (xs (ix (u3 + 1))), .int (xs (ix (u3 + 2))), .int (xs (ix (u3 + 3))), .int (xs (ix (u3 + 4)))]) (st := [.int r107]) C LRL_73 (ci := 8) rfl rfl (by decide) (by decide) (m_X8_setBias (kL κ) (kad κ) (kD κ) (kca κ) C.ado (xs (ix (u3 + 1))) (xs (ix (u3 + 2))) (xs (ix (u3 + 3))) (xs (ix (u3 + 4)))  s106 _ hp) rfl (by decide) rfl (Nat.le_of_ble_eq_true rfl) (dL_law_p8 6 rfl) (fun r113 s112 hp => ?_)
  refine x_icmp_eq (tgt := 1493) C (dL_law_p8 7 rfl) (by decide) (fun hc => ?_) (fun hc => ?_)
  · have hp := hp.1 hc
    obtain ⟨v114, ev114⟩ : ∃ z : Int32, z = u3 + 5 := ⟨_, rfl⟩
    have hp := hp v114 ev114
    refine x_iinc (v := v114) (loc' := [(3, .int v114), (0, .ref b), (1, .ref (kad κ 0)), (2, .ref (kad κ 204))]) 3 C rfl (by rw [ev114]; rfl) (by decide) rfl (dL_law_p25 23 rfl) ?_
    refine x_goto (tgt := 18) C (dL_law_p25 24 rfl) (by decide) ?_
    refine x_loc (loc' := [(0, .ref b), (1, .ref (kad κ 0)), (2, .ref (kad κ 204)), (3, .int v114)]) [1, 2, 3, 0] rfl ?_
    exact hc18 v114 s112 hp
  · have hp := hp.2 hc
    refine x_iconst (v := 0) C (by decide) (dL_law_p8 8 rfl) ?_
    exact hp.elim
def J_L_law_608 (L : Nat) (xs : Nat → Int32) (K : Unit) (c18 : (Int32 × St) → Prop) (u3 : Int32) (σ : St) : Prop := vp_in (u3 + 1) L ∧ (vp_in (u3 + 2) L ∧ (vp_in (u3 + 3) L ∧ (vp_in (u3 + 4) L ∧ (P_X7_constrain (xs (ix (u3 + 1))) (xs (ix (u3 + 2))) (xs (ix (u3 + 3))) (xs (ix (u3 + 4))) σ (fun r120 s119 => vp_in (u3 + 1) L ∧ (vp_in (u3 + 2) L ∧ (vp_in (u3 + 3) L ∧ (vp_in (u3 + 4) L ∧ (P_X8_constrain (xs (ix (u3 + 1))) (xs (ix (u3 + 2))) (xs (ix (u3 + 3))) (xs (ix (u3 + 4))) s119 (fun r126 s125 => (r120 = r126 → ∀ v127 : Int32, v127 = u3 + 5 → c18 (v127, s125)) ∧ (¬ (r120 = r126) → (False))))))))))))
set_option maxHeartbeats 4000000 in
set_option maxRecDepth 100000 in
theorem J_L_law_608_w {κ : Kap} {K : Unit} {b L : Nat} {xs : Nat → Int32} {c18 : (Int32 × St) → Prop} (C : Ok κ RL cL_law 4 17) (hret : ∀ (pc : Nat) (loc : List (Nat × Value)) (σ : St), decode cL_law pc = .ok (.ireturn, 1) → GG κ pc loc [.int 1] σ) (hX : lawX κ b L xs) (u3 : Int32)     (σ : St) (hc18 : ∀ (u3 : Int32) (σ : St), c18 (u3, σ) → GG κ 18 [(0, .ref b), (1, .ref (kad κ 0)), (2, .ref (kad κ 204)), (3, .int u3)] [] σ) (hp : J_L_law_608 L xs K c18 u3 σ) : GG κ 608 [(0, .ref b), (1, .ref (kad κ 0)), (2, .ref (kad κ 204)), (3, .int u3)] [] σ := by
  unfold J_L_law_608 at hp
  refine x_aload_n 1 C rfl (dL_law_p8 10 rfl) ?_
  refine x_aload_n 0 C rfl (dL_law_p8 11 rfl) ?_
  refine x_iload_n 3 C rfl (dL_law_p8 12 rfl) ?_
  refine x_iconst (v := 1) C (by decide) (dL_law_p8 13 rfl) ?_
  refine x_iadd C (dL_law_p8 14 rfl) ?_
  obtain ⟨h115, hp⟩ := hp
  refine x_sld C hX h115 (dL_law_p8 15 rfl) ?_
  refine x_aload_n 0 C rfl (dL_law_p8 16 rfl) ?_
  refine x_iload_n 3 C rfl (dL_law_p8 17 rfl) ?_
  refine x_iconst (v := 2) C (by decide) (dL_law_p8 18 rfl) ?_
  refine x_iadd C (dL_law_p8 19 rfl) ?_
  obtain ⟨h116, hp⟩ := hp
  refine x_sld C hX h116 (dL_law_p8 20 rfl) ?_
  refine x_aload_n 0 C rfl (dL_law_p8 21 rfl) ?_
  refine x_iload_n 3 C rfl (dL_law_p8 22 rfl) ?_
  refine x_iconst (v := 3) C (by decide) (dL_law_p8 23 rfl) ?_
  refine x_iadd C (dL_law_p8 24 rfl) ?_
  obtain ⟨h117, hp⟩ := hp
  refine x_sld C hX h117 (dL_law_p8 25 rfl) ?_
  refine x_aload_n 0 C rfl (dL_law_p8 26 rfl) ?_
  refine x_iload_n 3 C rfl (dL_law_p8 27 rfl) ?_
  refine x_iconst (v := 4) C (by decide) (dL_law_p8 28 rfl) ?_
  refine x_iadd C (dL_law_p8 29 rfl) ?_
  obtain ⟨h118, hp⟩ := hp
  refine x_sld C hX h118 (dL_law_p8 30 rfl) ?_
  refine x_cvI (As := [.int (xs (ix (u3 + 1))), .int (xs (ix (u3 + 2))), .int (xs (ix (u3 + 3))), .int (xs (ix (u3 + 4)))]) (st := []) C LRL_74 (ci := 7) rfl rfl (by decide) (by decide) (m_X7_constrain (kL κ) (kad κ) (kD κ) (kca κ) C.ado (xs (ix (u3 + 1))) (xs (ix (u3 + 2))) (xs (ix (u3 + 3))) (xs (ix (u3 + 4)))  σ _ hp) rfl (by decide) rfl (Nat.le_of_ble_eq_true rfl) (dL_law_p8 31 rfl) (fun r120 s119 hp => ?_)
  refine x_aload_n 2 C rfl (dL_law_p8 32 rfl) ?_
  refine x_aload_n 0 C rfl (dL_law_p8 33 rfl) ?_
  refine x_iload_n 3 C rfl (dL_law_p8 34 rfl) ?_
  refine x_iconst (v := 1) C (by decide) (dL_law_p8 35 rfl) ?_
  refine x_iadd C (dL_law_p8 36 rfl) ?_
  obtain ⟨h121, hp⟩ := hp
  refine x_sld C hX h121 (dL_law_p8 37 rfl) ?_
  refine x_aload_n 0 C rfl (dL_law_p8 38 rfl) ?_
  refine x_iload_n 3 C rfl (dL_law_p8 39 rfl) ?_
  refine x_iconst (v := 2) C (by decide) (dL_law_p9 0 rfl) ?_
  refine x_iadd C (dL_law_p9 1 rfl) ?_
  obtain ⟨h122, hp⟩ := hp
  refine x_sld C hX h122 (dL_law_p9 2 rfl) ?_
  refine x_aload_n 0 C rfl (dL_law_p9 3 rfl) ?_
  refine x_iload_n 3 C rfl (dL_law_p9 4 rfl) ?_
  refine x_iconst (v := 3) C (by decide) (dL_law_p9 5 rfl) ?_
  refine x_iadd C (dL_law_p9 6 rfl) ?_
  obtain ⟨h123, hp⟩ := hp
  refine x_sld C hX h123 (dL_law_p9 7 rfl) ?_
  refine x_aload_n 0 C rfl (dL_law_p9 8 rfl) ?_
  refine x_iload_n 3 C rfl (dL_law_p9 9 rfl) ?_
  refine x_iconst (v := 4) C (by decide) (dL_law_p9 10 rfl) ?_
  refine x_iadd C (dL_law_p9 11 rfl) ?_
  obtain ⟨h124, hp⟩ := hp
  refine x_sld C hX h124 (dL_law_p9 12 rfl) ?_
  refine x_cvI (As := [.int (xs (ix (u3 + 1))), .int (xs (ix (u3 + 2))), .int (xs (ix (u3 + 3))), .int (xs (ix (u3 + 4)))]) (st := [.int r120]) C LRL_77 (ci := 8) rfl rfl (by decide) (by decide) (m_X8_constrain (kL κ) (kad κ) (kD κ) (kca κ) C.ado (xs (ix (u3 + 1))) (xs (ix (u3 + 2))) (xs (ix (u3 + 3))) (xs (ix (u3 + 4)))  s119 _ hp) rfl (by decide) rfl (Nat.le_of_ble_eq_true rfl) (dL_law_p9 13 rfl) (fun r126 s125 hp => ?_)
  refine x_icmp_eq (tgt := 1493) C (dL_law_p9 14 rfl) (by decide) (fun hc => ?_) (fun hc => ?_)
  · have hp := hp.1 hc
    obtain ⟨v127, ev127⟩ : ∃ z : Int32, z = u3 + 5 := ⟨_, rfl⟩
    have hp := hp v127 ev127
    refine x_iinc (v := v127) (loc' := [(3, .int v127), (0, .ref b), (1, .ref (kad κ 0)), (2, .ref (kad κ 204))]) 3 C rfl (by rw [ev127]; rfl) (by decide) rfl (dL_law_p25 23 rfl) ?_
    refine x_goto (tgt := 18) C (dL_law_p25 24 rfl) (by decide) ?_
    refine x_loc (loc' := [(0, .ref b), (1, .ref (kad κ 0)), (2, .ref (kad κ 204)), (3, .int v127)]) [1, 2, 3, 0] rfl ?_
    exact hc18 v127 s125 hp
  · have hp := hp.2 hc
    refine x_iconst (v := 0) C (by decide) (dL_law_p9 15 rfl) ?_
    exact hp.elim
def J_L_law_692 (L : Nat) (xs : Nat → Int32) (K : Unit) (c18 : (Int32 × St) → Prop) (u3 : Int32) (t0 : Int32) (t2 : Int32) (σ : St) : Prop := P_X8_setSingleRoot t2 σ (fun r133 s132 => (t0 = r133 → ∀ v134 : Int32, v134 = u3 + 5 → c18 (v134, s132)) ∧ (¬ (t0 = r133) → (False)))
set_option maxHeartbeats 4000000 in
set_option maxRecDepth 100000 in
theorem J_L_law_692_w {κ : Kap} {K : Unit} {b L : Nat} {xs : Nat → Int32} {c18 : (Int32 × St) → Prop} (C : Ok κ RL cL_law 4 17) (hret : ∀ (pc : Nat) (loc : List (Nat × Value)) (σ : St), decode cL_law pc = .ok (.ireturn, 1) → GG κ pc loc [.int 1] σ) (hX : lawX κ b L xs) (u3 : Int32) (t0 : Int32) (t2 : Int32)        (σ : St) (hc18 : ∀ (u3 : Int32) (σ : St), c18 (u3, σ) → GG κ 18 [(0, .ref b), (1, .ref (kad κ 0)), (2, .ref (kad κ 204)), (3, .int u3)] [] σ) (hp : J_L_law_692 L xs K c18 u3 t0 t2 σ) : GG κ 692 [(0, .ref b), (1, .ref (kad κ 0)), (2, .ref (kad κ 204)), (3, .int u3)] [.int t2, .ref (kad κ 204), .int t0] σ := by
  unfold J_L_law_692 at hp
  refine x_cvI (As := [.int t2]) (st := [.int t0]) C LRL_82 (ci := 8) rfl rfl (by decide) (by decide) (m_X8_setSingleRoot (kL κ) (kad κ) (kD κ) (kca κ) C.ado t2  σ _ hp) rfl (by decide) rfl (Nat.le_of_ble_eq_true rfl) (dL_law_p9 38 rfl) (fun r133 s132 hp => ?_)
  refine x_icmp_eq (tgt := 1493) C (dL_law_p9 39 rfl) (by decide) (fun hc => ?_) (fun hc => ?_)
  · have hp := hp.1 hc
    obtain ⟨v134, ev134⟩ : ∃ z : Int32, z = u3 + 5 := ⟨_, rfl⟩
    have hp := hp v134 ev134
    refine x_iinc (v := v134) (loc' := [(3, .int v134), (0, .ref b), (1, .ref (kad κ 0)), (2, .ref (kad κ 204))]) 3 C rfl (by rw [ev134]; rfl) (by decide) rfl (dL_law_p25 23 rfl) ?_
    refine x_goto (tgt := 18) C (dL_law_p25 24 rfl) (by decide) ?_
    refine x_loc (loc' := [(0, .ref b), (1, .ref (kad κ 0)), (2, .ref (kad κ 204)), (3, .int v134)]) [1, 2, 3, 0] rfl ?_
    exact hc18 v134 s132 hp
  · have hp := hp.2 hc
    refine x_iconst (v := 0) C (by decide) (dL_law_p10 0 rfl) ?_
    exact hp.elim
def J_L_law_675 (L : Nat) (xs : Nat → Int32) (K : Unit) (c18 : (Int32 × St) → Prop) (u3 : Int32) (t1 : Int32) (σ : St) : Prop := P_X7_setSingleRoot t1 σ (fun r130 s129 => vp_in (u3 + 1) L ∧ (((xs (ix (u3 + 1))) = 0 → (J_L_law_692 L xs K c18 u3 r130 0 s129)) ∧ (¬ ((xs (ix (u3 + 1))) = 0) → (J_L_law_692 L xs K c18 u3 r130 1 s129))))
set_option maxHeartbeats 4000000 in
set_option maxRecDepth 100000 in
theorem J_L_law_675_w {κ : Kap} {K : Unit} {b L : Nat} {xs : Nat → Int32} {c18 : (Int32 × St) → Prop} (C : Ok κ RL cL_law 4 17) (hret : ∀ (pc : Nat) (loc : List (Nat × Value)) (σ : St), decode cL_law pc = .ok (.ireturn, 1) → GG κ pc loc [.int 1] σ) (hX : lawX κ b L xs) (u3 : Int32) (t1 : Int32)       (σ : St) (hc18 : ∀ (u3 : Int32) (σ : St), c18 (u3, σ) → GG κ 18 [(0, .ref b), (1, .ref (kad κ 0)), (2, .ref (kad κ 204)), (3, .int u3)] [] σ) (hp : J_L_law_675 L xs K c18 u3 t1 σ) : GG κ 675 [(0, .ref b), (1, .ref (kad κ 0)), (2, .ref (kad κ 204)), (3, .int u3)] [.int t1, .ref (kad κ 0)] σ := by
  unfold J_L_law_675 at hp
  refine x_cvI (As := [.int t1]) (st := []) C LRL_78 (ci := 7) rfl rfl (by decide) (by decide) (m_X7_setSingleRoot (kL κ) (kad κ) (kD κ) (kca κ) C.ado t1  σ _ hp) rfl (by decide) rfl (Nat.le_of_ble_eq_true rfl) (dL_law_p9 27 rfl) (fun r130 s129 hp => ?_)
  refine x_aload_n 2 C rfl (dL_law_p9 28 rfl) ?_
  refine x_aload_n 0 C rfl (dL_law_p9 29 rfl) ?_
  refine x_iload_n 3 C rfl (dL_law_p9 30 rfl) ?_
  refine x_iconst (v := 1) C (by decide) (dL_law_p9 31 rfl) ?_
  refine x_iadd C (dL_law_p9 32 rfl) ?_
  obtain ⟨h131, hp⟩ := hp
  refine x_sld C hX h131 (dL_law_p9 33 rfl) ?_
  refine x_if_eq (tgt := 691) C (dL_law_p9 34 rfl) (by decide) (fun hc => ?_) (fun hc => ?_)
  · have hp := hp.1 hc
    refine x_iconst (v := 0) C (by decide) (dL_law_p9 37 rfl) ?_
    exact J_L_law_692_w C hret hX u3 r130 0  s129 hc18 hp
  · have hp := hp.2 hc
    refine x_iconst (v := 1) C (by decide) (dL_law_p9 35 rfl) ?_
    refine x_goto (tgt := 692) C (dL_law_p9 36 rfl) (by decide) ?_
    exact J_L_law_692_w C hret hX u3 r130 1  s129 hc18 hp
def J_L_law_661 (L : Nat) (xs : Nat → Int32) (K : Unit) (c18 : (Int32 × St) → Prop) (u3 : Int32) (σ : St) : Prop := vp_in (u3 + 1) L ∧ (((xs (ix (u3 + 1))) = 0 → (J_L_law_675 L xs K c18 u3 0 σ)) ∧ (¬ ((xs (ix (u3 + 1))) = 0) → (J_L_law_675 L xs K c18 u3 1 σ)))
set_option maxHeartbeats 4000000 in
set_option maxRecDepth 100000 in
theorem J_L_law_661_w {κ : Kap} {K : Unit} {b L : Nat} {xs : Nat → Int32} {c18 : (Int32 × St) → Prop} (C : Ok κ RL cL_law 4 17) (hret : ∀ (pc : Nat) (loc : List (Nat × Value)) (σ : St), decode cL_law pc = .ok (.ireturn, 1) → GG κ pc loc [.int 1] σ) (hX : lawX κ b L xs) (u3 : Int32)     (σ : St) (hc18 : ∀ (u3 : Int32) (σ : St), c18 (u3, σ) → GG κ 18 [(0, .ref b), (1, .ref (kad κ 0)), (2, .ref (kad κ 204)), (3, .int u3)] [] σ) (hp : J_L_law_661 L xs K c18 u3 σ) : GG κ 661 [(0, .ref b), (1, .ref (kad κ 0)), (2, .ref (kad κ 204)), (3, .int u3)] [] σ := by
  unfold J_L_law_661 at hp
  refine x_aload_n 1 C rfl (dL_law_p9 17 rfl) ?_
  refine x_aload_n 0 C rfl (dL_law_p9 18 rfl) ?_
  refine x_iload_n 3 C rfl (dL_law_p9 19 rfl) ?_
  refine x_iconst (v := 1) C (by decide) (dL_law_p9 20 rfl) ?_
  refine x_iadd C (dL_law_p9 21 rfl) ?_
  obtain ⟨h128, hp⟩ := hp
  refine x_sld C hX h128 (dL_law_p9 22 rfl) ?_
  refine x_if_eq (tgt := 674) C (dL_law_p9 23 rfl) (by decide) (fun hc => ?_) (fun hc => ?_)
  · have hp := hp.1 hc
    refine x_iconst (v := 0) C (by decide) (dL_law_p9 26 rfl) ?_
    exact J_L_law_675_w C hret hX u3 0  σ hc18 hp
  · have hp := hp.2 hc
    refine x_iconst (v := 1) C (by decide) (dL_law_p9 24 rfl) ?_
    refine x_goto (tgt := 675) C (dL_law_p9 25 rfl) (by decide) ?_
    exact J_L_law_675_w C hret hX u3 1  σ hc18 hp
def J_L_law_731 (L : Nat) (xs : Nat → Int32) (K : Unit) (c18 : (Int32 × St) → Prop) (u3 : Int32) (t0 : Int32) (t2 : Int32) (σ : St) : Prop := P_X8_setProjective t2 σ (fun r140 s139 => (t0 = r140 → ∀ v141 : Int32, v141 = u3 + 5 → c18 (v141, s139)) ∧ (¬ (t0 = r140) → (False)))
set_option maxHeartbeats 4000000 in
set_option maxRecDepth 100000 in
theorem J_L_law_731_w {κ : Kap} {K : Unit} {b L : Nat} {xs : Nat → Int32} {c18 : (Int32 × St) → Prop} (C : Ok κ RL cL_law 4 17) (hret : ∀ (pc : Nat) (loc : List (Nat × Value)) (σ : St), decode cL_law pc = .ok (.ireturn, 1) → GG κ pc loc [.int 1] σ) (hX : lawX κ b L xs) (u3 : Int32) (t0 : Int32) (t2 : Int32)        (σ : St) (hc18 : ∀ (u3 : Int32) (σ : St), c18 (u3, σ) → GG κ 18 [(0, .ref b), (1, .ref (kad κ 0)), (2, .ref (kad κ 204)), (3, .int u3)] [] σ) (hp : J_L_law_731 L xs K c18 u3 t0 t2 σ) : GG κ 731 [(0, .ref b), (1, .ref (kad κ 0)), (2, .ref (kad κ 204)), (3, .int u3)] [.int t2, .ref (kad κ 204), .int t0] σ := by
  unfold J_L_law_731 at hp
  refine x_cvI (As := [.int t2]) (st := [.int t0]) C LRL_86 (ci := 8) rfl rfl (by decide) (by decide) (m_X8_setProjective (kL κ) (kad κ) (kD κ) (kca κ) C.ado t2  σ _ hp) rfl (by decide) rfl (Nat.le_of_ble_eq_true rfl) (dL_law_p10 23 rfl) (fun r140 s139 hp => ?_)
  refine x_icmp_eq (tgt := 1493) C (dL_law_p10 24 rfl) (by decide) (fun hc => ?_) (fun hc => ?_)
  · have hp := hp.1 hc
    obtain ⟨v141, ev141⟩ : ∃ z : Int32, z = u3 + 5 := ⟨_, rfl⟩
    have hp := hp v141 ev141
    refine x_iinc (v := v141) (loc' := [(3, .int v141), (0, .ref b), (1, .ref (kad κ 0)), (2, .ref (kad κ 204))]) 3 C rfl (by rw [ev141]; rfl) (by decide) rfl (dL_law_p25 23 rfl) ?_
    refine x_goto (tgt := 18) C (dL_law_p25 24 rfl) (by decide) ?_
    refine x_loc (loc' := [(0, .ref b), (1, .ref (kad κ 0)), (2, .ref (kad κ 204)), (3, .int v141)]) [1, 2, 3, 0] rfl ?_
    exact hc18 v141 s139 hp
  · have hp := hp.2 hc
    refine x_iconst (v := 0) C (by decide) (dL_law_p10 25 rfl) ?_
    exact hp.elim
def J_L_law_714 (L : Nat) (xs : Nat → Int32) (K : Unit) (c18 : (Int32 × St) → Prop) (u3 : Int32) (t1 : Int32) (σ : St) : Prop := P_X7_setProjective t1 σ (fun r137 s136 => vp_in (u3 + 1) L ∧ (((xs (ix (u3 + 1))) = 0 → (J_L_law_731 L xs K c18 u3 r137 0 s136)) ∧ (¬ ((xs (ix (u3 + 1))) = 0) → (J_L_law_731 L xs K c18 u3 r137 1 s136))))
set_option maxHeartbeats 4000000 in
set_option maxRecDepth 100000 in
theorem J_L_law_714_w {κ : Kap} {K : Unit} {b L : Nat} {xs : Nat → Int32} {c18 : (Int32 × St) → Prop} (C : Ok κ RL cL_law 4 17) (hret : ∀ (pc : Nat) (loc : List (Nat × Value)) (σ : St), decode cL_law pc = .ok (.ireturn, 1) → GG κ pc loc [.int 1] σ) (hX : lawX κ b L xs) (u3 : Int32) (t1 : Int32)       (σ : St) (hc18 : ∀ (u3 : Int32) (σ : St), c18 (u3, σ) → GG κ 18 [(0, .ref b), (1, .ref (kad κ 0)), (2, .ref (kad κ 204)), (3, .int u3)] [] σ) (hp : J_L_law_714 L xs K c18 u3 t1 σ) : GG κ 714 [(0, .ref b), (1, .ref (kad κ 0)), (2, .ref (kad κ 204)), (3, .int u3)] [.int t1, .ref (kad κ 0)] σ := by
  unfold J_L_law_714 at hp
  refine x_cvI (As := [.int t1]) (st := []) C LRL_83 (ci := 7) rfl rfl (by decide) (by decide) (m_X7_setProjective (kL κ) (kad κ) (kD κ) (kca κ) C.ado t1  σ _ hp) rfl (by decide) rfl (Nat.le_of_ble_eq_true rfl) (dL_law_p10 12 rfl) (fun r137 s136 hp => ?_)
  refine x_aload_n 2 C rfl (dL_law_p10 13 rfl) ?_
  refine x_aload_n 0 C rfl (dL_law_p10 14 rfl) ?_
  refine x_iload_n 3 C rfl (dL_law_p10 15 rfl) ?_
  refine x_iconst (v := 1) C (by decide) (dL_law_p10 16 rfl) ?_
  refine x_iadd C (dL_law_p10 17 rfl) ?_
  obtain ⟨h138, hp⟩ := hp
  refine x_sld C hX h138 (dL_law_p10 18 rfl) ?_
  refine x_if_eq (tgt := 730) C (dL_law_p10 19 rfl) (by decide) (fun hc => ?_) (fun hc => ?_)
  · have hp := hp.1 hc
    refine x_iconst (v := 0) C (by decide) (dL_law_p10 22 rfl) ?_
    exact J_L_law_731_w C hret hX u3 r137 0  s136 hc18 hp
  · have hp := hp.2 hc
    refine x_iconst (v := 1) C (by decide) (dL_law_p10 20 rfl) ?_
    refine x_goto (tgt := 731) C (dL_law_p10 21 rfl) (by decide) ?_
    exact J_L_law_731_w C hret hX u3 r137 1  s136 hc18 hp
def J_L_law_700 (L : Nat) (xs : Nat → Int32) (K : Unit) (c18 : (Int32 × St) → Prop) (u3 : Int32) (σ : St) : Prop := vp_in (u3 + 1) L ∧ (((xs (ix (u3 + 1))) = 0 → (J_L_law_714 L xs K c18 u3 0 σ)) ∧ (¬ ((xs (ix (u3 + 1))) = 0) → (J_L_law_714 L xs K c18 u3 1 σ)))
set_option maxHeartbeats 4000000 in
set_option maxRecDepth 100000 in
theorem J_L_law_700_w {κ : Kap} {K : Unit} {b L : Nat} {xs : Nat → Int32} {c18 : (Int32 × St) → Prop} (C : Ok κ RL cL_law 4 17) (hret : ∀ (pc : Nat) (loc : List (Nat × Value)) (σ : St), decode cL_law pc = .ok (.ireturn, 1) → GG κ pc loc [.int 1] σ) (hX : lawX κ b L xs) (u3 : Int32)     (σ : St) (hc18 : ∀ (u3 : Int32) (σ : St), c18 (u3, σ) → GG κ 18 [(0, .ref b), (1, .ref (kad κ 0)), (2, .ref (kad κ 204)), (3, .int u3)] [] σ) (hp : J_L_law_700 L xs K c18 u3 σ) : GG κ 700 [(0, .ref b), (1, .ref (kad κ 0)), (2, .ref (kad κ 204)), (3, .int u3)] [] σ := by
  unfold J_L_law_700 at hp
  refine x_aload_n 1 C rfl (dL_law_p10 2 rfl) ?_
  refine x_aload_n 0 C rfl (dL_law_p10 3 rfl) ?_
  refine x_iload_n 3 C rfl (dL_law_p10 4 rfl) ?_
  refine x_iconst (v := 1) C (by decide) (dL_law_p10 5 rfl) ?_
  refine x_iadd C (dL_law_p10 6 rfl) ?_
  obtain ⟨h135, hp⟩ := hp
  refine x_sld C hX h135 (dL_law_p10 7 rfl) ?_
  refine x_if_eq (tgt := 713) C (dL_law_p10 8 rfl) (by decide) (fun hc => ?_) (fun hc => ?_)
  · have hp := hp.1 hc
    refine x_iconst (v := 0) C (by decide) (dL_law_p10 11 rfl) ?_
    exact J_L_law_714_w C hret hX u3 0  σ hc18 hp
  · have hp := hp.2 hc
    refine x_iconst (v := 1) C (by decide) (dL_law_p10 9 rfl) ?_
    refine x_goto (tgt := 714) C (dL_law_p10 10 rfl) (by decide) ?_
    exact J_L_law_714_w C hret hX u3 1  σ hc18 hp
def J_L_law_739 (L : Nat) (xs : Nat → Int32) (K : Unit) (c18 : (Int32 × St) → Prop) (u3 : Int32) (σ : St) : Prop := vp_in (u3 + 1) L ∧ (P_X7_setShift (xs (ix (u3 + 1))) σ (fun r144 s143 => vp_in (u3 + 1) L ∧ (P_X8_setShift (xs (ix (u3 + 1))) s143 (fun r147 s146 => (r144 = r147 → ∀ v148 : Int32, v148 = u3 + 5 → c18 (v148, s146)) ∧ (¬ (r144 = r147) → (False))))))
set_option maxHeartbeats 4000000 in
set_option maxRecDepth 100000 in
theorem J_L_law_739_w {κ : Kap} {K : Unit} {b L : Nat} {xs : Nat → Int32} {c18 : (Int32 × St) → Prop} (C : Ok κ RL cL_law 4 17) (hret : ∀ (pc : Nat) (loc : List (Nat × Value)) (σ : St), decode cL_law pc = .ok (.ireturn, 1) → GG κ pc loc [.int 1] σ) (hX : lawX κ b L xs) (u3 : Int32)     (σ : St) (hc18 : ∀ (u3 : Int32) (σ : St), c18 (u3, σ) → GG κ 18 [(0, .ref b), (1, .ref (kad κ 0)), (2, .ref (kad κ 204)), (3, .int u3)] [] σ) (hp : J_L_law_739 L xs K c18 u3 σ) : GG κ 739 [(0, .ref b), (1, .ref (kad κ 0)), (2, .ref (kad κ 204)), (3, .int u3)] [] σ := by
  unfold J_L_law_739 at hp
  refine x_aload_n 1 C rfl (dL_law_p10 27 rfl) ?_
  refine x_aload_n 0 C rfl (dL_law_p10 28 rfl) ?_
  refine x_iload_n 3 C rfl (dL_law_p10 29 rfl) ?_
  refine x_iconst (v := 1) C (by decide) (dL_law_p10 30 rfl) ?_
  refine x_iadd C (dL_law_p10 31 rfl) ?_
  obtain ⟨h142, hp⟩ := hp
  refine x_sld C hX h142 (dL_law_p10 32 rfl) ?_
  refine x_cvI (As := [.int (xs (ix (u3 + 1)))]) (st := []) C LRL_87 (ci := 7) rfl rfl (by decide) (by decide) (m_X7_setShift (kL κ) (kad κ) (kD κ) (kca κ) C.ado (xs (ix (u3 + 1)))  σ _ hp) rfl (by decide) rfl (Nat.le_of_ble_eq_true rfl) (dL_law_p10 33 rfl) (fun r144 s143 hp => ?_)
  refine x_aload_n 2 C rfl (dL_law_p10 34 rfl) ?_
  refine x_aload_n 0 C rfl (dL_law_p10 35 rfl) ?_
  refine x_iload_n 3 C rfl (dL_law_p10 36 rfl) ?_
  refine x_iconst (v := 1) C (by decide) (dL_law_p10 37 rfl) ?_
  refine x_iadd C (dL_law_p10 38 rfl) ?_
  obtain ⟨h145, hp⟩ := hp
  refine x_sld C hX h145 (dL_law_p10 39 rfl) ?_
  refine x_cvI (As := [.int (xs (ix (u3 + 1)))]) (st := [.int r144]) C LRL_90 (ci := 8) rfl rfl (by decide) (by decide) (m_X8_setShift (kL κ) (kad κ) (kD κ) (kca κ) C.ado (xs (ix (u3 + 1)))  s143 _ hp) rfl (by decide) rfl (Nat.le_of_ble_eq_true rfl) (dL_law_p11 0 rfl) (fun r147 s146 hp => ?_)
  refine x_icmp_eq (tgt := 1493) C (dL_law_p11 1 rfl) (by decide) (fun hc => ?_) (fun hc => ?_)
  · have hp := hp.1 hc
    obtain ⟨v148, ev148⟩ : ∃ z : Int32, z = u3 + 5 := ⟨_, rfl⟩
    have hp := hp v148 ev148
    refine x_iinc (v := v148) (loc' := [(3, .int v148), (0, .ref b), (1, .ref (kad κ 0)), (2, .ref (kad κ 204))]) 3 C rfl (by rw [ev148]; rfl) (by decide) rfl (dL_law_p25 23 rfl) ?_
    refine x_goto (tgt := 18) C (dL_law_p25 24 rfl) (by decide) ?_
    refine x_loc (loc' := [(0, .ref b), (1, .ref (kad κ 0)), (2, .ref (kad κ 204)), (3, .int v148)]) [1, 2, 3, 0] rfl ?_
    exact hc18 v148 s146 hp
  · have hp := hp.2 hc
    refine x_iconst (v := 0) C (by decide) (dL_law_p11 2 rfl) ?_
    exact hp.elim
def J_L_law_762 (L : Nat) (xs : Nat → Int32) (K : Unit) (c18 : (Int32 × St) → Prop) (u3 : Int32) (σ : St) : Prop := vp_in (u3 + 1) L ∧ (vp_in (u3 + 2) L ∧ (P_X7_tagWeight (xs (ix (u3 + 1))) (xs (ix (u3 + 2))) σ (fun r152 s151 => vp_in (u3 + 1) L ∧ (vp_in (u3 + 2) L ∧ (P_X8_tagWeight (xs (ix (u3 + 1))) (xs (ix (u3 + 2))) s151 (fun r156 s155 => (r152 = r156 → ∀ v157 : Int32, v157 = u3 + 5 → c18 (v157, s155)) ∧ (¬ (r152 = r156) → (False))))))))
set_option maxHeartbeats 4000000 in
set_option maxRecDepth 100000 in
theorem J_L_law_762_w {κ : Kap} {K : Unit} {b L : Nat} {xs : Nat → Int32} {c18 : (Int32 × St) → Prop} (C : Ok κ RL cL_law 4 17) (hret : ∀ (pc : Nat) (loc : List (Nat × Value)) (σ : St), decode cL_law pc = .ok (.ireturn, 1) → GG κ pc loc [.int 1] σ) (hX : lawX κ b L xs) (u3 : Int32)     (σ : St) (hc18 : ∀ (u3 : Int32) (σ : St), c18 (u3, σ) → GG κ 18 [(0, .ref b), (1, .ref (kad κ 0)), (2, .ref (kad κ 204)), (3, .int u3)] [] σ) (hp : J_L_law_762 L xs K c18 u3 σ) : GG κ 762 [(0, .ref b), (1, .ref (kad κ 0)), (2, .ref (kad κ 204)), (3, .int u3)] [] σ := by
  unfold J_L_law_762 at hp
  refine x_aload_n 1 C rfl (dL_law_p11 4 rfl) ?_
  refine x_aload_n 0 C rfl (dL_law_p11 5 rfl) ?_
  refine x_iload_n 3 C rfl (dL_law_p11 6 rfl) ?_
  refine x_iconst (v := 1) C (by decide) (dL_law_p11 7 rfl) ?_
  refine x_iadd C (dL_law_p11 8 rfl) ?_
  obtain ⟨h149, hp⟩ := hp
  refine x_sld C hX h149 (dL_law_p11 9 rfl) ?_
  refine x_aload_n 0 C rfl (dL_law_p11 10 rfl) ?_
  refine x_iload_n 3 C rfl (dL_law_p11 11 rfl) ?_
  refine x_iconst (v := 2) C (by decide) (dL_law_p11 12 rfl) ?_
  refine x_iadd C (dL_law_p11 13 rfl) ?_
  obtain ⟨h150, hp⟩ := hp
  refine x_sld C hX h150 (dL_law_p11 14 rfl) ?_
  refine x_cvI (As := [.int (xs (ix (u3 + 1))), .int (xs (ix (u3 + 2)))]) (st := []) C LRL_91 (ci := 7) rfl rfl (by decide) (by decide) (m_X7_tagWeight (kL κ) (kad κ) (kD κ) (kca κ) C.ado (xs (ix (u3 + 1))) (xs (ix (u3 + 2)))  σ _ hp) rfl (by decide) rfl (Nat.le_of_ble_eq_true rfl) (dL_law_p11 15 rfl) (fun r152 s151 hp => ?_)
  refine x_aload_n 2 C rfl (dL_law_p11 16 rfl) ?_
  refine x_aload_n 0 C rfl (dL_law_p11 17 rfl) ?_
  refine x_iload_n 3 C rfl (dL_law_p11 18 rfl) ?_
  refine x_iconst (v := 1) C (by decide) (dL_law_p11 19 rfl) ?_
  refine x_iadd C (dL_law_p11 20 rfl) ?_
  obtain ⟨h153, hp⟩ := hp
  refine x_sld C hX h153 (dL_law_p11 21 rfl) ?_
  refine x_aload_n 0 C rfl (dL_law_p11 22 rfl) ?_
  refine x_iload_n 3 C rfl (dL_law_p11 23 rfl) ?_
  refine x_iconst (v := 2) C (by decide) (dL_law_p11 24 rfl) ?_
  refine x_iadd C (dL_law_p11 25 rfl) ?_
  obtain ⟨h154, hp⟩ := hp
  refine x_sld C hX h154 (dL_law_p11 26 rfl) ?_
  refine x_cvI (As := [.int (xs (ix (u3 + 1))), .int (xs (ix (u3 + 2)))]) (st := [.int r152]) C LRL_94 (ci := 8) rfl rfl (by decide) (by decide) (m_X8_tagWeight (kL κ) (kad κ) (kD κ) (kca κ) C.ado (xs (ix (u3 + 1))) (xs (ix (u3 + 2)))  s151 _ hp) rfl (by decide) rfl (Nat.le_of_ble_eq_true rfl) (dL_law_p11 27 rfl) (fun r156 s155 hp => ?_)
  refine x_icmp_eq (tgt := 1493) C (dL_law_p11 28 rfl) (by decide) (fun hc => ?_) (fun hc => ?_)
  · have hp := hp.1 hc
    obtain ⟨v157, ev157⟩ : ∃ z : Int32, z = u3 + 5 := ⟨_, rfl⟩
    have hp := hp v157 ev157
    refine x_iinc (v := v157) (loc' := [(3, .int v157), (0, .ref b), (1, .ref (kad κ 0)), (2, .ref (kad κ 204))]) 3 C rfl (by rw [ev157]; rfl) (by decide) rfl (dL_law_p25 23 rfl) ?_
    refine x_goto (tgt := 18) C (dL_law_p25 24 rfl) (by decide) ?_
    refine x_loc (loc' := [(0, .ref b), (1, .ref (kad κ 0)), (2, .ref (kad κ 204)), (3, .int v157)]) [1, 2, 3, 0] rfl ?_
    exact hc18 v157 s155 hp
  · have hp := hp.2 hc
    refine x_iconst (v := 0) C (by decide) (dL_law_p11 29 rfl) ?_
    exact hp.elim
def J_L_law_795 (L : Nat) (xs : Nat → Int32) (K : Unit) (c18 : (Int32 × St) → Prop) (u3 : Int32) (σ : St) : Prop := vp_in (u3 + 1) L ∧ (vp_in (u3 + 2) L ∧ (P_X7_distanceWeight (xs (ix (u3 + 1))) (xs (ix (u3 + 2))) σ (fun r161 s160 => vp_in (u3 + 1) L ∧ (vp_in (u3 + 2) L ∧ (P_X8_distanceWeight (xs (ix (u3 + 1))) (xs (ix (u3 + 2))) s160 (fun r165 s164 => (r161 = r165 → ∀ v166 : Int32, v166 = u3 + 5 → c18 (v166, s164)) ∧ (¬ (r161 = r165) → (False))))))))
set_option maxHeartbeats 4000000 in
set_option maxRecDepth 100000 in
theorem J_L_law_795_w {κ : Kap} {K : Unit} {b L : Nat} {xs : Nat → Int32} {c18 : (Int32 × St) → Prop} (C : Ok κ RL cL_law 4 17) (hret : ∀ (pc : Nat) (loc : List (Nat × Value)) (σ : St), decode cL_law pc = .ok (.ireturn, 1) → GG κ pc loc [.int 1] σ) (hX : lawX κ b L xs) (u3 : Int32)     (σ : St) (hc18 : ∀ (u3 : Int32) (σ : St), c18 (u3, σ) → GG κ 18 [(0, .ref b), (1, .ref (kad κ 0)), (2, .ref (kad κ 204)), (3, .int u3)] [] σ) (hp : J_L_law_795 L xs K c18 u3 σ) : GG κ 795 [(0, .ref b), (1, .ref (kad κ 0)), (2, .ref (kad κ 204)), (3, .int u3)] [] σ := by
  unfold J_L_law_795 at hp
  refine x_aload_n 1 C rfl (dL_law_p11 31 rfl) ?_
  refine x_aload_n 0 C rfl (dL_law_p11 32 rfl) ?_
  refine x_iload_n 3 C rfl (dL_law_p11 33 rfl) ?_
  refine x_iconst (v := 1) C (by decide) (dL_law_p11 34 rfl) ?_
  refine x_iadd C (dL_law_p11 35 rfl) ?_
  obtain ⟨h158, hp⟩ := hp
  refine x_sld C hX h158 (dL_law_p11 36 rfl) ?_
  refine x_aload_n 0 C rfl (dL_law_p11 37 rfl) ?_
  refine x_iload_n 3 C rfl (dL_law_p11 38 rfl) ?_
  refine x_iconst (v := 2) C (by decide) (dL_law_p11 39 rfl) ?_
  refine x_iadd C (dL_law_p12 0 rfl) ?_
  obtain ⟨h159, hp⟩ := hp
  refine x_sld C hX h159 (dL_law_p12 1 rfl) ?_
  refine x_cvI (As := [.int (xs (ix (u3 + 1))), .int (xs (ix (u3 + 2)))]) (st := []) C LRL_95 (ci := 7) rfl rfl (by decide) (by decide) (m_X7_distanceWeight (kL κ) (kad κ) (kD κ) (kca κ) C.ado (xs (ix (u3 + 1))) (xs (ix (u3 + 2)))  σ _ hp) rfl (by decide) rfl (Nat.le_of_ble_eq_true rfl) (dL_law_p12 2 rfl) (fun r161 s160 hp => ?_)
  refine x_aload_n 2 C rfl (dL_law_p12 3 rfl) ?_
  refine x_aload_n 0 C rfl (dL_law_p12 4 rfl) ?_
  refine x_iload_n 3 C rfl (dL_law_p12 5 rfl) ?_
  refine x_iconst (v := 1) C (by decide) (dL_law_p12 6 rfl) ?_
  refine x_iadd C (dL_law_p12 7 rfl) ?_
  obtain ⟨h162, hp⟩ := hp
  refine x_sld C hX h162 (dL_law_p12 8 rfl) ?_
  refine x_aload_n 0 C rfl (dL_law_p12 9 rfl) ?_
  refine x_iload_n 3 C rfl (dL_law_p12 10 rfl) ?_
  refine x_iconst (v := 2) C (by decide) (dL_law_p12 11 rfl) ?_
  refine x_iadd C (dL_law_p12 12 rfl) ?_
  obtain ⟨h163, hp⟩ := hp
  refine x_sld C hX h163 (dL_law_p12 13 rfl) ?_
  refine x_cvI (As := [.int (xs (ix (u3 + 1))), .int (xs (ix (u3 + 2)))]) (st := [.int r161]) C LRL_98 (ci := 8) rfl rfl (by decide) (by decide) (m_X8_distanceWeight (kL κ) (kad κ) (kD κ) (kca κ) C.ado (xs (ix (u3 + 1))) (xs (ix (u3 + 2)))  s160 _ hp) rfl (by decide) rfl (Nat.le_of_ble_eq_true rfl) (dL_law_p12 14 rfl) (fun r165 s164 hp => ?_)
  refine x_icmp_eq (tgt := 1493) C (dL_law_p12 15 rfl) (by decide) (fun hc => ?_) (fun hc => ?_)
  · have hp := hp.1 hc
    obtain ⟨v166, ev166⟩ : ∃ z : Int32, z = u3 + 5 := ⟨_, rfl⟩
    have hp := hp v166 ev166
    refine x_iinc (v := v166) (loc' := [(3, .int v166), (0, .ref b), (1, .ref (kad κ 0)), (2, .ref (kad κ 204))]) 3 C rfl (by rw [ev166]; rfl) (by decide) rfl (dL_law_p25 23 rfl) ?_
    refine x_goto (tgt := 18) C (dL_law_p25 24 rfl) (by decide) ?_
    refine x_loc (loc' := [(0, .ref b), (1, .ref (kad κ 0)), (2, .ref (kad κ 204)), (3, .int v166)]) [1, 2, 3, 0] rfl ?_
    exact hc18 v166 s164 hp
  · have hp := hp.2 hc
    refine x_iconst (v := 0) C (by decide) (dL_law_p12 16 rfl) ?_
    exact hp.elim
def J_L_law_828 (L : Nat) (xs : Nat → Int32) (K : Unit) (c18 : (Int32 × St) → Prop) (u3 : Int32) (σ : St) : Prop := vp_in (u3 + 1) L ∧ (vp_in (u3 + 2) L ∧ (vp_in (u3 + 3) L ∧ (P_X7_score (xs (ix (u3 + 1))) (xs (ix (u3 + 2))) (xs (ix (u3 + 3))) σ (fun r171 s170 => vp_in (u3 + 1) L ∧ (vp_in (u3 + 2) L ∧ (vp_in (u3 + 3) L ∧ (P_X8_score (xs (ix (u3 + 1))) (xs (ix (u3 + 2))) (xs (ix (u3 + 3))) s170 (fun r176 s175 => (r171 = r176 → ∀ v177 : Int32, v177 = u3 + 5 → c18 (v177, s175)) ∧ (¬ (r171 = r176) → (False))))))))))
set_option maxHeartbeats 4000000 in
set_option maxRecDepth 100000 in
theorem J_L_law_828_w {κ : Kap} {K : Unit} {b L : Nat} {xs : Nat → Int32} {c18 : (Int32 × St) → Prop} (C : Ok κ RL cL_law 4 17) (hret : ∀ (pc : Nat) (loc : List (Nat × Value)) (σ : St), decode cL_law pc = .ok (.ireturn, 1) → GG κ pc loc [.int 1] σ) (hX : lawX κ b L xs) (u3 : Int32)     (σ : St) (hc18 : ∀ (u3 : Int32) (σ : St), c18 (u3, σ) → GG κ 18 [(0, .ref b), (1, .ref (kad κ 0)), (2, .ref (kad κ 204)), (3, .int u3)] [] σ) (hp : J_L_law_828 L xs K c18 u3 σ) : GG κ 828 [(0, .ref b), (1, .ref (kad κ 0)), (2, .ref (kad κ 204)), (3, .int u3)] [] σ := by
  unfold J_L_law_828 at hp
  refine x_aload_n 1 C rfl (dL_law_p12 18 rfl) ?_
  refine x_aload_n 0 C rfl (dL_law_p12 19 rfl) ?_
  refine x_iload_n 3 C rfl (dL_law_p12 20 rfl) ?_
  refine x_iconst (v := 1) C (by decide) (dL_law_p12 21 rfl) ?_
  refine x_iadd C (dL_law_p12 22 rfl) ?_
  obtain ⟨h167, hp⟩ := hp
  refine x_sld C hX h167 (dL_law_p12 23 rfl) ?_
  refine x_aload_n 0 C rfl (dL_law_p12 24 rfl) ?_
  refine x_iload_n 3 C rfl (dL_law_p12 25 rfl) ?_
  refine x_iconst (v := 2) C (by decide) (dL_law_p12 26 rfl) ?_
  refine x_iadd C (dL_law_p12 27 rfl) ?_
  obtain ⟨h168, hp⟩ := hp
  refine x_sld C hX h168 (dL_law_p12 28 rfl) ?_
  refine x_aload_n 0 C rfl (dL_law_p12 29 rfl) ?_
  refine x_iload_n 3 C rfl (dL_law_p12 30 rfl) ?_
  refine x_iconst (v := 3) C (by decide) (dL_law_p12 31 rfl) ?_
  refine x_iadd C (dL_law_p12 32 rfl) ?_
  obtain ⟨h169, hp⟩ := hp
  refine x_sld C hX h169 (dL_law_p12 33 rfl) ?_
  refine x_cvI (As := [.int (xs (ix (u3 + 1))), .int (xs (ix (u3 + 2))), .int (xs (ix (u3 + 3)))]) (st := []) C LRL_99 (ci := 7) rfl rfl (by decide) (by decide) (m_X7_score (kL κ) (kad κ) (kD κ) (kca κ) C.ado (xs (ix (u3 + 1))) (xs (ix (u3 + 2))) (xs (ix (u3 + 3)))  σ _ hp) rfl (by decide) rfl (Nat.le_of_ble_eq_true rfl) (dL_law_p12 34 rfl) (fun r171 s170 hp => ?_)
  refine x_aload_n 2 C rfl (dL_law_p12 35 rfl) ?_
  refine x_aload_n 0 C rfl (dL_law_p12 36 rfl) ?_
  refine x_iload_n 3 C rfl (dL_law_p12 37 rfl) ?_
  refine x_iconst (v := 1) C (by decide) (dL_law_p12 38 rfl) ?_
  refine x_iadd C (dL_law_p12 39 rfl) ?_
  obtain ⟨h172, hp⟩ := hp
  refine x_sld C hX h172 (dL_law_p13 0 rfl) ?_
  refine x_aload_n 0 C rfl (dL_law_p13 1 rfl) ?_
  refine x_iload_n 3 C rfl (dL_law_p13 2 rfl) ?_
  refine x_iconst (v := 2) C (by decide) (dL_law_p13 3 rfl) ?_
  refine x_iadd C (dL_law_p13 4 rfl) ?_
  obtain ⟨h173, hp⟩ := hp
  refine x_sld C hX h173 (dL_law_p13 5 rfl) ?_
  refine x_aload_n 0 C rfl (dL_law_p13 6 rfl) ?_
  refine x_iload_n 3 C rfl (dL_law_p13 7 rfl) ?_
  refine x_iconst (v := 3) C (by decide) (dL_law_p13 8 rfl) ?_
  refine x_iadd C (dL_law_p13 9 rfl) ?_
  obtain ⟨h174, hp⟩ := hp
  refine x_sld C hX h174 (dL_law_p13 10 rfl) ?_
  refine x_cvI (As := [.int (xs (ix (u3 + 1))), .int (xs (ix (u3 + 2))), .int (xs (ix (u3 + 3)))]) (st := [.int r171]) C LRL_102 (ci := 8) rfl rfl (by decide) (by decide) (m_X8_score (kL κ) (kad κ) (kD κ) (kca κ) C.ado (xs (ix (u3 + 1))) (xs (ix (u3 + 2))) (xs (ix (u3 + 3)))  s170 _ hp) rfl (by decide) rfl (Nat.le_of_ble_eq_true rfl) (dL_law_p13 11 rfl) (fun r176 s175 hp => ?_)
  refine x_icmp_eq (tgt := 1493) C (dL_law_p13 12 rfl) (by decide) (fun hc => ?_) (fun hc => ?_)
  · have hp := hp.1 hc
    obtain ⟨v177, ev177⟩ : ∃ z : Int32, z = u3 + 5 := ⟨_, rfl⟩
    have hp := hp v177 ev177
    refine x_iinc (v := v177) (loc' := [(3, .int v177), (0, .ref b), (1, .ref (kad κ 0)), (2, .ref (kad κ 204))]) 3 C rfl (by rw [ev177]; rfl) (by decide) rfl (dL_law_p25 23 rfl) ?_
    refine x_goto (tgt := 18) C (dL_law_p25 24 rfl) (by decide) ?_
    refine x_loc (loc' := [(0, .ref b), (1, .ref (kad κ 0)), (2, .ref (kad κ 204)), (3, .int v177)]) [1, 2, 3, 0] rfl ?_
    exact hc18 v177 s175 hp
  · have hp := hp.2 hc
    refine x_iconst (v := 0) C (by decide) (dL_law_p13 13 rfl) ?_
    exact hp.elim
def J_L_law_871 (L : Nat) (xs : Nat → Int32) (K : Unit) (c18 : (Int32 × St) → Prop) (u3 : Int32) (σ : St) : Prop := vp_in (u3 + 1) L ∧ (P_X7_bestScore (xs (ix (u3 + 1))) σ (fun r180 s179 => vp_in (u3 + 1) L ∧ (P_X8_bestScore (xs (ix (u3 + 1))) s179 (fun r183 s182 => (r180 = r183 → ∀ v184 : Int32, v184 = u3 + 5 → c18 (v184, s182)) ∧ (¬ (r180 = r183) → (False))))))
set_option maxHeartbeats 4000000 in
set_option maxRecDepth 100000 in
theorem J_L_law_871_w {κ : Kap} {K : Unit} {b L : Nat} {xs : Nat → Int32} {c18 : (Int32 × St) → Prop} (C : Ok κ RL cL_law 4 17) (hret : ∀ (pc : Nat) (loc : List (Nat × Value)) (σ : St), decode cL_law pc = .ok (.ireturn, 1) → GG κ pc loc [.int 1] σ) (hX : lawX κ b L xs) (u3 : Int32)     (σ : St) (hc18 : ∀ (u3 : Int32) (σ : St), c18 (u3, σ) → GG κ 18 [(0, .ref b), (1, .ref (kad κ 0)), (2, .ref (kad κ 204)), (3, .int u3)] [] σ) (hp : J_L_law_871 L xs K c18 u3 σ) : GG κ 871 [(0, .ref b), (1, .ref (kad κ 0)), (2, .ref (kad κ 204)), (3, .int u3)] [] σ := by
  unfold J_L_law_871 at hp
  refine x_aload_n 1 C rfl (dL_law_p13 15 rfl) ?_
  refine x_aload_n 0 C rfl (dL_law_p13 16 rfl) ?_
  refine x_iload_n 3 C rfl (dL_law_p13 17 rfl) ?_
  refine x_iconst (v := 1) C (by decide) (dL_law_p13 18 rfl) ?_
  refine x_iadd C (dL_law_p13 19 rfl) ?_
  obtain ⟨h178, hp⟩ := hp
  refine x_sld C hX h178 (dL_law_p13 20 rfl) ?_
  refine x_cvI (As := [.int (xs (ix (u3 + 1)))]) (st := []) C LRL_103 (ci := 7) rfl rfl (by decide) (by decide) (m_X7_bestScore (kL κ) (kad κ) (kD κ) (kca κ) C.ado (xs (ix (u3 + 1)))  σ _ hp) rfl (by decide) rfl (Nat.le_of_ble_eq_true rfl) (dL_law_p13 21 rfl) (fun r180 s179 hp => ?_)
  refine x_aload_n 2 C rfl (dL_law_p13 22 rfl) ?_
  refine x_aload_n 0 C rfl (dL_law_p13 23 rfl) ?_
  refine x_iload_n 3 C rfl (dL_law_p13 24 rfl) ?_
  refine x_iconst (v := 1) C (by decide) (dL_law_p13 25 rfl) ?_
  refine x_iadd C (dL_law_p13 26 rfl) ?_
  obtain ⟨h181, hp⟩ := hp
  refine x_sld C hX h181 (dL_law_p13 27 rfl) ?_
  refine x_cvI (As := [.int (xs (ix (u3 + 1)))]) (st := [.int r180]) C LRL_106 (ci := 8) rfl rfl (by decide) (by decide) (m_X8_bestScore (kL κ) (kad κ) (kD κ) (kca κ) C.ado (xs (ix (u3 + 1)))  s179 _ hp) rfl (by decide) rfl (Nat.le_of_ble_eq_true rfl) (dL_law_p13 28 rfl) (fun r183 s182 hp => ?_)
  refine x_icmp_eq (tgt := 1493) C (dL_law_p13 29 rfl) (by decide) (fun hc => ?_) (fun hc => ?_)
  · have hp := hp.1 hc
    obtain ⟨v184, ev184⟩ : ∃ z : Int32, z = u3 + 5 := ⟨_, rfl⟩
    have hp := hp v184 ev184
    refine x_iinc (v := v184) (loc' := [(3, .int v184), (0, .ref b), (1, .ref (kad κ 0)), (2, .ref (kad κ 204))]) 3 C rfl (by rw [ev184]; rfl) (by decide) rfl (dL_law_p25 23 rfl) ?_
    refine x_goto (tgt := 18) C (dL_law_p25 24 rfl) (by decide) ?_
    refine x_loc (loc' := [(0, .ref b), (1, .ref (kad κ 0)), (2, .ref (kad κ 204)), (3, .int v184)]) [1, 2, 3, 0] rfl ?_
    exact hc18 v184 s182 hp
  · have hp := hp.2 hc
    refine x_iconst (v := 0) C (by decide) (dL_law_p13 30 rfl) ?_
    exact hp.elim
def J_L_law_894 (L : Nat) (xs : Nat → Int32) (K : Unit) (c18 : (Int32 × St) → Prop) (u3 : Int32) (σ : St) : Prop := vp_in (u3 + 1) L ∧ (vp_in (u3 + 2) L ∧ (P_X7_bestHead (xs (ix (u3 + 1))) (xs (ix (u3 + 2))) σ (fun r188 s187 => vp_in (u3 + 1) L ∧ (vp_in (u3 + 2) L ∧ (P_X8_bestHead (xs (ix (u3 + 1))) (xs (ix (u3 + 2))) s187 (fun r192 s191 => (r188 = r192 → ∀ v193 : Int32, v193 = u3 + 5 → c18 (v193, s191)) ∧ (¬ (r188 = r192) → (False))))))))
set_option maxHeartbeats 4000000 in
set_option maxRecDepth 100000 in
theorem J_L_law_894_w {κ : Kap} {K : Unit} {b L : Nat} {xs : Nat → Int32} {c18 : (Int32 × St) → Prop} (C : Ok κ RL cL_law 4 17) (hret : ∀ (pc : Nat) (loc : List (Nat × Value)) (σ : St), decode cL_law pc = .ok (.ireturn, 1) → GG κ pc loc [.int 1] σ) (hX : lawX κ b L xs) (u3 : Int32)     (σ : St) (hc18 : ∀ (u3 : Int32) (σ : St), c18 (u3, σ) → GG κ 18 [(0, .ref b), (1, .ref (kad κ 0)), (2, .ref (kad κ 204)), (3, .int u3)] [] σ) (hp : J_L_law_894 L xs K c18 u3 σ) : GG κ 894 [(0, .ref b), (1, .ref (kad κ 0)), (2, .ref (kad κ 204)), (3, .int u3)] [] σ := by
  unfold J_L_law_894 at hp
  refine x_aload_n 1 C rfl (dL_law_p13 32 rfl) ?_
  refine x_aload_n 0 C rfl (dL_law_p13 33 rfl) ?_
  refine x_iload_n 3 C rfl (dL_law_p13 34 rfl) ?_
  refine x_iconst (v := 1) C (by decide) (dL_law_p13 35 rfl) ?_
  refine x_iadd C (dL_law_p13 36 rfl) ?_
  obtain ⟨h185, hp⟩ := hp
  refine x_sld C hX h185 (dL_law_p13 37 rfl) ?_
  refine x_aload_n 0 C rfl (dL_law_p13 38 rfl) ?_
  refine x_iload_n 3 C rfl (dL_law_p13 39 rfl) ?_
  refine x_iconst (v := 2) C (by decide) (dL_law_p14 0 rfl) ?_
  refine x_iadd C (dL_law_p14 1 rfl) ?_
  obtain ⟨h186, hp⟩ := hp
  refine x_sld C hX h186 (dL_law_p14 2 rfl) ?_
  refine x_cvI (As := [.int (xs (ix (u3 + 1))), .int (xs (ix (u3 + 2)))]) (st := []) C LRL_107 (ci := 7) rfl rfl (by decide) (by decide) (m_X7_bestHead (kL κ) (kad κ) (kD κ) (kca κ) C.ado (xs (ix (u3 + 1))) (xs (ix (u3 + 2)))  σ _ hp) rfl (by decide) rfl (Nat.le_of_ble_eq_true rfl) (dL_law_p14 3 rfl) (fun r188 s187 hp => ?_)
  refine x_aload_n 2 C rfl (dL_law_p14 4 rfl) ?_
  refine x_aload_n 0 C rfl (dL_law_p14 5 rfl) ?_
  refine x_iload_n 3 C rfl (dL_law_p14 6 rfl) ?_
  refine x_iconst (v := 1) C (by decide) (dL_law_p14 7 rfl) ?_
  refine x_iadd C (dL_law_p14 8 rfl) ?_
  obtain ⟨h189, hp⟩ := hp
  refine x_sld C hX h189 (dL_law_p14 9 rfl) ?_
  refine x_aload_n 0 C rfl (dL_law_p14 10 rfl) ?_
  refine x_iload_n 3 C rfl (dL_law_p14 11 rfl) ?_
  refine x_iconst (v := 2) C (by decide) (dL_law_p14 12 rfl) ?_
  refine x_iadd C (dL_law_p14 13 rfl) ?_
  obtain ⟨h190, hp⟩ := hp
  refine x_sld C hX h190 (dL_law_p14 14 rfl) ?_
  refine x_cvI (As := [.int (xs (ix (u3 + 1))), .int (xs (ix (u3 + 2)))]) (st := [.int r188]) C LRL_110 (ci := 8) rfl rfl (by decide) (by decide) (m_X8_bestHead (kL κ) (kad κ) (kD κ) (kca κ) C.ado (xs (ix (u3 + 1))) (xs (ix (u3 + 2)))  s187 _ hp) rfl (by decide) rfl (Nat.le_of_ble_eq_true rfl) (dL_law_p14 15 rfl) (fun r192 s191 hp => ?_)
  refine x_icmp_eq (tgt := 1493) C (dL_law_p14 16 rfl) (by decide) (fun hc => ?_) (fun hc => ?_)
  · have hp := hp.1 hc
    obtain ⟨v193, ev193⟩ : ∃ z : Int32, z = u3 + 5 := ⟨_, rfl⟩
    have hp := hp v193 ev193
    refine x_iinc (v := v193) (loc' := [(3, .int v193), (0, .ref b), (1, .ref (kad κ 0)), (2, .ref (kad κ 204))]) 3 C rfl (by rw [ev193]; rfl) (by decide) rfl (dL_law_p25 23 rfl) ?_
    refine x_goto (tgt := 18) C (dL_law_p25 24 rfl) (by decide) ?_
    refine x_loc (loc' := [(0, .ref b), (1, .ref (kad κ 0)), (2, .ref (kad κ 204)), (3, .int v193)]) [1, 2, 3, 0] rfl ?_
    exact hc18 v193 s191 hp
  · have hp := hp.2 hc
    refine x_iconst (v := 0) C (by decide) (dL_law_p14 17 rfl) ?_
    exact hp.elim
def J_L_law_927 (L : Nat) (xs : Nat → Int32) (K : Unit) (c18 : (Int32 × St) → Prop) (u3 : Int32) (σ : St) : Prop := vp_in (u3 + 1) L ∧ (vp_in (u3 + 2) L ∧ (P_X7_rankedScore (xs (ix (u3 + 1))) (xs (ix (u3 + 2))) σ (fun r197 s196 => vp_in (u3 + 1) L ∧ (vp_in (u3 + 2) L ∧ (P_X8_rankedScore (xs (ix (u3 + 1))) (xs (ix (u3 + 2))) s196 (fun r201 s200 => (r197 = r201 → ∀ v202 : Int32, v202 = u3 + 5 → c18 (v202, s200)) ∧ (¬ (r197 = r201) → (False))))))))
set_option maxHeartbeats 4000000 in
set_option maxRecDepth 100000 in
theorem J_L_law_927_w {κ : Kap} {K : Unit} {b L : Nat} {xs : Nat → Int32} {c18 : (Int32 × St) → Prop} (C : Ok κ RL cL_law 4 17) (hret : ∀ (pc : Nat) (loc : List (Nat × Value)) (σ : St), decode cL_law pc = .ok (.ireturn, 1) → GG κ pc loc [.int 1] σ) (hX : lawX κ b L xs) (u3 : Int32)     (σ : St) (hc18 : ∀ (u3 : Int32) (σ : St), c18 (u3, σ) → GG κ 18 [(0, .ref b), (1, .ref (kad κ 0)), (2, .ref (kad κ 204)), (3, .int u3)] [] σ) (hp : J_L_law_927 L xs K c18 u3 σ) : GG κ 927 [(0, .ref b), (1, .ref (kad κ 0)), (2, .ref (kad κ 204)), (3, .int u3)] [] σ := by
  unfold J_L_law_927 at hp
  refine x_aload_n 1 C rfl (dL_law_p14 19 rfl) ?_
  refine x_aload_n 0 C rfl (dL_law_p14 20 rfl) ?_
  refine x_iload_n 3 C rfl (dL_law_p14 21 rfl) ?_
  refine x_iconst (v := 1) C (by decide) (dL_law_p14 22 rfl) ?_
  refine x_iadd C (dL_law_p14 23 rfl) ?_
  obtain ⟨h194, hp⟩ := hp
  refine x_sld C hX h194 (dL_law_p14 24 rfl) ?_
  refine x_aload_n 0 C rfl (dL_law_p14 25 rfl) ?_
  refine x_iload_n 3 C rfl (dL_law_p14 26 rfl) ?_
  refine x_iconst (v := 2) C (by decide) (dL_law_p14 27 rfl) ?_
  refine x_iadd C (dL_law_p14 28 rfl) ?_
  obtain ⟨h195, hp⟩ := hp
  refine x_sld C hX h195 (dL_law_p14 29 rfl) ?_
  refine x_cvI (As := [.int (xs (ix (u3 + 1))), .int (xs (ix (u3 + 2)))]) (st := []) C LRL_111 (ci := 7) rfl rfl (by decide) (by decide) (m_X7_rankedScore (kL κ) (kad κ) (kD κ) (kca κ) C.ado (xs (ix (u3 + 1))) (xs (ix (u3 + 2)))  σ _ hp) rfl (by decide) rfl (Nat.le_of_ble_eq_true rfl) (dL_law_p14 30 rfl) (fun r197 s196 hp => ?_)
  refine x_aload_n 2 C rfl (dL_law_p14 31 rfl) ?_
  refine x_aload_n 0 C rfl (dL_law_p14 32 rfl) ?_
  refine x_iload_n 3 C rfl (dL_law_p14 33 rfl) ?_
  refine x_iconst (v := 1) C (by decide) (dL_law_p14 34 rfl) ?_
  refine x_iadd C (dL_law_p14 35 rfl) ?_
  obtain ⟨h198, hp⟩ := hp
  refine x_sld C hX h198 (dL_law_p14 36 rfl) ?_
  refine x_aload_n 0 C rfl (dL_law_p14 37 rfl) ?_
  refine x_iload_n 3 C rfl (dL_law_p14 38 rfl) ?_
  refine x_iconst (v := 2) C (by decide) (dL_law_p14 39 rfl) ?_
  refine x_iadd C (dL_law_p15 0 rfl) ?_
  obtain ⟨h199, hp⟩ := hp
  refine x_sld C hX h199 (dL_law_p15 1 rfl) ?_
  refine x_cvI (As := [.int (xs (ix (u3 + 1))), .int (xs (ix (u3 + 2)))]) (st := [.int r197]) C LRL_114 (ci := 8) rfl rfl (by decide) (by decide) (m_X8_rankedScore (kL κ) (kad κ) (kD κ) (kca κ) C.ado (xs (ix (u3 + 1))) (xs (ix (u3 + 2)))  s196 _ hp) rfl (by decide) rfl (Nat.le_of_ble_eq_true rfl) (dL_law_p15 2 rfl) (fun r201 s200 hp => ?_)
  refine x_icmp_eq (tgt := 1493) C (dL_law_p15 3 rfl) (by decide) (fun hc => ?_) (fun hc => ?_)
  · have hp := hp.1 hc
    obtain ⟨v202, ev202⟩ : ∃ z : Int32, z = u3 + 5 := ⟨_, rfl⟩
    have hp := hp v202 ev202
    refine x_iinc (v := v202) (loc' := [(3, .int v202), (0, .ref b), (1, .ref (kad κ 0)), (2, .ref (kad κ 204))]) 3 C rfl (by rw [ev202]; rfl) (by decide) rfl (dL_law_p25 23 rfl) ?_
    refine x_goto (tgt := 18) C (dL_law_p25 24 rfl) (by decide) ?_
    refine x_loc (loc' := [(0, .ref b), (1, .ref (kad κ 0)), (2, .ref (kad κ 204)), (3, .int v202)]) [1, 2, 3, 0] rfl ?_
    exact hc18 v202 s200 hp
  · have hp := hp.2 hc
    refine x_iconst (v := 0) C (by decide) (dL_law_p15 4 rfl) ?_
    exact hp.elim
def J_L_law_960 (L : Nat) (xs : Nat → Int32) (K : Unit) (c18 : (Int32 × St) → Prop) (u3 : Int32) (σ : St) : Prop := vp_in (u3 + 1) L ∧ (vp_in (u3 + 2) L ∧ (vp_in (u3 + 3) L ∧ (P_X7_rankedHead (xs (ix (u3 + 1))) (xs (ix (u3 + 2))) (xs (ix (u3 + 3))) σ (fun r207 s206 => vp_in (u3 + 1) L ∧ (vp_in (u3 + 2) L ∧ (vp_in (u3 + 3) L ∧ (P_X8_rankedHead (xs (ix (u3 + 1))) (xs (ix (u3 + 2))) (xs (ix (u3 + 3))) s206 (fun r212 s211 => (r207 = r212 → ∀ v213 : Int32, v213 = u3 + 5 → c18 (v213, s211)) ∧ (¬ (r207 = r212) → (False))))))))))
set_option maxHeartbeats 4000000 in
set_option maxRecDepth 100000 in
theorem J_L_law_960_w {κ : Kap} {K : Unit} {b L : Nat} {xs : Nat → Int32} {c18 : (Int32 × St) → Prop} (C : Ok κ RL cL_law 4 17) (hret : ∀ (pc : Nat) (loc : List (Nat × Value)) (σ : St), decode cL_law pc = .ok (.ireturn, 1) → GG κ pc loc [.int 1] σ) (hX : lawX κ b L xs) (u3 : Int32)     (σ : St) (hc18 : ∀ (u3 : Int32) (σ : St), c18 (u3, σ) → GG κ 18 [(0, .ref b), (1, .ref (kad κ 0)), (2, .ref (kad κ 204)), (3, .int u3)] [] σ) (hp : J_L_law_960 L xs K c18 u3 σ) : GG κ 960 [(0, .ref b), (1, .ref (kad κ 0)), (2, .ref (kad κ 204)), (3, .int u3)] [] σ := by
  unfold J_L_law_960 at hp
  refine x_aload_n 1 C rfl (dL_law_p15 6 rfl) ?_
  refine x_aload_n 0 C rfl (dL_law_p15 7 rfl) ?_
  refine x_iload_n 3 C rfl (dL_law_p15 8 rfl) ?_
  refine x_iconst (v := 1) C (by decide) (dL_law_p15 9 rfl) ?_
  refine x_iadd C (dL_law_p15 10 rfl) ?_
  obtain ⟨h203, hp⟩ := hp
  refine x_sld C hX h203 (dL_law_p15 11 rfl) ?_
  refine x_aload_n 0 C rfl (dL_law_p15 12 rfl) ?_
  refine x_iload_n 3 C rfl (dL_law_p15 13 rfl) ?_
  refine x_iconst (v := 2) C (by decide) (dL_law_p15 14 rfl) ?_
  refine x_iadd C (dL_law_p15 15 rfl) ?_
  obtain ⟨h204, hp⟩ := hp
  refine x_sld C hX h204 (dL_law_p15 16 rfl) ?_
  refine x_aload_n 0 C rfl (dL_law_p15 17 rfl) ?_
  refine x_iload_n 3 C rfl (dL_law_p15 18 rfl) ?_
  refine x_iconst (v := 3) C (by decide) (dL_law_p15 19 rfl) ?_
  refine x_iadd C (dL_law_p15 20 rfl) ?_
  obtain ⟨h205, hp⟩ := hp
  refine x_sld C hX h205 (dL_law_p15 21 rfl) ?_
  refine x_cvI (As := [.int (xs (ix (u3 + 1))), .int (xs (ix (u3 + 2))), .int (xs (ix (u3 + 3)))]) (st := []) C LRL_115 (ci := 7) rfl rfl (by decide) (by decide) (m_X7_rankedHead (kL κ) (kad κ) (kD κ) (kca κ) C.ado (xs (ix (u3 + 1))) (xs (ix (u3 + 2))) (xs (ix (u3 + 3)))  σ _ hp) rfl (by decide) rfl (Nat.le_of_ble_eq_true rfl) (dL_law_p15 22 rfl) (fun r207 s206 hp => ?_)
  refine x_aload_n 2 C rfl (dL_law_p15 23 rfl) ?_
  refine x_aload_n 0 C rfl (dL_law_p15 24 rfl) ?_
  refine x_iload_n 3 C rfl (dL_law_p15 25 rfl) ?_
  refine x_iconst (v := 1) C (by decide) (dL_law_p15 26 rfl) ?_
  refine x_iadd C (dL_law_p15 27 rfl) ?_
  obtain ⟨h208, hp⟩ := hp
  refine x_sld C hX h208 (dL_law_p15 28 rfl) ?_
  refine x_aload_n 0 C rfl (dL_law_p15 29 rfl) ?_
  refine x_iload_n 3 C rfl (dL_law_p15 30 rfl) ?_
  refine x_iconst (v := 2) C (by decide) (dL_law_p15 31 rfl) ?_
  refine x_iadd C (dL_law_p15 32 rfl) ?_
  obtain ⟨h209, hp⟩ := hp
  refine x_sld C hX h209 (dL_law_p15 33 rfl) ?_
  refine x_aload_n 0 C rfl (dL_law_p15 34 rfl) ?_
  refine x_iload_n 3 C rfl (dL_law_p15 35 rfl) ?_
  refine x_iconst (v := 3) C (by decide) (dL_law_p15 36 rfl) ?_
  refine x_iadd C (dL_law_p15 37 rfl) ?_
  obtain ⟨h210, hp⟩ := hp
  refine x_sld C hX h210 (dL_law_p15 38 rfl) ?_
  refine x_cvI (As := [.int (xs (ix (u3 + 1))), .int (xs (ix (u3 + 2))), .int (xs (ix (u3 + 3)))]) (st := [.int r207]) C LRL_118 (ci := 8) rfl rfl (by decide) (by decide) (m_X8_rankedHead (kL κ) (kad κ) (kD κ) (kca κ) C.ado (xs (ix (u3 + 1))) (xs (ix (u3 + 2))) (xs (ix (u3 + 3)))  s206 _ hp) rfl (by decide) rfl (Nat.le_of_ble_eq_true rfl) (dL_law_p15 39 rfl) (fun r212 s211 hp => ?_)
  refine x_icmp_eq (tgt := 1493) C (dL_law_p16 0 rfl) (by decide) (fun hc => ?_) (fun hc => ?_)
  · have hp := hp.1 hc
    obtain ⟨v213, ev213⟩ : ∃ z : Int32, z = u3 + 5 := ⟨_, rfl⟩
    have hp := hp v213 ev213
    refine x_iinc (v := v213) (loc' := [(3, .int v213), (0, .ref b), (1, .ref (kad κ 0)), (2, .ref (kad κ 204))]) 3 C rfl (by rw [ev213]; rfl) (by decide) rfl (dL_law_p25 23 rfl) ?_
    refine x_goto (tgt := 18) C (dL_law_p25 24 rfl) (by decide) ?_
    refine x_loc (loc' := [(0, .ref b), (1, .ref (kad κ 0)), (2, .ref (kad κ 204)), (3, .int v213)]) [1, 2, 3, 0] rfl ?_
    exact hc18 v213 s211 hp
  · have hp := hp.2 hc
    refine x_iconst (v := 0) C (by decide) (dL_law_p16 1 rfl) ?_
    exact hp.elim
def J_L_law_1003 (L : Nat) (xs : Nat → Int32) (K : Unit) (c18 : (Int32 × St) → Prop) (u3 : Int32) (σ : St) : Prop := vp_in (u3 + 1) L ∧ (vp_in (u3 + 2) L ∧ (vp_in (u3 + 3) L ∧ (P_X7_regret (xs (ix (u3 + 1))) (xs (ix (u3 + 2))) (xs (ix (u3 + 3))) σ (fun r218 s217 => vp_in (u3 + 1) L ∧ (vp_in (u3 + 2) L ∧ (vp_in (u3 + 3) L ∧ (P_X8_regret (xs (ix (u3 + 1))) (xs (ix (u3 + 2))) (xs (ix (u3 + 3))) s217 (fun r223 s222 => (r218 = r223 → ∀ v224 : Int32, v224 = u3 + 5 → c18 (v224, s222)) ∧ (¬ (r218 = r223) → (False))))))))))
set_option maxHeartbeats 4000000 in
set_option maxRecDepth 100000 in
theorem J_L_law_1003_w {κ : Kap} {K : Unit} {b L : Nat} {xs : Nat → Int32} {c18 : (Int32 × St) → Prop} (C : Ok κ RL cL_law 4 17) (hret : ∀ (pc : Nat) (loc : List (Nat × Value)) (σ : St), decode cL_law pc = .ok (.ireturn, 1) → GG κ pc loc [.int 1] σ) (hX : lawX κ b L xs) (u3 : Int32)     (σ : St) (hc18 : ∀ (u3 : Int32) (σ : St), c18 (u3, σ) → GG κ 18 [(0, .ref b), (1, .ref (kad κ 0)), (2, .ref (kad κ 204)), (3, .int u3)] [] σ) (hp : J_L_law_1003 L xs K c18 u3 σ) : GG κ 1003 [(0, .ref b), (1, .ref (kad κ 0)), (2, .ref (kad κ 204)), (3, .int u3)] [] σ := by
  unfold J_L_law_1003 at hp
  refine x_aload_n 1 C rfl (dL_law_p16 3 rfl) ?_
  refine x_aload_n 0 C rfl (dL_law_p16 4 rfl) ?_
  refine x_iload_n 3 C rfl (dL_law_p16 5 rfl) ?_
  refine x_iconst (v := 1) C (by decide) (dL_law_p16 6 rfl) ?_
  refine x_iadd C (dL_law_p16 7 rfl) ?_
  obtain ⟨h214, hp⟩ := hp
  refine x_sld C hX h214 (dL_law_p16 8 rfl) ?_
  refine x_aload_n 0 C rfl (dL_law_p16 9 rfl) ?_
  refine x_iload_n 3 C rfl (dL_law_p16 10 rfl) ?_
  refine x_iconst (v := 2) C (by decide) (dL_law_p16 11 rfl) ?_
  refine x_iadd C (dL_law_p16 12 rfl) ?_
  obtain ⟨h215, hp⟩ := hp
  refine x_sld C hX h215 (dL_law_p16 13 rfl) ?_
  refine x_aload_n 0 C rfl (dL_law_p16 14 rfl) ?_
  refine x_iload_n 3 C rfl (dL_law_p16 15 rfl) ?_
  refine x_iconst (v := 3) C (by decide) (dL_law_p16 16 rfl) ?_
  refine x_iadd C (dL_law_p16 17 rfl) ?_
  obtain ⟨h216, hp⟩ := hp
  refine x_sld C hX h216 (dL_law_p16 18 rfl) ?_
  refine x_cvI (As := [.int (xs (ix (u3 + 1))), .int (xs (ix (u3 + 2))), .int (xs (ix (u3 + 3)))]) (st := []) C LRL_119 (ci := 7) rfl rfl (by decide) (by decide) (m_X7_regret (kL κ) (kad κ) (kD κ) (kca κ) C.ado (xs (ix (u3 + 1))) (xs (ix (u3 + 2))) (xs (ix (u3 + 3)))  σ _ hp) rfl (by decide) rfl (Nat.le_of_ble_eq_true rfl) (dL_law_p16 19 rfl) (fun r218 s217 hp => ?_)
  refine x_aload_n 2 C rfl (dL_law_p16 20 rfl) ?_
  refine x_aload_n 0 C rfl (dL_law_p16 21 rfl) ?_
  refine x_iload_n 3 C rfl (dL_law_p16 22 rfl) ?_
  refine x_iconst (v := 1) C (by decide) (dL_law_p16 23 rfl) ?_
  refine x_iadd C (dL_law_p16 24 rfl) ?_
  obtain ⟨h219, hp⟩ := hp
  refine x_sld C hX h219 (dL_law_p16 25 rfl) ?_
  refine x_aload_n 0 C rfl (dL_law_p16 26 rfl) ?_
  refine x_iload_n 3 C rfl (dL_law_p16 27 rfl) ?_
  refine x_iconst (v := 2) C (by decide) (dL_law_p16 28 rfl) ?_
  refine x_iadd C (dL_law_p16 29 rfl) ?_
  obtain ⟨h220, hp⟩ := hp
  refine x_sld C hX h220 (dL_law_p16 30 rfl) ?_
  refine x_aload_n 0 C rfl (dL_law_p16 31 rfl) ?_
  refine x_iload_n 3 C rfl (dL_law_p16 32 rfl) ?_
  refine x_iconst (v := 3) C (by decide) (dL_law_p16 33 rfl) ?_
  refine x_iadd C (dL_law_p16 34 rfl) ?_
  obtain ⟨h221, hp⟩ := hp
  refine x_sld C hX h221 (dL_law_p16 35 rfl) ?_
  refine x_cvI (As := [.int (xs (ix (u3 + 1))), .int (xs (ix (u3 + 2))), .int (xs (ix (u3 + 3)))]) (st := [.int r218]) C LRL_122 (ci := 8) rfl rfl (by decide) (by decide) (m_X8_regret (kL κ) (kad κ) (kD κ) (kca κ) C.ado (xs (ix (u3 + 1))) (xs (ix (u3 + 2))) (xs (ix (u3 + 3)))  s217 _ hp) rfl (by decide) rfl (Nat.le_of_ble_eq_true rfl) (dL_law_p16 36 rfl) (fun r223 s222 hp => ?_)
  refine x_icmp_eq (tgt := 1493) C (dL_law_p16 37 rfl) (by decide) (fun hc => ?_) (fun hc => ?_)
  · have hp := hp.1 hc
    obtain ⟨v224, ev224⟩ : ∃ z : Int32, z = u3 + 5 := ⟨_, rfl⟩
    have hp := hp v224 ev224
    refine x_iinc (v := v224) (loc' := [(3, .int v224), (0, .ref b), (1, .ref (kad κ 0)), (2, .ref (kad κ 204))]) 3 C rfl (by rw [ev224]; rfl) (by decide) rfl (dL_law_p25 23 rfl) ?_
    refine x_goto (tgt := 18) C (dL_law_p25 24 rfl) (by decide) ?_
    refine x_loc (loc' := [(0, .ref b), (1, .ref (kad κ 0)), (2, .ref (kad κ 204)), (3, .int v224)]) [1, 2, 3, 0] rfl ?_
    exact hc18 v224 s222 hp
  · have hp := hp.2 hc
    refine x_iconst (v := 0) C (by decide) (dL_law_p16 38 rfl) ?_
    exact hp.elim
def J_L_law_1046 (L : Nat) (xs : Nat → Int32) (K : Unit) (c18 : (Int32 × St) → Prop) (u3 : Int32) (σ : St) : Prop := vp_in (u3 + 1) L ∧ (P_X7_margin (xs (ix (u3 + 1))) σ (fun r227 s226 => vp_in (u3 + 1) L ∧ (P_X8_margin (xs (ix (u3 + 1))) s226 (fun r230 s229 => (r227 = r230 → ∀ v231 : Int32, v231 = u3 + 5 → c18 (v231, s229)) ∧ (¬ (r227 = r230) → (False))))))
set_option maxHeartbeats 4000000 in
set_option maxRecDepth 100000 in
theorem J_L_law_1046_w {κ : Kap} {K : Unit} {b L : Nat} {xs : Nat → Int32} {c18 : (Int32 × St) → Prop} (C : Ok κ RL cL_law 4 17) (hret : ∀ (pc : Nat) (loc : List (Nat × Value)) (σ : St), decode cL_law pc = .ok (.ireturn, 1) → GG κ pc loc [.int 1] σ) (hX : lawX κ b L xs) (u3 : Int32)     (σ : St) (hc18 : ∀ (u3 : Int32) (σ : St), c18 (u3, σ) → GG κ 18 [(0, .ref b), (1, .ref (kad κ 0)), (2, .ref (kad κ 204)), (3, .int u3)] [] σ) (hp : J_L_law_1046 L xs K c18 u3 σ) : GG κ 1046 [(0, .ref b), (1, .ref (kad κ 0)), (2, .ref (kad κ 204)), (3, .int u3)] [] σ := by
  unfold J_L_law_1046 at hp
  refine x_aload_n 1 C rfl (dL_law_p17 0 rfl) ?_
  refine x_aload_n 0 C rfl (dL_law_p17 1 rfl) ?_
  refine x_iload_n 3 C rfl (dL_law_p17 2 rfl) ?_
  refine x_iconst (v := 1) C (by decide) (dL_law_p17 3 rfl) ?_
  refine x_iadd C (dL_law_p17 4 rfl) ?_
  obtain ⟨h225, hp⟩ := hp
  refine x_sld C hX h225 (dL_law_p17 5 rfl) ?_
  refine x_cvI (As := [.int (xs (ix (u3 + 1)))]) (st := []) C LRL_123 (ci := 7) rfl rfl (by decide) (by decide) (m_X7_margin (kL κ) (kad κ) (kD κ) (kca κ) C.ado (xs (ix (u3 + 1)))  σ _ hp) rfl (by decide) rfl (Nat.le_of_ble_eq_true rfl) (dL_law_p17 6 rfl) (fun r227 s226 hp => ?_)
  refine x_aload_n 2 C rfl (dL_law_p17 7 rfl) ?_
  refine x_aload_n 0 C rfl (dL_law_p17 8 rfl) ?_
  refine x_iload_n 3 C rfl (dL_law_p17 9 rfl) ?_
  refine x_iconst (v := 1) C (by decide) (dL_law_p17 10 rfl) ?_
  refine x_iadd C (dL_law_p17 11 rfl) ?_
  obtain ⟨h228, hp⟩ := hp
  refine x_sld C hX h228 (dL_law_p17 12 rfl) ?_
  refine x_cvI (As := [.int (xs (ix (u3 + 1)))]) (st := [.int r227]) C LRL_126 (ci := 8) rfl rfl (by decide) (by decide) (m_X8_margin (kL κ) (kad κ) (kD κ) (kca κ) C.ado (xs (ix (u3 + 1)))  s226 _ hp) rfl (by decide) rfl (Nat.le_of_ble_eq_true rfl) (dL_law_p17 13 rfl) (fun r230 s229 hp => ?_)
  refine x_icmp_eq (tgt := 1493) C (dL_law_p17 14 rfl) (by decide) (fun hc => ?_) (fun hc => ?_)
  · have hp := hp.1 hc
    obtain ⟨v231, ev231⟩ : ∃ z : Int32, z = u3 + 5 := ⟨_, rfl⟩
    have hp := hp v231 ev231
    refine x_iinc (v := v231) (loc' := [(3, .int v231), (0, .ref b), (1, .ref (kad κ 0)), (2, .ref (kad κ 204))]) 3 C rfl (by rw [ev231]; rfl) (by decide) rfl (dL_law_p25 23 rfl) ?_
    refine x_goto (tgt := 18) C (dL_law_p25 24 rfl) (by decide) ?_
    refine x_loc (loc' := [(0, .ref b), (1, .ref (kad κ 0)), (2, .ref (kad κ 204)), (3, .int v231)]) [1, 2, 3, 0] rfl ?_
    exact hc18 v231 s229 hp
  · have hp := hp.2 hc
    refine x_iconst (v := 0) C (by decide) (dL_law_p17 15 rfl) ?_
    exact hp.elim
def J_L_law_1069 (L : Nat) (xs : Nat → Int32) (K : Unit) (c18 : (Int32 × St) → Prop) (u3 : Int32) (σ : St) : Prop := vp_in (u3 + 1) L ∧ (P_X7_correct (xs (ix (u3 + 1))) σ (fun r234 s233 => vp_in (u3 + 1) L ∧ (P_X8_correct (xs (ix (u3 + 1))) s233 (fun r237 s236 => (r234 = r237 → ∀ v238 : Int32, v238 = u3 + 5 → c18 (v238, s236)) ∧ (¬ (r234 = r237) → (False))))))
set_option maxHeartbeats 4000000 in
set_option maxRecDepth 100000 in
theorem J_L_law_1069_w {κ : Kap} {K : Unit} {b L : Nat} {xs : Nat → Int32} {c18 : (Int32 × St) → Prop} (C : Ok κ RL cL_law 4 17) (hret : ∀ (pc : Nat) (loc : List (Nat × Value)) (σ : St), decode cL_law pc = .ok (.ireturn, 1) → GG κ pc loc [.int 1] σ) (hX : lawX κ b L xs) (u3 : Int32)     (σ : St) (hc18 : ∀ (u3 : Int32) (σ : St), c18 (u3, σ) → GG κ 18 [(0, .ref b), (1, .ref (kad κ 0)), (2, .ref (kad κ 204)), (3, .int u3)] [] σ) (hp : J_L_law_1069 L xs K c18 u3 σ) : GG κ 1069 [(0, .ref b), (1, .ref (kad κ 0)), (2, .ref (kad κ 204)), (3, .int u3)] [] σ := by
  unfold J_L_law_1069 at hp
  refine x_aload_n 1 C rfl (dL_law_p17 17 rfl) ?_
  refine x_aload_n 0 C rfl (dL_law_p17 18 rfl) ?_
  refine x_iload_n 3 C rfl (dL_law_p17 19 rfl) ?_
  refine x_iconst (v := 1) C (by decide) (dL_law_p17 20 rfl) ?_
  refine x_iadd C (dL_law_p17 21 rfl) ?_
  obtain ⟨h232, hp⟩ := hp
  refine x_sld C hX h232 (dL_law_p17 22 rfl) ?_
  refine x_cvI (As := [.int (xs (ix (u3 + 1)))]) (st := []) C LRL_127 (ci := 7) rfl rfl (by decide) (by decide) (m_X7_correct (kL κ) (kad κ) (kD κ) (kca κ) C.ado (xs (ix (u3 + 1)))  σ _ hp) rfl (by decide) rfl (Nat.le_of_ble_eq_true rfl) (dL_law_p17 23 rfl) (fun r234 s233 hp => ?_)
  refine x_aload_n 2 C rfl (dL_law_p17 24 rfl) ?_
  refine x_aload_n 0 C rfl (dL_law_p17 25 rfl) ?_
  refine x_iload_n 3 C rfl (dL_law_p17 26 rfl) ?_
  refine x_iconst (v := 1) C (by decide) (dL_law_p17 27 rfl) ?_
  refine x_iadd C (dL_law_p17 28 rfl) ?_
  obtain ⟨h235, hp⟩ := hp
  refine x_sld C hX h235 (dL_law_p17 29 rfl) ?_
  refine x_cvI (As := [.int (xs (ix (u3 + 1)))]) (st := [.int r234]) C LRL_130 (ci := 8) rfl rfl (by decide) (by decide) (m_X8_correct (kL κ) (kad κ) (kD κ) (kca κ) C.ado (xs (ix (u3 + 1)))  s233 _ hp) rfl (by decide) rfl (Nat.le_of_ble_eq_true rfl) (dL_law_p17 30 rfl) (fun r237 s236 hp => ?_)
  refine x_icmp_eq (tgt := 1493) C (dL_law_p17 31 rfl) (by decide) (fun hc => ?_) (fun hc => ?_)
  · have hp := hp.1 hc
    obtain ⟨v238, ev238⟩ : ∃ z : Int32, z = u3 + 5 := ⟨_, rfl⟩
    have hp := hp v238 ev238
    refine x_iinc (v := v238) (loc' := [(3, .int v238), (0, .ref b), (1, .ref (kad κ 0)), (2, .ref (kad κ 204))]) 3 C rfl (by rw [ev238]; rfl) (by decide) rfl (dL_law_p25 23 rfl) ?_
    refine x_goto (tgt := 18) C (dL_law_p25 24 rfl) (by decide) ?_
    refine x_loc (loc' := [(0, .ref b), (1, .ref (kad κ 0)), (2, .ref (kad κ 204)), (3, .int v238)]) [1, 2, 3, 0] rfl ?_
    exact hc18 v238 s236 hp
  · have hp := hp.2 hc
    refine x_iconst (v := 0) C (by decide) (dL_law_p17 32 rfl) ?_
    exact hp.elim
def J_L_law_1092 (L : Nat) (xs : Nat → Int32) (K : Unit) (c18 : (Int32 × St) → Prop) (u3 : Int32) (σ : St) : Prop := vp_in (u3 + 1) L ∧ (P_X7_treeCount (xs (ix (u3 + 1))) σ (fun r241 s240 => vp_in (u3 + 1) L ∧ (P_X8_treeCount (xs (ix (u3 + 1))) s240 (fun r244 s243 => (r241 = r244 → ∀ v245 : Int32, v245 = u3 + 5 → c18 (v245, s243)) ∧ (¬ (r241 = r244) → (False))))))
set_option maxHeartbeats 4000000 in
set_option maxRecDepth 100000 in
theorem J_L_law_1092_w {κ : Kap} {K : Unit} {b L : Nat} {xs : Nat → Int32} {c18 : (Int32 × St) → Prop} (C : Ok κ RL cL_law 4 17) (hret : ∀ (pc : Nat) (loc : List (Nat × Value)) (σ : St), decode cL_law pc = .ok (.ireturn, 1) → GG κ pc loc [.int 1] σ) (hX : lawX κ b L xs) (u3 : Int32)     (σ : St) (hc18 : ∀ (u3 : Int32) (σ : St), c18 (u3, σ) → GG κ 18 [(0, .ref b), (1, .ref (kad κ 0)), (2, .ref (kad κ 204)), (3, .int u3)] [] σ) (hp : J_L_law_1092 L xs K c18 u3 σ) : GG κ 1092 [(0, .ref b), (1, .ref (kad κ 0)), (2, .ref (kad κ 204)), (3, .int u3)] [] σ := by
  unfold J_L_law_1092 at hp
  refine x_aload_n 1 C rfl (dL_law_p17 34 rfl) ?_
  refine x_aload_n 0 C rfl (dL_law_p17 35 rfl) ?_
  refine x_iload_n 3 C rfl (dL_law_p17 36 rfl) ?_
  refine x_iconst (v := 1) C (by decide) (dL_law_p17 37 rfl) ?_
  refine x_iadd C (dL_law_p17 38 rfl) ?_
  obtain ⟨h239, hp⟩ := hp
  refine x_sld C hX h239 (dL_law_p17 39 rfl) ?_
  refine x_cvI (As := [.int (xs (ix (u3 + 1)))]) (st := []) C LRL_131 (ci := 7) rfl rfl (by decide) (by decide) (m_X7_treeCount (kL κ) (kad κ) (kD κ) (kca κ) C.ado (xs (ix (u3 + 1)))  σ _ hp) rfl (by decide) rfl (Nat.le_of_ble_eq_true rfl) (dL_law_p18 0 rfl) (fun r241 s240 hp => ?_)
  refine x_aload_n 2 C rfl (dL_law_p18 1 rfl) ?_
  refine x_aload_n 0 C rfl (dL_law_p18 2 rfl) ?_
  refine x_iload_n 3 C rfl (dL_law_p18 3 rfl) ?_
  refine x_iconst (v := 1) C (by decide) (dL_law_p18 4 rfl) ?_
  refine x_iadd C (dL_law_p18 5 rfl) ?_
  obtain ⟨h242, hp⟩ := hp
  refine x_sld C hX h242 (dL_law_p18 6 rfl) ?_
  refine x_cvI (As := [.int (xs (ix (u3 + 1)))]) (st := [.int r241]) C LRL_134 (ci := 8) rfl rfl (by decide) (by decide) (m_X8_treeCount (kL κ) (kad κ) (kD κ) (kca κ) C.ado (xs (ix (u3 + 1)))  s240 _ hp) rfl (by decide) rfl (Nat.le_of_ble_eq_true rfl) (dL_law_p18 7 rfl) (fun r244 s243 hp => ?_)
  refine x_icmp_eq (tgt := 1493) C (dL_law_p18 8 rfl) (by decide) (fun hc => ?_) (fun hc => ?_)
  · have hp := hp.1 hc
    obtain ⟨v245, ev245⟩ : ∃ z : Int32, z = u3 + 5 := ⟨_, rfl⟩
    have hp := hp v245 ev245
    refine x_iinc (v := v245) (loc' := [(3, .int v245), (0, .ref b), (1, .ref (kad κ 0)), (2, .ref (kad κ 204))]) 3 C rfl (by rw [ev245]; rfl) (by decide) rfl (dL_law_p25 23 rfl) ?_
    refine x_goto (tgt := 18) C (dL_law_p25 24 rfl) (by decide) ?_
    refine x_loc (loc' := [(0, .ref b), (1, .ref (kad κ 0)), (2, .ref (kad κ 204)), (3, .int v245)]) [1, 2, 3, 0] rfl ?_
    exact hc18 v245 s243 hp
  · have hp := hp.2 hc
    refine x_iconst (v := 0) C (by decide) (dL_law_p18 9 rfl) ?_
    exact hp.elim
def J_L_law_1115 (L : Nat) (xs : Nat → Int32) (K : Unit) (c18 : (Int32 × St) → Prop) (u3 : Int32) (σ : St) : Prop := vp_in (u3 + 1) L ∧ (P_X7_weightSum (xs (ix (u3 + 1))) σ (fun r248 s247 => vp_in (u3 + 1) L ∧ (P_X8_weightSum (xs (ix (u3 + 1))) s247 (fun r251 s250 => (r248 = r251 → ∀ v252 : Int32, v252 = u3 + 5 → c18 (v252, s250)) ∧ (¬ (r248 = r251) → (False))))))
set_option maxHeartbeats 4000000 in
set_option maxRecDepth 100000 in
theorem J_L_law_1115_w {κ : Kap} {K : Unit} {b L : Nat} {xs : Nat → Int32} {c18 : (Int32 × St) → Prop} (C : Ok κ RL cL_law 4 17) (hret : ∀ (pc : Nat) (loc : List (Nat × Value)) (σ : St), decode cL_law pc = .ok (.ireturn, 1) → GG κ pc loc [.int 1] σ) (hX : lawX κ b L xs) (u3 : Int32)     (σ : St) (hc18 : ∀ (u3 : Int32) (σ : St), c18 (u3, σ) → GG κ 18 [(0, .ref b), (1, .ref (kad κ 0)), (2, .ref (kad κ 204)), (3, .int u3)] [] σ) (hp : J_L_law_1115 L xs K c18 u3 σ) : GG κ 1115 [(0, .ref b), (1, .ref (kad κ 0)), (2, .ref (kad κ 204)), (3, .int u3)] [] σ := by
  unfold J_L_law_1115 at hp
  refine x_aload_n 1 C rfl (dL_law_p18 11 rfl) ?_
  refine x_aload_n 0 C rfl (dL_law_p18 12 rfl) ?_
  refine x_iload_n 3 C rfl (dL_law_p18 13 rfl) ?_
  refine x_iconst (v := 1) C (by decide) (dL_law_p18 14 rfl) ?_
  refine x_iadd C (dL_law_p18 15 rfl) ?_
  obtain ⟨h246, hp⟩ := hp
  refine x_sld C hX h246 (dL_law_p18 16 rfl) ?_
  refine x_cvL (As := [.int (xs (ix (u3 + 1)))]) (st := []) C LRL_135 (ci := 7) rfl rfl (by decide) (by decide) (m_X7_weightSum (kL κ) (kad κ) (kD κ) (kca κ) C.ado (xs (ix (u3 + 1)))  σ _ hp) rfl (by decide) rfl (Nat.le_of_ble_eq_true rfl) (dL_law_p18 17 rfl) (fun r248 s247 hp => ?_)
  refine x_aload_n 2 C rfl (dL_law_p18 18 rfl) ?_
  refine x_aload_n 0 C rfl (dL_law_p18 19 rfl) ?_
  refine x_iload_n 3 C rfl (dL_law_p18 20 rfl) ?_
  refine x_iconst (v := 1) C (by decide) (dL_law_p18 21 rfl) ?_
  refine x_iadd C (dL_law_p18 22 rfl) ?_
  obtain ⟨h249, hp⟩ := hp
  refine x_sld C hX h249 (dL_law_p18 23 rfl) ?_
  refine x_cvL (As := [.int (xs (ix (u3 + 1)))]) (st := [.long r248]) C LRL_139 (ci := 8) rfl rfl (by decide) (by decide) (m_X8_weightSum (kL κ) (kad κ) (kD κ) (kca κ) C.ado (xs (ix (u3 + 1)))  s247 _ hp) rfl (by decide) rfl (Nat.le_of_ble_eq_true rfl) (dL_law_p18 24 rfl) (fun r251 s250 hp => ?_)
  refine x_lcmp C (dL_law_p18 25 rfl) ?_
  refine x_if_eq (tgt := 1493) C (dL_law_p18 26 rfl) (by decide) (fun hc => ?_) (fun hc => ?_)
  · have hp := hp.1 (lgc_eq.mp hc)
    obtain ⟨v252, ev252⟩ : ∃ z : Int32, z = u3 + 5 := ⟨_, rfl⟩
    have hp := hp v252 ev252
    refine x_iinc (v := v252) (loc' := [(3, .int v252), (0, .ref b), (1, .ref (kad κ 0)), (2, .ref (kad κ 204))]) 3 C rfl (by rw [ev252]; rfl) (by decide) rfl (dL_law_p25 23 rfl) ?_
    refine x_goto (tgt := 18) C (dL_law_p25 24 rfl) (by decide) ?_
    refine x_loc (loc' := [(0, .ref b), (1, .ref (kad κ 0)), (2, .ref (kad κ 204)), (3, .int v252)]) [1, 2, 3, 0] rfl ?_
    exact hc18 v252 s250 hp
  · have hp := hp.2 (fun q => hc (lgc_eq.mpr q))
    refine x_iconst (v := 0) C (by decide) (dL_law_p18 27 rfl) ?_
    exact hp.elim
def J_L_law_1200 (L : Nat) (xs : Nat → Int32) (K : Unit) (c18 : (Int32 × St) → Prop) (u3 : Int32) (t0 : Int64) (t2 : Int32) (t3 : Int32) (t4 : Int32) (t5 : Int32) (σ : St) : Prop := P_X8_chance t2 t3 t4 t5 σ (fun r264 s263 => (t0 = r264 → ∀ v265 : Int32, v265 = u3 + 5 → c18 (v265, s263)) ∧ (¬ (t0 = r264) → (False)))
set_option maxHeartbeats 4000000 in
set_option maxRecDepth 100000 in
theorem J_L_law_1200_w {κ : Kap} {K : Unit} {b L : Nat} {xs : Nat → Int32} {c18 : (Int32 × St) → Prop} (C : Ok κ RL cL_law 4 17) (hret : ∀ (pc : Nat) (loc : List (Nat × Value)) (σ : St), decode cL_law pc = .ok (.ireturn, 1) → GG κ pc loc [.int 1] σ) (hX : lawX κ b L xs) (u3 : Int32) (t0 : Int64) (t2 : Int32) (t3 : Int32) (t4 : Int32) (t5 : Int32)           (σ : St) (hc18 : ∀ (u3 : Int32) (σ : St), c18 (u3, σ) → GG κ 18 [(0, .ref b), (1, .ref (kad κ 0)), (2, .ref (kad κ 204)), (3, .int u3)] [] σ) (hp : J_L_law_1200 L xs K c18 u3 t0 t2 t3 t4 t5 σ) : GG κ 1200 [(0, .ref b), (1, .ref (kad κ 0)), (2, .ref (kad κ 204)), (3, .int u3)] [.int t5, .int t4, .int t3, .int t2, .ref (kad κ 204), .long t0] σ := by
  unfold J_L_law_1200 at hp
  refine x_cvL (As := [.int t2, .int t3, .int t4, .int t5]) (st := [.long t0]) C LRL_144 (ci := 8) rfl rfl (by decide) (by decide) (m_X8_chance (kL κ) (kad κ) (kD κ) (kca κ) C.ado t2 t3 t4 t5  σ _ hp) rfl (by decide) rfl (Nat.le_of_ble_eq_true rfl) (dL_law_p20 0 rfl) (fun r264 s263 hp => ?_)
  refine x_lcmp C (dL_law_p20 1 rfl) ?_
  refine x_if_eq (tgt := 1493) C (dL_law_p20 2 rfl) (by decide) (fun hc => ?_) (fun hc => ?_)
  · have hp := hp.1 (lgc_eq.mp hc)
    obtain ⟨v265, ev265⟩ : ∃ z : Int32, z = u3 + 5 := ⟨_, rfl⟩
    have hp := hp v265 ev265
    refine x_iinc (v := v265) (loc' := [(3, .int v265), (0, .ref b), (1, .ref (kad κ 0)), (2, .ref (kad κ 204))]) 3 C rfl (by rw [ev265]; rfl) (by decide) rfl (dL_law_p25 23 rfl) ?_
    refine x_goto (tgt := 18) C (dL_law_p25 24 rfl) (by decide) ?_
    refine x_loc (loc' := [(0, .ref b), (1, .ref (kad κ 0)), (2, .ref (kad κ 204)), (3, .int v265)]) [1, 2, 3, 0] rfl ?_
    exact hc18 v265 s263 hp
  · have hp := hp.2 (fun q => hc (lgc_eq.mpr q))
    refine x_iconst (v := 0) C (by decide) (dL_law_p20 3 rfl) ?_
    exact hp.elim
def J_L_law_1168 (L : Nat) (xs : Nat → Int32) (K : Unit) (c18 : (Int32 × St) → Prop) (u3 : Int32) (t1 : Int32) (t2 : Int32) (t3 : Int32) (t4 : Int32) (σ : St) : Prop := P_X7_chance t1 t2 t3 t4 σ (fun r258 s257 => vp_in (u3 + 1) L ∧ (vp_in (u3 + 2) L ∧ (vp_in (u3 + 3) L ∧ (vp_in (u3 + 4) L ∧ (((xs (ix (u3 + 4))) = 0 → (J_L_law_1200 L xs K c18 u3 r258 (xs (ix (u3 + 1))) (xs (ix (u3 + 2))) (xs (ix (u3 + 3))) 0 s257)) ∧ (¬ ((xs (ix (u3 + 4))) = 0) → (J_L_law_1200 L xs K c18 u3 r258 (xs (ix (u3 + 1))) (xs (ix (u3 + 2))) (xs (ix (u3 + 3))) 1 s257)))))))
set_option maxHeartbeats 4000000 in
set_option maxRecDepth 100000 in
theorem J_L_law_1168_w {κ : Kap} {K : Unit} {b L : Nat} {xs : Nat → Int32} {c18 : (Int32 × St) → Prop} (C : Ok κ RL cL_law 4 17) (hret : ∀ (pc : Nat) (loc : List (Nat × Value)) (σ : St), decode cL_law pc = .ok (.ireturn, 1) → GG κ pc loc [.int 1] σ) (hX : lawX κ b L xs) (u3 : Int32) (t1 : Int32) (t2 : Int32) (t3 : Int32) (t4 : Int32)          (σ : St) (hc18 : ∀ (u3 : Int32) (σ : St), c18 (u3, σ) → GG κ 18 [(0, .ref b), (1, .ref (kad κ 0)), (2, .ref (kad κ 204)), (3, .int u3)] [] σ) (hp : J_L_law_1168 L xs K c18 u3 t1 t2 t3 t4 σ) : GG κ 1168 [(0, .ref b), (1, .ref (kad κ 0)), (2, .ref (kad κ 204)), (3, .int u3)] [.int t4, .int t3, .int t2, .int t1, .ref (kad κ 0)] σ := by
  unfold J_L_law_1168 at hp
  refine x_cvL (As := [.int t1, .int t2, .int t3, .int t4]) (st := []) C LRL_140 (ci := 7) rfl rfl (by decide) (by decide) (m_X7_chance (kL κ) (kad κ) (kD κ) (kca κ) C.ado t1 t2 t3 t4  σ _ hp) rfl (by decide) rfl (Nat.le_of_ble_eq_true rfl) (dL_law_p19 14 rfl) (fun r258 s257 hp => ?_)
  refine x_aload_n 2 C rfl (dL_law_p19 15 rfl) ?_
  refine x_aload_n 0 C rfl (dL_law_p19 16 rfl) ?_
  refine x_iload_n 3 C rfl (dL_law_p19 17 rfl) ?_
  refine x_iconst (v := 1) C (by decide) (dL_law_p19 18 rfl) ?_
  refine x_iadd C (dL_law_p19 19 rfl) ?_
  obtain ⟨h259, hp⟩ := hp
  refine x_sld C hX h259 (dL_law_p19 20 rfl) ?_
  refine x_aload_n 0 C rfl (dL_law_p19 21 rfl) ?_
  refine x_iload_n 3 C rfl (dL_law_p19 22 rfl) ?_
  refine x_iconst (v := 2) C (by decide) (dL_law_p19 23 rfl) ?_
  refine x_iadd C (dL_law_p19 24 rfl) ?_
  obtain ⟨h260, hp⟩ := hp
  refine x_sld C hX h260 (dL_law_p19 25 rfl) ?_
  refine x_aload_n 0 C rfl (dL_law_p19 26 rfl) ?_
  refine x_iload_n 3 C rfl (dL_law_p19 27 rfl) ?_
  refine x_iconst (v := 3) C (by decide) (dL_law_p19 28 rfl) ?_
  refine x_iadd C (dL_law_p19 29 rfl) ?_
  obtain ⟨h261, hp⟩ := hp
  refine x_sld C hX h261 (dL_law_p19 30 rfl) ?_
  refine x_aload_n 0 C rfl (dL_law_p19 31 rfl) ?_
  refine x_iload_n 3 C rfl (dL_law_p19 32 rfl) ?_
  refine x_iconst (v := 4) C (by decide) (dL_law_p19 33 rfl) ?_
  refine x_iadd C (dL_law_p19 34 rfl) ?_
  obtain ⟨h262, hp⟩ := hp
  refine x_sld C hX h262 (dL_law_p19 35 rfl) ?_
  refine x_if_eq (tgt := 1199) C (dL_law_p19 36 rfl) (by decide) (fun hc => ?_) (fun hc => ?_)
  · have hp := hp.1 hc
    refine x_iconst (v := 0) C (by decide) (dL_law_p19 39 rfl) ?_
    exact J_L_law_1200_w C hret hX u3 r258 (xs (ix (u3 + 1))) (xs (ix (u3 + 2))) (xs (ix (u3 + 3))) 0  s257 hc18 hp
  · have hp := hp.2 hc
    refine x_iconst (v := 1) C (by decide) (dL_law_p19 37 rfl) ?_
    refine x_goto (tgt := 1200) C (dL_law_p19 38 rfl) (by decide) ?_
    exact J_L_law_1200_w C hret hX u3 r258 (xs (ix (u3 + 1))) (xs (ix (u3 + 2))) (xs (ix (u3 + 3))) 1  s257 hc18 hp
def J_L_law_1139 (L : Nat) (xs : Nat → Int32) (K : Unit) (c18 : (Int32 × St) → Prop) (u3 : Int32) (σ : St) : Prop := vp_in (u3 + 1) L ∧ (vp_in (u3 + 2) L ∧ (vp_in (u3 + 3) L ∧ (vp_in (u3 + 4) L ∧ (((xs (ix (u3 + 4))) = 0 → (J_L_law_1168 L xs K c18 u3 (xs (ix (u3 + 1))) (xs (ix (u3 + 2))) (xs (ix (u3 + 3))) 0 σ)) ∧ (¬ ((xs (ix (u3 + 4))) = 0) → (J_L_law_1168 L xs K c18 u3 (xs (ix (u3 + 1))) (xs (ix (u3 + 2))) (xs (ix (u3 + 3))) 1 σ))))))
set_option maxHeartbeats 4000000 in
set_option maxRecDepth 100000 in
theorem J_L_law_1139_w {κ : Kap} {K : Unit} {b L : Nat} {xs : Nat → Int32} {c18 : (Int32 × St) → Prop} (C : Ok κ RL cL_law 4 17) (hret : ∀ (pc : Nat) (loc : List (Nat × Value)) (σ : St), decode cL_law pc = .ok (.ireturn, 1) → GG κ pc loc [.int 1] σ) (hX : lawX κ b L xs) (u3 : Int32)     (σ : St) (hc18 : ∀ (u3 : Int32) (σ : St), c18 (u3, σ) → GG κ 18 [(0, .ref b), (1, .ref (kad κ 0)), (2, .ref (kad κ 204)), (3, .int u3)] [] σ) (hp : J_L_law_1139 L xs K c18 u3 σ) : GG κ 1139 [(0, .ref b), (1, .ref (kad κ 0)), (2, .ref (kad κ 204)), (3, .int u3)] [] σ := by
  unfold J_L_law_1139 at hp
  refine x_aload_n 1 C rfl (dL_law_p18 29 rfl) ?_
  refine x_aload_n 0 C rfl (dL_law_p18 30 rfl) ?_
  refine x_iload_n 3 C rfl (dL_law_p18 31 rfl) ?_
  refine x_iconst (v := 1) C (by decide) (dL_law_p18 32 rfl) ?_
  refine x_iadd C (dL_law_p18 33 rfl) ?_
  obtain ⟨h253, hp⟩ := hp
  refine x_sld C hX h253 (dL_law_p18 34 rfl) ?_
  refine x_aload_n 0 C rfl (dL_law_p18 35 rfl) ?_
  refine x_iload_n 3 C rfl (dL_law_p18 36 rfl) ?_
  refine x_iconst (v := 2) C (by decide) (dL_law_p18 37 rfl) ?_
  refine x_iadd C (dL_law_p18 38 rfl) ?_
  obtain ⟨h254, hp⟩ := hp
  refine x_sld C hX h254 (dL_law_p18 39 rfl) ?_
  refine x_aload_n 0 C rfl (dL_law_p19 0 rfl) ?_
  refine x_iload_n 3 C rfl (dL_law_p19 1 rfl) ?_
  refine x_iconst (v := 3) C (by decide) (dL_law_p19 2 rfl) ?_
  refine x_iadd C (dL_law_p19 3 rfl) ?_
  obtain ⟨h255, hp⟩ := hp
  refine x_sld C hX h255 (dL_law_p19 4 rfl) ?_
  refine x_aload_n 0 C rfl (dL_law_p19 5 rfl) ?_
  refine x_iload_n 3 C rfl (dL_law_p19 6 rfl) ?_
  refine x_iconst (v := 4) C (by decide) (dL_law_p19 7 rfl) ?_
  refine x_iadd C (dL_law_p19 8 rfl) ?_
  obtain ⟨h256, hp⟩ := hp
  refine x_sld C hX h256 (dL_law_p19 9 rfl) ?_
  refine x_if_eq (tgt := 1167) C (dL_law_p19 10 rfl) (by decide) (fun hc => ?_) (fun hc => ?_)
  · have hp := hp.1 hc
    refine x_iconst (v := 0) C (by decide) (dL_law_p19 13 rfl) ?_
    exact J_L_law_1168_w C hret hX u3 (xs (ix (u3 + 1))) (xs (ix (u3 + 2))) (xs (ix (u3 + 3))) 0  σ hc18 hp
  · have hp := hp.2 hc
    refine x_iconst (v := 1) C (by decide) (dL_law_p19 11 rfl) ?_
    refine x_goto (tgt := 1168) C (dL_law_p19 12 rfl) (by decide) ?_
    exact J_L_law_1168_w C hret hX u3 (xs (ix (u3 + 1))) (xs (ix (u3 + 2))) (xs (ix (u3 + 3))) 1  σ hc18 hp
def J_L_law_1209 (L : Nat) (xs : Nat → Int32) (K : Unit) (c18 : (Int32 × St) → Prop) (u3 : Int32) (σ : St) : Prop := vp_in (u3 + 1) L ∧ (vp_in (u3 + 2) L ∧ (P_X7_riskHead (xs (ix (u3 + 1))) (xs (ix (u3 + 2))) σ (fun r269 s268 => vp_in (u3 + 1) L ∧ (vp_in (u3 + 2) L ∧ (P_X8_riskHead (xs (ix (u3 + 1))) (xs (ix (u3 + 2))) s268 (fun r273 s272 => (r269 = r273 → ∀ v274 : Int32, v274 = u3 + 5 → c18 (v274, s272)) ∧ (¬ (r269 = r273) → (False))))))))
set_option maxHeartbeats 4000000 in
set_option maxRecDepth 100000 in
theorem J_L_law_1209_w {κ : Kap} {K : Unit} {b L : Nat} {xs : Nat → Int32} {c18 : (Int32 × St) → Prop} (C : Ok κ RL cL_law 4 17) (hret : ∀ (pc : Nat) (loc : List (Nat × Value)) (σ : St), decode cL_law pc = .ok (.ireturn, 1) → GG κ pc loc [.int 1] σ) (hX : lawX κ b L xs) (u3 : Int32)     (σ : St) (hc18 : ∀ (u3 : Int32) (σ : St), c18 (u3, σ) → GG κ 18 [(0, .ref b), (1, .ref (kad κ 0)), (2, .ref (kad κ 204)), (3, .int u3)] [] σ) (hp : J_L_law_1209 L xs K c18 u3 σ) : GG κ 1209 [(0, .ref b), (1, .ref (kad κ 0)), (2, .ref (kad κ 204)), (3, .int u3)] [] σ := by
  unfold J_L_law_1209 at hp
  refine x_aload_n 1 C rfl (dL_law_p20 5 rfl) ?_
  refine x_aload_n 0 C rfl (dL_law_p20 6 rfl) ?_
  refine x_iload_n 3 C rfl (dL_law_p20 7 rfl) ?_
  refine x_iconst (v := 1) C (by decide) (dL_law_p20 8 rfl) ?_
  refine x_iadd C (dL_law_p20 9 rfl) ?_
  obtain ⟨h266, hp⟩ := hp
  refine x_sld C hX h266 (dL_law_p20 10 rfl) ?_
  refine x_aload_n 0 C rfl (dL_law_p20 11 rfl) ?_
  refine x_iload_n 3 C rfl (dL_law_p20 12 rfl) ?_
  refine x_iconst (v := 2) C (by decide) (dL_law_p20 13 rfl) ?_
  refine x_iadd C (dL_law_p20 14 rfl) ?_
  obtain ⟨h267, hp⟩ := hp
  refine x_sld C hX h267 (dL_law_p20 15 rfl) ?_
  refine x_cvI (As := [.int (xs (ix (u3 + 1))), .int (xs (ix (u3 + 2)))]) (st := []) C LRL_145 (ci := 7) rfl rfl (by decide) (by decide) (m_X7_riskHead (kL κ) (kad κ) (kD κ) (kca κ) C.ado (xs (ix (u3 + 1))) (xs (ix (u3 + 2)))  σ _ hp) rfl (by decide) rfl (Nat.le_of_ble_eq_true rfl) (dL_law_p20 16 rfl) (fun r269 s268 hp => ?_)
  refine x_aload_n 2 C rfl (dL_law_p20 17 rfl) ?_
  refine x_aload_n 0 C rfl (dL_law_p20 18 rfl) ?_
  refine x_iload_n 3 C rfl (dL_law_p20 19 rfl) ?_
  refine x_iconst (v := 1) C (by decide) (dL_law_p20 20 rfl) ?_
  refine x_iadd C (dL_law_p20 21 rfl) ?_
  obtain ⟨h270, hp⟩ := hp
  refine x_sld C hX h270 (dL_law_p20 22 rfl) ?_
  refine x_aload_n 0 C rfl (dL_law_p20 23 rfl) ?_
  refine x_iload_n 3 C rfl (dL_law_p20 24 rfl) ?_
  refine x_iconst (v := 2) C (by decide) (dL_law_p20 25 rfl) ?_
  refine x_iadd C (dL_law_p20 26 rfl) ?_
  obtain ⟨h271, hp⟩ := hp
  refine x_sld C hX h271 (dL_law_p20 27 rfl) ?_
  refine x_cvI (As := [.int (xs (ix (u3 + 1))), .int (xs (ix (u3 + 2)))]) (st := [.int r269]) C LRL_148 (ci := 8) rfl rfl (by decide) (by decide) (m_X8_riskHead (kL κ) (kad κ) (kD κ) (kca κ) C.ado (xs (ix (u3 + 1))) (xs (ix (u3 + 2)))  s268 _ hp) rfl (by decide) rfl (Nat.le_of_ble_eq_true rfl) (dL_law_p20 28 rfl) (fun r273 s272 hp => ?_)
  refine x_icmp_eq (tgt := 1493) C (dL_law_p20 29 rfl) (by decide) (fun hc => ?_) (fun hc => ?_)
  · have hp := hp.1 hc
    obtain ⟨v274, ev274⟩ : ∃ z : Int32, z = u3 + 5 := ⟨_, rfl⟩
    have hp := hp v274 ev274
    refine x_iinc (v := v274) (loc' := [(3, .int v274), (0, .ref b), (1, .ref (kad κ 0)), (2, .ref (kad κ 204))]) 3 C rfl (by rw [ev274]; rfl) (by decide) rfl (dL_law_p25 23 rfl) ?_
    refine x_goto (tgt := 18) C (dL_law_p25 24 rfl) (by decide) ?_
    refine x_loc (loc' := [(0, .ref b), (1, .ref (kad κ 0)), (2, .ref (kad κ 204)), (3, .int v274)]) [1, 2, 3, 0] rfl ?_
    exact hc18 v274 s272 hp
  · have hp := hp.2 hc
    refine x_iconst (v := 0) C (by decide) (dL_law_p20 30 rfl) ?_
    exact hp.elim
def J_L_law_1242 (L : Nat) (xs : Nat → Int32) (K : Unit) (c18 : (Int32 × St) → Prop) (u3 : Int32) (σ : St) : Prop := vp_in (u3 + 1) L ∧ (P_X7_crossings (xs (ix (u3 + 1))) σ (fun r277 s276 => vp_in (u3 + 1) L ∧ (P_X8_crossings (xs (ix (u3 + 1))) s276 (fun r280 s279 => (r277 = r280 → ∀ v281 : Int32, v281 = u3 + 5 → c18 (v281, s279)) ∧ (¬ (r277 = r280) → (False))))))
set_option maxHeartbeats 4000000 in
set_option maxRecDepth 100000 in
theorem J_L_law_1242_w {κ : Kap} {K : Unit} {b L : Nat} {xs : Nat → Int32} {c18 : (Int32 × St) → Prop} (C : Ok κ RL cL_law 4 17) (hret : ∀ (pc : Nat) (loc : List (Nat × Value)) (σ : St), decode cL_law pc = .ok (.ireturn, 1) → GG κ pc loc [.int 1] σ) (hX : lawX κ b L xs) (u3 : Int32)     (σ : St) (hc18 : ∀ (u3 : Int32) (σ : St), c18 (u3, σ) → GG κ 18 [(0, .ref b), (1, .ref (kad κ 0)), (2, .ref (kad κ 204)), (3, .int u3)] [] σ) (hp : J_L_law_1242 L xs K c18 u3 σ) : GG κ 1242 [(0, .ref b), (1, .ref (kad κ 0)), (2, .ref (kad κ 204)), (3, .int u3)] [] σ := by
  unfold J_L_law_1242 at hp
  refine x_aload_n 1 C rfl (dL_law_p20 32 rfl) ?_
  refine x_aload_n 0 C rfl (dL_law_p20 33 rfl) ?_
  refine x_iload_n 3 C rfl (dL_law_p20 34 rfl) ?_
  refine x_iconst (v := 1) C (by decide) (dL_law_p20 35 rfl) ?_
  refine x_iadd C (dL_law_p20 36 rfl) ?_
  obtain ⟨h275, hp⟩ := hp
  refine x_sld C hX h275 (dL_law_p20 37 rfl) ?_
  refine x_cvI (As := [.int (xs (ix (u3 + 1)))]) (st := []) C LRL_149 (ci := 7) rfl rfl (by decide) (by decide) (m_X7_crossings (kL κ) (kad κ) (kD κ) (kca κ) C.ado (xs (ix (u3 + 1)))  σ _ hp) rfl (by decide) rfl (Nat.le_of_ble_eq_true rfl) (dL_law_p20 38 rfl) (fun r277 s276 hp => ?_)
  refine x_aload_n 2 C rfl (dL_law_p20 39 rfl) ?_
  refine x_aload_n 0 C rfl (dL_law_p21 0 rfl) ?_
  refine x_iload_n 3 C rfl (dL_law_p21 1 rfl) ?_
  refine x_iconst (v := 1) C (by decide) (dL_law_p21 2 rfl) ?_
  refine x_iadd C (dL_law_p21 3 rfl) ?_
  obtain ⟨h278, hp⟩ := hp
  refine x_sld C hX h278 (dL_law_p21 4 rfl) ?_
  refine x_cvI (As := [.int (xs (ix (u3 + 1)))]) (st := [.int r277]) C LRL_152 (ci := 8) rfl rfl (by decide) (by decide) (m_X8_crossings (kL κ) (kad κ) (kD κ) (kca κ) C.ado (xs (ix (u3 + 1)))  s276 _ hp) rfl (by decide) rfl (Nat.le_of_ble_eq_true rfl) (dL_law_p21 5 rfl) (fun r280 s279 hp => ?_)
  refine x_icmp_eq (tgt := 1493) C (dL_law_p21 6 rfl) (by decide) (fun hc => ?_) (fun hc => ?_)
  · have hp := hp.1 hc
    obtain ⟨v281, ev281⟩ : ∃ z : Int32, z = u3 + 5 := ⟨_, rfl⟩
    have hp := hp v281 ev281
    refine x_iinc (v := v281) (loc' := [(3, .int v281), (0, .ref b), (1, .ref (kad κ 0)), (2, .ref (kad κ 204))]) 3 C rfl (by rw [ev281]; rfl) (by decide) rfl (dL_law_p25 23 rfl) ?_
    refine x_goto (tgt := 18) C (dL_law_p25 24 rfl) (by decide) ?_
    refine x_loc (loc' := [(0, .ref b), (1, .ref (kad κ 0)), (2, .ref (kad κ 204)), (3, .int v281)]) [1, 2, 3, 0] rfl ?_
    exact hc18 v281 s279 hp
  · have hp := hp.2 hc
    refine x_iconst (v := 0) C (by decide) (dL_law_p21 7 rfl) ?_
    exact hp.elim
def J_L_law_1265 (L : Nat) (xs : Nat → Int32) (K : Unit) (c18 : (Int32 × St) → Prop) (u3 : Int32) (σ : St) : Prop := vp_in (u3 + 1) L ∧ (vp_in (u3 + 2) L ∧ (P_X7_depth (xs (ix (u3 + 1))) (xs (ix (u3 + 2))) σ (fun r285 s284 => vp_in (u3 + 1) L ∧ (vp_in (u3 + 2) L ∧ (P_X8_depth (xs (ix (u3 + 1))) (xs (ix (u3 + 2))) s284 (fun r289 s288 => (r285 = r289 → ∀ v290 : Int32, v290 = u3 + 5 → c18 (v290, s288)) ∧ (¬ (r285 = r289) → (False))))))))
set_option maxHeartbeats 4000000 in
set_option maxRecDepth 100000 in
theorem J_L_law_1265_w {κ : Kap} {K : Unit} {b L : Nat} {xs : Nat → Int32} {c18 : (Int32 × St) → Prop} (C : Ok κ RL cL_law 4 17) (hret : ∀ (pc : Nat) (loc : List (Nat × Value)) (σ : St), decode cL_law pc = .ok (.ireturn, 1) → GG κ pc loc [.int 1] σ) (hX : lawX κ b L xs) (u3 : Int32)     (σ : St) (hc18 : ∀ (u3 : Int32) (σ : St), c18 (u3, σ) → GG κ 18 [(0, .ref b), (1, .ref (kad κ 0)), (2, .ref (kad κ 204)), (3, .int u3)] [] σ) (hp : J_L_law_1265 L xs K c18 u3 σ) : GG κ 1265 [(0, .ref b), (1, .ref (kad κ 0)), (2, .ref (kad κ 204)), (3, .int u3)] [] σ := by
  unfold J_L_law_1265 at hp
  refine x_aload_n 1 C rfl (dL_law_p21 9 rfl) ?_
  refine x_aload_n 0 C rfl (dL_law_p21 10 rfl) ?_
  refine x_iload_n 3 C rfl (dL_law_p21 11 rfl) ?_
  refine x_iconst (v := 1) C (by decide) (dL_law_p21 12 rfl) ?_
  refine x_iadd C (dL_law_p21 13 rfl) ?_
  obtain ⟨h282, hp⟩ := hp
  refine x_sld C hX h282 (dL_law_p21 14 rfl) ?_
  refine x_aload_n 0 C rfl (dL_law_p21 15 rfl) ?_
  refine x_iload_n 3 C rfl (dL_law_p21 16 rfl) ?_
  refine x_iconst (v := 2) C (by decide) (dL_law_p21 17 rfl) ?_
  refine x_iadd C (dL_law_p21 18 rfl) ?_
  obtain ⟨h283, hp⟩ := hp
  refine x_sld C hX h283 (dL_law_p21 19 rfl) ?_
  refine x_cvI (As := [.int (xs (ix (u3 + 1))), .int (xs (ix (u3 + 2)))]) (st := []) C LRL_153 (ci := 7) rfl rfl (by decide) (by decide) (m_X7_depth (kL κ) (kad κ) (kD κ) (kca κ) C.ado (xs (ix (u3 + 1))) (xs (ix (u3 + 2)))  σ _ hp) rfl (by decide) rfl (Nat.le_of_ble_eq_true rfl) (dL_law_p21 20 rfl) (fun r285 s284 hp => ?_)
  refine x_aload_n 2 C rfl (dL_law_p21 21 rfl) ?_
  refine x_aload_n 0 C rfl (dL_law_p21 22 rfl) ?_
  refine x_iload_n 3 C rfl (dL_law_p21 23 rfl) ?_
  refine x_iconst (v := 1) C (by decide) (dL_law_p21 24 rfl) ?_
  refine x_iadd C (dL_law_p21 25 rfl) ?_
  obtain ⟨h286, hp⟩ := hp
  refine x_sld C hX h286 (dL_law_p21 26 rfl) ?_
  refine x_aload_n 0 C rfl (dL_law_p21 27 rfl) ?_
  refine x_iload_n 3 C rfl (dL_law_p21 28 rfl) ?_
  refine x_iconst (v := 2) C (by decide) (dL_law_p21 29 rfl) ?_
  refine x_iadd C (dL_law_p21 30 rfl) ?_
  obtain ⟨h287, hp⟩ := hp
  refine x_sld C hX h287 (dL_law_p21 31 rfl) ?_
  refine x_cvI (As := [.int (xs (ix (u3 + 1))), .int (xs (ix (u3 + 2)))]) (st := [.int r285]) C LRL_156 (ci := 8) rfl rfl (by decide) (by decide) (m_X8_depth (kL κ) (kad κ) (kD κ) (kca κ) C.ado (xs (ix (u3 + 1))) (xs (ix (u3 + 2)))  s284 _ hp) rfl (by decide) rfl (Nat.le_of_ble_eq_true rfl) (dL_law_p21 32 rfl) (fun r289 s288 hp => ?_)
  refine x_icmp_eq (tgt := 1493) C (dL_law_p21 33 rfl) (by decide) (fun hc => ?_) (fun hc => ?_)
  · have hp := hp.1 hc
    obtain ⟨v290, ev290⟩ : ∃ z : Int32, z = u3 + 5 := ⟨_, rfl⟩
    have hp := hp v290 ev290
    refine x_iinc (v := v290) (loc' := [(3, .int v290), (0, .ref b), (1, .ref (kad κ 0)), (2, .ref (kad κ 204))]) 3 C rfl (by rw [ev290]; rfl) (by decide) rfl (dL_law_p25 23 rfl) ?_
    refine x_goto (tgt := 18) C (dL_law_p25 24 rfl) (by decide) ?_
    refine x_loc (loc' := [(0, .ref b), (1, .ref (kad κ 0)), (2, .ref (kad κ 204)), (3, .int v290)]) [1, 2, 3, 0] rfl ?_
    exact hc18 v290 s288 hp
  · have hp := hp.2 hc
    refine x_iconst (v := 0) C (by decide) (dL_law_p21 34 rfl) ?_
    exact hp.elim
def J_L_law_1298 (L : Nat) (xs : Nat → Int32) (K : Unit) (c18 : (Int32 × St) → Prop) (u3 : Int32) (σ : St) : Prop := vp_in (u3 + 1) L ∧ (vp_in (u3 + 2) L ∧ (P_X7_projectiveOrder (xs (ix (u3 + 1))) (xs (ix (u3 + 2))) σ (fun r294 s293 => vp_in (u3 + 1) L ∧ (vp_in (u3 + 2) L ∧ (P_X8_projectiveOrder (xs (ix (u3 + 1))) (xs (ix (u3 + 2))) s293 (fun r298 s297 => (r294 = r298 → ∀ v299 : Int32, v299 = u3 + 5 → c18 (v299, s297)) ∧ (¬ (r294 = r298) → (False))))))))
set_option maxHeartbeats 4000000 in
set_option maxRecDepth 100000 in
theorem J_L_law_1298_w {κ : Kap} {K : Unit} {b L : Nat} {xs : Nat → Int32} {c18 : (Int32 × St) → Prop} (C : Ok κ RL cL_law 4 17) (hret : ∀ (pc : Nat) (loc : List (Nat × Value)) (σ : St), decode cL_law pc = .ok (.ireturn, 1) → GG κ pc loc [.int 1] σ) (hX : lawX κ b L xs) (u3 : Int32)     (σ : St) (hc18 : ∀ (u3 : Int32) (σ : St), c18 (u3, σ) → GG κ 18 [(0, .ref b), (1, .ref (kad κ 0)), (2, .ref (kad κ 204)), (3, .int u3)] [] σ) (hp : J_L_law_1298 L xs K c18 u3 σ) : GG κ 1298 [(0, .ref b), (1, .ref (kad κ 0)), (2, .ref (kad κ 204)), (3, .int u3)] [] σ := by
  unfold J_L_law_1298 at hp
  refine x_aload_n 1 C rfl (dL_law_p21 36 rfl) ?_
  refine x_aload_n 0 C rfl (dL_law_p21 37 rfl) ?_
  refine x_iload_n 3 C rfl (dL_law_p21 38 rfl) ?_
  refine x_iconst (v := 1) C (by decide) (dL_law_p21 39 rfl) ?_
  refine x_iadd C (dL_law_p22 0 rfl) ?_
  obtain ⟨h291, hp⟩ := hp
  refine x_sld C hX h291 (dL_law_p22 1 rfl) ?_
  refine x_aload_n 0 C rfl (dL_law_p22 2 rfl) ?_
  refine x_iload_n 3 C rfl (dL_law_p22 3 rfl) ?_
  refine x_iconst (v := 2) C (by decide) (dL_law_p22 4 rfl) ?_
  refine x_iadd C (dL_law_p22 5 rfl) ?_
  obtain ⟨h292, hp⟩ := hp
  refine x_sld C hX h292 (dL_law_p22 6 rfl) ?_
  refine x_cvI (As := [.int (xs (ix (u3 + 1))), .int (xs (ix (u3 + 2)))]) (st := []) C LRL_157 (ci := 7) rfl rfl (by decide) (by decide) (m_X7_projectiveOrder (kL κ) (kad κ) (kD κ) (kca κ) C.ado (xs (ix (u3 + 1))) (xs (ix (u3 + 2)))  σ _ hp) rfl (by decide) rfl (Nat.le_of_ble_eq_true rfl) (dL_law_p22 7 rfl) (fun r294 s293 hp => ?_)
  refine x_aload_n 2 C rfl (dL_law_p22 8 rfl) ?_
  refine x_aload_n 0 C rfl (dL_law_p22 9 rfl) ?_
  refine x_iload_n 3 C rfl (dL_law_p22 10 rfl) ?_
  refine x_iconst (v := 1) C (by decide) (dL_law_p22 11 rfl) ?_
  refine x_iadd C (dL_law_p22 12 rfl) ?_
  obtain ⟨h295, hp⟩ := hp
  refine x_sld C hX h295 (dL_law_p22 13 rfl) ?_
  refine x_aload_n 0 C rfl (dL_law_p22 14 rfl) ?_
  refine x_iload_n 3 C rfl (dL_law_p22 15 rfl) ?_
  refine x_iconst (v := 2) C (by decide) (dL_law_p22 16 rfl) ?_
  refine x_iadd C (dL_law_p22 17 rfl) ?_
  obtain ⟨h296, hp⟩ := hp
  refine x_sld C hX h296 (dL_law_p22 18 rfl) ?_
  refine x_cvI (As := [.int (xs (ix (u3 + 1))), .int (xs (ix (u3 + 2)))]) (st := [.int r294]) C LRL_160 (ci := 8) rfl rfl (by decide) (by decide) (m_X8_projectiveOrder (kL κ) (kad κ) (kD κ) (kca κ) C.ado (xs (ix (u3 + 1))) (xs (ix (u3 + 2)))  s293 _ hp) rfl (by decide) rfl (Nat.le_of_ble_eq_true rfl) (dL_law_p22 19 rfl) (fun r298 s297 hp => ?_)
  refine x_icmp_eq (tgt := 1493) C (dL_law_p22 20 rfl) (by decide) (fun hc => ?_) (fun hc => ?_)
  · have hp := hp.1 hc
    obtain ⟨v299, ev299⟩ : ∃ z : Int32, z = u3 + 5 := ⟨_, rfl⟩
    have hp := hp v299 ev299
    refine x_iinc (v := v299) (loc' := [(3, .int v299), (0, .ref b), (1, .ref (kad κ 0)), (2, .ref (kad κ 204))]) 3 C rfl (by rw [ev299]; rfl) (by decide) rfl (dL_law_p25 23 rfl) ?_
    refine x_goto (tgt := 18) C (dL_law_p25 24 rfl) (by decide) ?_
    refine x_loc (loc' := [(0, .ref b), (1, .ref (kad κ 0)), (2, .ref (kad κ 204)), (3, .int v299)]) [1, 2, 3, 0] rfl ?_
    exact hc18 v299 s297 hp
  · have hp := hp.2 hc
    refine x_iconst (v := 0) C (by decide) (dL_law_p22 21 rfl) ?_
    exact hp.elim
def J_L_law_1331 (L : Nat) (xs : Nat → Int32) (K : Unit) (c18 : (Int32 × St) → Prop) (u3 : Int32) (σ : St) : Prop := vp_in (u3 + 1) L ∧ (P_X7_transitions (xs (ix (u3 + 1))) σ (fun r302 s301 => vp_in (u3 + 1) L ∧ (P_X8_transitions (xs (ix (u3 + 1))) s301 (fun r305 s304 => (r302 = r305 → ∀ v306 : Int32, v306 = u3 + 5 → c18 (v306, s304)) ∧ (¬ (r302 = r305) → (False))))))
set_option maxHeartbeats 4000000 in
set_option maxRecDepth 100000 in
theorem J_L_law_1331_w {κ : Kap} {K : Unit} {b L : Nat} {xs : Nat → Int32} {c18 : (Int32 × St) → Prop} (C : Ok κ RL cL_law 4 17) (hret : ∀ (pc : Nat) (loc : List (Nat × Value)) (σ : St), decode cL_law pc = .ok (.ireturn, 1) → GG κ pc loc [.int 1] σ) (hX : lawX κ b L xs) (u3 : Int32)     (σ : St) (hc18 : ∀ (u3 : Int32) (σ : St), c18 (u3, σ) → GG κ 18 [(0, .ref b), (1, .ref (kad κ 0)), (2, .ref (kad κ 204)), (3, .int u3)] [] σ) (hp : J_L_law_1331 L xs K c18 u3 σ) : GG κ 1331 [(0, .ref b), (1, .ref (kad κ 0)), (2, .ref (kad κ 204)), (3, .int u3)] [] σ := by
  unfold J_L_law_1331 at hp
  refine x_aload_n 1 C rfl (dL_law_p22 23 rfl) ?_
  refine x_aload_n 0 C rfl (dL_law_p22 24 rfl) ?_
  refine x_iload_n 3 C rfl (dL_law_p22 25 rfl) ?_
  refine x_iconst (v := 1) C (by decide) (dL_law_p22 26 rfl) ?_
  refine x_iadd C (dL_law_p22 27 rfl) ?_
  obtain ⟨h300, hp⟩ := hp
  refine x_sld C hX h300 (dL_law_p22 28 rfl) ?_
  refine x_cvI (As := [.int (xs (ix (u3 + 1)))]) (st := []) C LRL_161 (ci := 7) rfl rfl (by decide) (by decide) (m_X7_transitions (kL κ) (kad κ) (kD κ) (kca κ) C.ado (xs (ix (u3 + 1)))  σ _ hp) rfl (by decide) rfl (Nat.le_of_ble_eq_true rfl) (dL_law_p22 29 rfl) (fun r302 s301 hp => ?_)
  refine x_aload_n 2 C rfl (dL_law_p22 30 rfl) ?_
  refine x_aload_n 0 C rfl (dL_law_p22 31 rfl) ?_
  refine x_iload_n 3 C rfl (dL_law_p22 32 rfl) ?_
  refine x_iconst (v := 1) C (by decide) (dL_law_p22 33 rfl) ?_
  refine x_iadd C (dL_law_p22 34 rfl) ?_
  obtain ⟨h303, hp⟩ := hp
  refine x_sld C hX h303 (dL_law_p22 35 rfl) ?_
  refine x_cvI (As := [.int (xs (ix (u3 + 1)))]) (st := [.int r302]) C LRL_164 (ci := 8) rfl rfl (by decide) (by decide) (m_X8_transitions (kL κ) (kad κ) (kD κ) (kca κ) C.ado (xs (ix (u3 + 1)))  s301 _ hp) rfl (by decide) rfl (Nat.le_of_ble_eq_true rfl) (dL_law_p22 36 rfl) (fun r305 s304 hp => ?_)
  refine x_icmp_eq (tgt := 1493) C (dL_law_p22 37 rfl) (by decide) (fun hc => ?_) (fun hc => ?_)
  · have hp := hp.1 hc
    obtain ⟨v306, ev306⟩ : ∃ z : Int32, z = u3 + 5 := ⟨_, rfl⟩
    have hp := hp v306 ev306
    refine x_iinc (v := v306) (loc' := [(3, .int v306), (0, .ref b), (1, .ref (kad κ 0)), (2, .ref (kad κ 204))]) 3 C rfl (by rw [ev306]; rfl) (by decide) rfl (dL_law_p25 23 rfl) ?_
    refine x_goto (tgt := 18) C (dL_law_p25 24 rfl) (by decide) ?_
    refine x_loc (loc' := [(0, .ref b), (1, .ref (kad κ 0)), (2, .ref (kad κ 204)), (3, .int v306)]) [1, 2, 3, 0] rfl ?_
    exact hc18 v306 s304 hp
  · have hp := hp.2 hc
    refine x_iconst (v := 0) C (by decide) (dL_law_p22 38 rfl) ?_
    exact hp.elim
def J_L_law_1354 (L : Nat) (xs : Nat → Int32) (K : Unit) (c18 : (Int32 × St) → Prop) (u3 : Int32) (σ : St) : Prop := vp_in (u3 + 1) L ∧ (vp_in (u3 + 2) L ∧ (P_X7_transition (xs (ix (u3 + 1))) (xs (ix (u3 + 2))) σ (fun r310 s309 => vp_in (u3 + 1) L ∧ (vp_in (u3 + 2) L ∧ (P_X8_transition (xs (ix (u3 + 1))) (xs (ix (u3 + 2))) s309 (fun r314 s313 => (r310 = r314 → ∀ v315 : Int32, v315 = u3 + 5 → c18 (v315, s313)) ∧ (¬ (r310 = r314) → (False))))))))
set_option maxHeartbeats 4000000 in
set_option maxRecDepth 100000 in
theorem J_L_law_1354_w {κ : Kap} {K : Unit} {b L : Nat} {xs : Nat → Int32} {c18 : (Int32 × St) → Prop} (C : Ok κ RL cL_law 4 17) (hret : ∀ (pc : Nat) (loc : List (Nat × Value)) (σ : St), decode cL_law pc = .ok (.ireturn, 1) → GG κ pc loc [.int 1] σ) (hX : lawX κ b L xs) (u3 : Int32)     (σ : St) (hc18 : ∀ (u3 : Int32) (σ : St), c18 (u3, σ) → GG κ 18 [(0, .ref b), (1, .ref (kad κ 0)), (2, .ref (kad κ 204)), (3, .int u3)] [] σ) (hp : J_L_law_1354 L xs K c18 u3 σ) : GG κ 1354 [(0, .ref b), (1, .ref (kad κ 0)), (2, .ref (kad κ 204)), (3, .int u3)] [] σ := by
  unfold J_L_law_1354 at hp
  refine x_aload_n 1 C rfl (dL_law_p23 0 rfl) ?_
  refine x_aload_n 0 C rfl (dL_law_p23 1 rfl) ?_
  refine x_iload_n 3 C rfl (dL_law_p23 2 rfl) ?_
  refine x_iconst (v := 1) C (by decide) (dL_law_p23 3 rfl) ?_
  refine x_iadd C (dL_law_p23 4 rfl) ?_
  obtain ⟨h307, hp⟩ := hp
  refine x_sld C hX h307 (dL_law_p23 5 rfl) ?_
  refine x_aload_n 0 C rfl (dL_law_p23 6 rfl) ?_
  refine x_iload_n 3 C rfl (dL_law_p23 7 rfl) ?_
  refine x_iconst (v := 2) C (by decide) (dL_law_p23 8 rfl) ?_
  refine x_iadd C (dL_law_p23 9 rfl) ?_
  obtain ⟨h308, hp⟩ := hp
  refine x_sld C hX h308 (dL_law_p23 10 rfl) ?_
  refine x_cvI (As := [.int (xs (ix (u3 + 1))), .int (xs (ix (u3 + 2)))]) (st := []) C LRL_165 (ci := 7) rfl rfl (by decide) (by decide) (m_X7_transition (kL κ) (kad κ) (kD κ) (kca κ) C.ado (xs (ix (u3 + 1))) (xs (ix (u3 + 2)))  σ _ hp) rfl (by decide) rfl (Nat.le_of_ble_eq_true rfl) (dL_law_p23 11 rfl) (fun r310 s309 hp => ?_)
  refine x_aload_n 2 C rfl (dL_law_p23 12 rfl) ?_
  refine x_aload_n 0 C rfl (dL_law_p23 13 rfl) ?_
  refine x_iload_n 3 C rfl (dL_law_p23 14 rfl) ?_
  refine x_iconst (v := 1) C (by decide) (dL_law_p23 15 rfl) ?_
  refine x_iadd C (dL_law_p23 16 rfl) ?_
  obtain ⟨h311, hp⟩ := hp
  refine x_sld C hX h311 (dL_law_p23 17 rfl) ?_
  refine x_aload_n 0 C rfl (dL_law_p23 18 rfl) ?_
  refine x_iload_n 3 C rfl (dL_law_p23 19 rfl) ?_
  refine x_iconst (v := 2) C (by decide) (dL_law_p23 20 rfl) ?_
  refine x_iadd C (dL_law_p23 21 rfl) ?_
  obtain ⟨h312, hp⟩ := hp
  refine x_sld C hX h312 (dL_law_p23 22 rfl) ?_
  refine x_cvI (As := [.int (xs (ix (u3 + 1))), .int (xs (ix (u3 + 2)))]) (st := [.int r310]) C LRL_168 (ci := 8) rfl rfl (by decide) (by decide) (m_X8_transition (kL κ) (kad κ) (kD κ) (kca κ) C.ado (xs (ix (u3 + 1))) (xs (ix (u3 + 2)))  s309 _ hp) rfl (by decide) rfl (Nat.le_of_ble_eq_true rfl) (dL_law_p23 23 rfl) (fun r314 s313 hp => ?_)
  refine x_icmp_eq (tgt := 1493) C (dL_law_p23 24 rfl) (by decide) (fun hc => ?_) (fun hc => ?_)
  · have hp := hp.1 hc
    obtain ⟨v315, ev315⟩ : ∃ z : Int32, z = u3 + 5 := ⟨_, rfl⟩
    have hp := hp v315 ev315
    refine x_iinc (v := v315) (loc' := [(3, .int v315), (0, .ref b), (1, .ref (kad κ 0)), (2, .ref (kad κ 204))]) 3 C rfl (by rw [ev315]; rfl) (by decide) rfl (dL_law_p25 23 rfl) ?_
    refine x_goto (tgt := 18) C (dL_law_p25 24 rfl) (by decide) ?_
    refine x_loc (loc' := [(0, .ref b), (1, .ref (kad κ 0)), (2, .ref (kad κ 204)), (3, .int v315)]) [1, 2, 3, 0] rfl ?_
    exact hc18 v315 s313 hp
  · have hp := hp.2 hc
    refine x_iconst (v := 0) C (by decide) (dL_law_p23 25 rfl) ?_
    exact hp.elim
def J_L_law_1387 (L : Nat) (xs : Nat → Int32) (K : Unit) (c18 : (Int32 × St) → Prop) (u3 : Int32) (σ : St) : Prop := vp_in (u3 + 1) L ∧ (P_X7_train (xs (ix (u3 + 1))) σ (fun r318 s317 => vp_in (u3 + 1) L ∧ (P_X8_train (xs (ix (u3 + 1))) s317 (fun r321 s320 => (r318 = r321 → ∀ v322 : Int32, v322 = u3 + 5 → c18 (v322, s320)) ∧ (¬ (r318 = r321) → (False))))))
set_option maxHeartbeats 4000000 in
set_option maxRecDepth 100000 in
theorem J_L_law_1387_w {κ : Kap} {K : Unit} {b L : Nat} {xs : Nat → Int32} {c18 : (Int32 × St) → Prop} (C : Ok κ RL cL_law 4 17) (hret : ∀ (pc : Nat) (loc : List (Nat × Value)) (σ : St), decode cL_law pc = .ok (.ireturn, 1) → GG κ pc loc [.int 1] σ) (hX : lawX κ b L xs) (u3 : Int32)     (σ : St) (hc18 : ∀ (u3 : Int32) (σ : St), c18 (u3, σ) → GG κ 18 [(0, .ref b), (1, .ref (kad κ 0)), (2, .ref (kad κ 204)), (3, .int u3)] [] σ) (hp : J_L_law_1387 L xs K c18 u3 σ) : GG κ 1387 [(0, .ref b), (1, .ref (kad κ 0)), (2, .ref (kad κ 204)), (3, .int u3)] [] σ := by
  unfold J_L_law_1387 at hp
  refine x_aload_n 1 C rfl (dL_law_p23 27 rfl) ?_
  refine x_aload_n 0 C rfl (dL_law_p23 28 rfl) ?_
  refine x_iload_n 3 C rfl (dL_law_p23 29 rfl) ?_
  refine x_iconst (v := 1) C (by decide) (dL_law_p23 30 rfl) ?_
  refine x_iadd C (dL_law_p23 31 rfl) ?_
  obtain ⟨h316, hp⟩ := hp
  refine x_sld C hX h316 (dL_law_p23 32 rfl) ?_
  refine x_cvI (As := [.int (xs (ix (u3 + 1)))]) (st := []) C LRL_169 (ci := 7) rfl rfl (by decide) (by decide) (m_X7_train (kL κ) (kad κ) (kD κ) (kca κ) C.ado (xs (ix (u3 + 1)))  σ _ hp) rfl (by decide) rfl (Nat.le_of_ble_eq_true rfl) (dL_law_p23 33 rfl) (fun r318 s317 hp => ?_)
  refine x_aload_n 2 C rfl (dL_law_p23 34 rfl) ?_
  refine x_aload_n 0 C rfl (dL_law_p23 35 rfl) ?_
  refine x_iload_n 3 C rfl (dL_law_p23 36 rfl) ?_
  refine x_iconst (v := 1) C (by decide) (dL_law_p23 37 rfl) ?_
  refine x_iadd C (dL_law_p23 38 rfl) ?_
  obtain ⟨h319, hp⟩ := hp
  refine x_sld C hX h319 (dL_law_p23 39 rfl) ?_
  refine x_cvI (As := [.int (xs (ix (u3 + 1)))]) (st := [.int r318]) C LRL_172 (ci := 8) rfl rfl (by decide) (by decide) (m_X8_train (kL κ) (kad κ) (kD κ) (kca κ) C.ado (xs (ix (u3 + 1)))  s317 _ hp) rfl (by decide) rfl (Nat.le_of_ble_eq_true rfl) (dL_law_p24 0 rfl) (fun r321 s320 hp => ?_)
  refine x_icmp_eq (tgt := 1493) C (dL_law_p24 1 rfl) (by decide) (fun hc => ?_) (fun hc => ?_)
  · have hp := hp.1 hc
    obtain ⟨v322, ev322⟩ : ∃ z : Int32, z = u3 + 5 := ⟨_, rfl⟩
    have hp := hp v322 ev322
    refine x_iinc (v := v322) (loc' := [(3, .int v322), (0, .ref b), (1, .ref (kad κ 0)), (2, .ref (kad κ 204))]) 3 C rfl (by rw [ev322]; rfl) (by decide) rfl (dL_law_p25 23 rfl) ?_
    refine x_goto (tgt := 18) C (dL_law_p25 24 rfl) (by decide) ?_
    refine x_loc (loc' := [(0, .ref b), (1, .ref (kad κ 0)), (2, .ref (kad κ 204)), (3, .int v322)]) [1, 2, 3, 0] rfl ?_
    exact hc18 v322 s320 hp
  · have hp := hp.2 hc
    refine x_iconst (v := 0) C (by decide) (dL_law_p24 2 rfl) ?_
    exact hp.elim
def J_L_law_1410 (L : Nat) (xs : Nat → Int32) (K : Unit) (c18 : (Int32 × St) → Prop) (u3 : Int32) (σ : St) : Prop := vp_in (u3 + 1) L ∧ (P_X7_trainAll (xs (ix (u3 + 1))) σ (fun r325 s324 => vp_in (u3 + 1) L ∧ (P_X8_trainAll (xs (ix (u3 + 1))) s324 (fun r328 s327 => (r325 = r328 → ∀ v329 : Int32, v329 = u3 + 5 → c18 (v329, s327)) ∧ (¬ (r325 = r328) → (False))))))
set_option maxHeartbeats 4000000 in
set_option maxRecDepth 100000 in
theorem J_L_law_1410_w {κ : Kap} {K : Unit} {b L : Nat} {xs : Nat → Int32} {c18 : (Int32 × St) → Prop} (C : Ok κ RL cL_law 4 17) (hret : ∀ (pc : Nat) (loc : List (Nat × Value)) (σ : St), decode cL_law pc = .ok (.ireturn, 1) → GG κ pc loc [.int 1] σ) (hX : lawX κ b L xs) (u3 : Int32)     (σ : St) (hc18 : ∀ (u3 : Int32) (σ : St), c18 (u3, σ) → GG κ 18 [(0, .ref b), (1, .ref (kad κ 0)), (2, .ref (kad κ 204)), (3, .int u3)] [] σ) (hp : J_L_law_1410 L xs K c18 u3 σ) : GG κ 1410 [(0, .ref b), (1, .ref (kad κ 0)), (2, .ref (kad κ 204)), (3, .int u3)] [] σ := by
  unfold J_L_law_1410 at hp
  refine x_aload_n 1 C rfl (dL_law_p24 4 rfl) ?_
  refine x_aload_n 0 C rfl (dL_law_p24 5 rfl) ?_
  refine x_iload_n 3 C rfl (dL_law_p24 6 rfl) ?_
  refine x_iconst (v := 1) C (by decide) (dL_law_p24 7 rfl) ?_
  refine x_iadd C (dL_law_p24 8 rfl) ?_
  obtain ⟨h323, hp⟩ := hp
  refine x_sld C hX h323 (dL_law_p24 9 rfl) ?_
  refine x_cvI (As := [.int (xs (ix (u3 + 1)))]) (st := []) C LRL_173 (ci := 7) rfl rfl (by decide) (by decide) (m_X7_trainAll (kL κ) (kad κ) (kD κ) (kca κ) C.ado (xs (ix (u3 + 1)))  σ _ hp) rfl (by decide) rfl (Nat.le_of_ble_eq_true rfl) (dL_law_p24 10 rfl) (fun r325 s324 hp => ?_)
  refine x_aload_n 2 C rfl (dL_law_p24 11 rfl) ?_
  refine x_aload_n 0 C rfl (dL_law_p24 12 rfl) ?_
  refine x_iload_n 3 C rfl (dL_law_p24 13 rfl) ?_
  refine x_iconst (v := 1) C (by decide) (dL_law_p24 14 rfl) ?_
  refine x_iadd C (dL_law_p24 15 rfl) ?_
  obtain ⟨h326, hp⟩ := hp
  refine x_sld C hX h326 (dL_law_p24 16 rfl) ?_
  refine x_cvI (As := [.int (xs (ix (u3 + 1)))]) (st := [.int r325]) C LRL_176 (ci := 8) rfl rfl (by decide) (by decide) (m_X8_trainAll (kL κ) (kad κ) (kD κ) (kca κ) C.ado (xs (ix (u3 + 1)))  s324 _ hp) rfl (by decide) rfl (Nat.le_of_ble_eq_true rfl) (dL_law_p24 17 rfl) (fun r328 s327 hp => ?_)
  refine x_icmp_eq (tgt := 1493) C (dL_law_p24 18 rfl) (by decide) (fun hc => ?_) (fun hc => ?_)
  · have hp := hp.1 hc
    obtain ⟨v329, ev329⟩ : ∃ z : Int32, z = u3 + 5 := ⟨_, rfl⟩
    have hp := hp v329 ev329
    refine x_iinc (v := v329) (loc' := [(3, .int v329), (0, .ref b), (1, .ref (kad κ 0)), (2, .ref (kad κ 204))]) 3 C rfl (by rw [ev329]; rfl) (by decide) rfl (dL_law_p25 23 rfl) ?_
    refine x_goto (tgt := 18) C (dL_law_p25 24 rfl) (by decide) ?_
    refine x_loc (loc' := [(0, .ref b), (1, .ref (kad κ 0)), (2, .ref (kad κ 204)), (3, .int v329)]) [1, 2, 3, 0] rfl ?_
    exact hc18 v329 s327 hp
  · have hp := hp.2 hc
    refine x_iconst (v := 0) C (by decide) (dL_law_p24 19 rfl) ?_
    exact hp.elim
def J_L_law_1433 (L : Nat) (xs : Nat → Int32) (K : Unit) (c18 : (Int32 × St) → Prop) (u3 : Int32) (σ : St) : Prop := vp_in (u3 + 1) L ∧ (P_X7_save (xs (ix (u3 + 1))) σ (fun r332 s331 => vp_in (u3 + 1) L ∧ (P_X8_save (xs (ix (u3 + 1))) s331 (fun r335 s334 => (r332 = r335 → ∀ v336 : Int32, v336 = u3 + 5 → c18 (v336, s334)) ∧ (¬ (r332 = r335) → (False))))))
set_option maxHeartbeats 4000000 in
set_option maxRecDepth 100000 in
theorem J_L_law_1433_w {κ : Kap} {K : Unit} {b L : Nat} {xs : Nat → Int32} {c18 : (Int32 × St) → Prop} (C : Ok κ RL cL_law 4 17) (hret : ∀ (pc : Nat) (loc : List (Nat × Value)) (σ : St), decode cL_law pc = .ok (.ireturn, 1) → GG κ pc loc [.int 1] σ) (hX : lawX κ b L xs) (u3 : Int32)     (σ : St) (hc18 : ∀ (u3 : Int32) (σ : St), c18 (u3, σ) → GG κ 18 [(0, .ref b), (1, .ref (kad κ 0)), (2, .ref (kad κ 204)), (3, .int u3)] [] σ) (hp : J_L_law_1433 L xs K c18 u3 σ) : GG κ 1433 [(0, .ref b), (1, .ref (kad κ 0)), (2, .ref (kad κ 204)), (3, .int u3)] [] σ := by
  unfold J_L_law_1433 at hp
  refine x_aload_n 1 C rfl (dL_law_p24 21 rfl) ?_
  refine x_aload_n 0 C rfl (dL_law_p24 22 rfl) ?_
  refine x_iload_n 3 C rfl (dL_law_p24 23 rfl) ?_
  refine x_iconst (v := 1) C (by decide) (dL_law_p24 24 rfl) ?_
  refine x_iadd C (dL_law_p24 25 rfl) ?_
  obtain ⟨h330, hp⟩ := hp
  refine x_sld C hX h330 (dL_law_p24 26 rfl) ?_
  refine x_cvI (As := [.int (xs (ix (u3 + 1)))]) (st := []) C LRL_177 (ci := 7) rfl rfl (by decide) (by decide) (m_X7_save (kL κ) (kad κ) (kD κ) (kca κ) C.ado (xs (ix (u3 + 1)))  σ _ hp) rfl (by decide) rfl (Nat.le_of_ble_eq_true rfl) (dL_law_p24 27 rfl) (fun r332 s331 hp => ?_)
  refine x_aload_n 2 C rfl (dL_law_p24 28 rfl) ?_
  refine x_aload_n 0 C rfl (dL_law_p24 29 rfl) ?_
  refine x_iload_n 3 C rfl (dL_law_p24 30 rfl) ?_
  refine x_iconst (v := 1) C (by decide) (dL_law_p24 31 rfl) ?_
  refine x_iadd C (dL_law_p24 32 rfl) ?_
  obtain ⟨h333, hp⟩ := hp
  refine x_sld C hX h333 (dL_law_p24 33 rfl) ?_
  refine x_cvI (As := [.int (xs (ix (u3 + 1)))]) (st := [.int r332]) C LRL_180 (ci := 8) rfl rfl (by decide) (by decide) (m_X8_save (kL κ) (kad κ) (kD κ) (kca κ) C.ado (xs (ix (u3 + 1)))  s331 _ hp) rfl (by decide) rfl (Nat.le_of_ble_eq_true rfl) (dL_law_p24 34 rfl) (fun r335 s334 hp => ?_)
  refine x_icmp_eq (tgt := 1493) C (dL_law_p24 35 rfl) (by decide) (fun hc => ?_) (fun hc => ?_)
  · have hp := hp.1 hc
    obtain ⟨v336, ev336⟩ : ∃ z : Int32, z = u3 + 5 := ⟨_, rfl⟩
    have hp := hp v336 ev336
    refine x_iinc (v := v336) (loc' := [(3, .int v336), (0, .ref b), (1, .ref (kad κ 0)), (2, .ref (kad κ 204))]) 3 C rfl (by rw [ev336]; rfl) (by decide) rfl (dL_law_p25 23 rfl) ?_
    refine x_goto (tgt := 18) C (dL_law_p25 24 rfl) (by decide) ?_
    refine x_loc (loc' := [(0, .ref b), (1, .ref (kad κ 0)), (2, .ref (kad κ 204)), (3, .int v336)]) [1, 2, 3, 0] rfl ?_
    exact hc18 v336 s334 hp
  · have hp := hp.2 hc
    refine x_iconst (v := 0) C (by decide) (dL_law_p24 36 rfl) ?_
    exact hp.elim
def J_L_law_1456 (L : Nat) (xs : Nat → Int32) (K : Unit) (c18 : (Int32 × St) → Prop) (u3 : Int32) (σ : St) : Prop := vp_in (u3 + 1) L ∧ (P_X7_restore (xs (ix (u3 + 1))) σ (fun r339 s338 => vp_in (u3 + 1) L ∧ (P_X8_restore (xs (ix (u3 + 1))) s338 (fun r342 s341 => (r339 = r342 → ∀ v343 : Int32, v343 = u3 + 5 → c18 (v343, s341)) ∧ (¬ (r339 = r342) → (False))))))
set_option maxHeartbeats 4000000 in
set_option maxRecDepth 100000 in
theorem J_L_law_1456_w {κ : Kap} {K : Unit} {b L : Nat} {xs : Nat → Int32} {c18 : (Int32 × St) → Prop} (C : Ok κ RL cL_law 4 17) (hret : ∀ (pc : Nat) (loc : List (Nat × Value)) (σ : St), decode cL_law pc = .ok (.ireturn, 1) → GG κ pc loc [.int 1] σ) (hX : lawX κ b L xs) (u3 : Int32)     (σ : St) (hc18 : ∀ (u3 : Int32) (σ : St), c18 (u3, σ) → GG κ 18 [(0, .ref b), (1, .ref (kad κ 0)), (2, .ref (kad κ 204)), (3, .int u3)] [] σ) (hp : J_L_law_1456 L xs K c18 u3 σ) : GG κ 1456 [(0, .ref b), (1, .ref (kad κ 0)), (2, .ref (kad κ 204)), (3, .int u3)] [] σ := by
  unfold J_L_law_1456 at hp
  refine x_aload_n 1 C rfl (dL_law_p24 38 rfl) ?_
  refine x_aload_n 0 C rfl (dL_law_p24 39 rfl) ?_
  refine x_iload_n 3 C rfl (dL_law_p25 0 rfl) ?_
  refine x_iconst (v := 1) C (by decide) (dL_law_p25 1 rfl) ?_
  refine x_iadd C (dL_law_p25 2 rfl) ?_
  obtain ⟨h337, hp⟩ := hp
  refine x_sld C hX h337 (dL_law_p25 3 rfl) ?_
  refine x_cvI (As := [.int (xs (ix (u3 + 1)))]) (st := []) C LRL_181 (ci := 7) rfl rfl (by decide) (by decide) (m_X7_restore (kL κ) (kad κ) (kD κ) (kca κ) C.ado (xs (ix (u3 + 1)))  σ _ hp) rfl (by decide) rfl (Nat.le_of_ble_eq_true rfl) (dL_law_p25 4 rfl) (fun r339 s338 hp => ?_)
  refine x_aload_n 2 C rfl (dL_law_p25 5 rfl) ?_
  refine x_aload_n 0 C rfl (dL_law_p25 6 rfl) ?_
  refine x_iload_n 3 C rfl (dL_law_p25 7 rfl) ?_
  refine x_iconst (v := 1) C (by decide) (dL_law_p25 8 rfl) ?_
  refine x_iadd C (dL_law_p25 9 rfl) ?_
  obtain ⟨h340, hp⟩ := hp
  refine x_sld C hX h340 (dL_law_p25 10 rfl) ?_
  refine x_cvI (As := [.int (xs (ix (u3 + 1)))]) (st := [.int r339]) C LRL_184 (ci := 8) rfl rfl (by decide) (by decide) (m_X8_restore (kL κ) (kad κ) (kD κ) (kca κ) C.ado (xs (ix (u3 + 1)))  s338 _ hp) rfl (by decide) rfl (Nat.le_of_ble_eq_true rfl) (dL_law_p25 11 rfl) (fun r342 s341 hp => ?_)
  refine x_icmp_eq (tgt := 1493) C (dL_law_p25 12 rfl) (by decide) (fun hc => ?_) (fun hc => ?_)
  · have hp := hp.1 hc
    obtain ⟨v343, ev343⟩ : ∃ z : Int32, z = u3 + 5 := ⟨_, rfl⟩
    have hp := hp v343 ev343
    refine x_iinc (v := v343) (loc' := [(3, .int v343), (0, .ref b), (1, .ref (kad κ 0)), (2, .ref (kad κ 204))]) 3 C rfl (by rw [ev343]; rfl) (by decide) rfl (dL_law_p25 23 rfl) ?_
    refine x_goto (tgt := 18) C (dL_law_p25 24 rfl) (by decide) ?_
    refine x_loc (loc' := [(0, .ref b), (1, .ref (kad κ 0)), (2, .ref (kad κ 204)), (3, .int v343)]) [1, 2, 3, 0] rfl ?_
    exact hc18 v343 s341 hp
  · have hp := hp.2 hc
    refine x_iconst (v := 0) C (by decide) (dL_law_p25 13 rfl) ?_
    exact hp.elim
def J_L_law_1479 (L : Nat) (xs : Nat → Int32) (K : Unit) (c18 : (Int32 × St) → Prop) (u3 : Int32) (σ : St) : Prop := P_X7_checksum  σ (fun r345 s344 => P_X8_checksum  s344 (fun r347 s346 => (r345 = r347 → ∀ v348 : Int32, v348 = u3 + 5 → c18 (v348, s346)) ∧ (¬ (r345 = r347) → (False))))
set_option maxHeartbeats 4000000 in
set_option maxRecDepth 100000 in
theorem J_L_law_1479_w {κ : Kap} {K : Unit} {b L : Nat} {xs : Nat → Int32} {c18 : (Int32 × St) → Prop} (C : Ok κ RL cL_law 4 17) (hret : ∀ (pc : Nat) (loc : List (Nat × Value)) (σ : St), decode cL_law pc = .ok (.ireturn, 1) → GG κ pc loc [.int 1] σ) (hX : lawX κ b L xs) (u3 : Int32)     (σ : St) (hc18 : ∀ (u3 : Int32) (σ : St), c18 (u3, σ) → GG κ 18 [(0, .ref b), (1, .ref (kad κ 0)), (2, .ref (kad κ 204)), (3, .int u3)] [] σ) (hp : J_L_law_1479 L xs K c18 u3 σ) : GG κ 1479 [(0, .ref b), (1, .ref (kad κ 0)), (2, .ref (kad κ 204)), (3, .int u3)] [] σ := by
  unfold J_L_law_1479 at hp
  refine x_aload_n 1 C rfl (dL_law_p25 15 rfl) ?_
  refine x_cvL (As := []) (st := []) C LRL_185 (ci := 7) rfl rfl (by decide) (by decide) (m_X7_checksum (kL κ) (kad κ) (kD κ) (kca κ) C.ado   σ _ hp) rfl (by decide) rfl (Nat.le_of_ble_eq_true rfl) (dL_law_p25 16 rfl) (fun r345 s344 hp => ?_)
  refine x_aload_n 2 C rfl (dL_law_p25 17 rfl) ?_
  refine x_cvL (As := []) (st := [.long r345]) C LRL_189 (ci := 8) rfl rfl (by decide) (by decide) (m_X8_checksum (kL κ) (kad κ) (kD κ) (kca κ) C.ado   s344 _ hp) rfl (by decide) rfl (Nat.le_of_ble_eq_true rfl) (dL_law_p25 18 rfl) (fun r347 s346 hp => ?_)
  refine x_lcmp C (dL_law_p25 19 rfl) ?_
  refine x_if_eq (tgt := 1493) C (dL_law_p25 20 rfl) (by decide) (fun hc => ?_) (fun hc => ?_)
  · have hp := hp.1 (lgc_eq.mp hc)
    obtain ⟨v348, ev348⟩ : ∃ z : Int32, z = u3 + 5 := ⟨_, rfl⟩
    have hp := hp v348 ev348
    refine x_iinc (v := v348) (loc' := [(3, .int v348), (0, .ref b), (1, .ref (kad κ 0)), (2, .ref (kad κ 204))]) 3 C rfl (by rw [ev348]; rfl) (by decide) rfl (dL_law_p25 23 rfl) ?_
    refine x_goto (tgt := 18) C (dL_law_p25 24 rfl) (by decide) ?_
    refine x_loc (loc' := [(0, .ref b), (1, .ref (kad κ 0)), (2, .ref (kad κ 204)), (3, .int v348)]) [1, 2, 3, 0] rfl ?_
    exact hc18 v348 s346 hp
  · have hp := hp.2 (fun q => hc (lgc_eq.mpr q))
    refine x_iconst (v := 0) C (by decide) (dL_law_p25 21 rfl) ?_
    exact hp.elim
def F_L_law_18 (L : Nat) (xs : Nat → Int32) (K : Unit) (c18 : (Int32 × St) → Prop) (u3 : Int32) (σ : St) : Prop := (((nI L) - 5) < u3 → (True)) ∧ (¬ (((nI L) - 5) < u3) → vp_in u3 L ∧ (∀ v2 : Int32, v2 = ((xs (ix u3)) &&& 63) → ((v2 = 0 → (J_L_law_216 L xs K c18 u3 σ)) ∧ (v2 = 1 → (J_L_law_239 L xs K c18 u3 σ)) ∧ (v2 = 2 → (J_L_law_252 L xs K c18 u3 σ)) ∧ (v2 = 3 → (J_L_law_265 L xs K c18 u3 σ)) ∧ (v2 = 4 → (J_L_law_278 L xs K c18 u3 σ)) ∧ (v2 = 5 → (J_L_law_301 L xs K c18 u3 σ)) ∧ (v2 = 6 → (J_L_law_314 L xs K c18 u3 σ)) ∧ (v2 = 7 → (J_L_law_337 L xs K c18 u3 σ)) ∧ (v2 = 8 → (J_L_law_370 L xs K c18 u3 σ)) ∧ (v2 = 9 → (J_L_law_403 L xs K c18 u3 σ)) ∧ (v2 = 10 → (J_L_law_446 L xs K c18 u3 σ)) ∧ (v2 = 11 → (J_L_law_469 L xs K c18 u3 σ)) ∧ (v2 = 12 → (J_L_law_512 L xs K c18 u3 σ)) ∧ (v2 = 13 → (J_L_law_555 L xs K c18 u3 σ)) ∧ (v2 = 14 → (J_L_law_608 L xs K c18 u3 σ)) ∧ (v2 = 15 → (J_L_law_661 L xs K c18 u3 σ)) ∧ (v2 = 16 → (J_L_law_700 L xs K c18 u3 σ)) ∧ (v2 = 17 → (J_L_law_739 L xs K c18 u3 σ)) ∧ (v2 = 18 → (J_L_law_762 L xs K c18 u3 σ)) ∧ (v2 = 19 → (J_L_law_795 L xs K c18 u3 σ)) ∧ (v2 = 20 → (J_L_law_828 L xs K c18 u3 σ)) ∧ (v2 = 21 → (J_L_law_871 L xs K c18 u3 σ)) ∧ (v2 = 22 → (J_L_law_894 L xs K c18 u3 σ)) ∧ (v2 = 23 → (J_L_law_927 L xs K c18 u3 σ)) ∧ (v2 = 24 → (J_L_law_960 L xs K c18 u3 σ)) ∧ (v2 = 25 → (J_L_law_1003 L xs K c18 u3 σ)) ∧ (v2 = 26 → (J_L_law_1046 L xs K c18 u3 σ)) ∧ (v2 = 27 → (J_L_law_1069 L xs K c18 u3 σ)) ∧ (v2 = 28 → (J_L_law_1092 L xs K c18 u3 σ)) ∧ (v2 = 29 → (J_L_law_1115 L xs K c18 u3 σ)) ∧ (v2 = 30 → (J_L_law_1139 L xs K c18 u3 σ)) ∧ (v2 = 31 → (J_L_law_1209 L xs K c18 u3 σ)) ∧ (v2 = 32 → (J_L_law_1242 L xs K c18 u3 σ)) ∧ (v2 = 33 → (J_L_law_1265 L xs K c18 u3 σ)) ∧ (v2 = 34 → (J_L_law_1298 L xs K c18 u3 σ)) ∧ (v2 = 35 → (J_L_law_1331 L xs K c18 u3 σ)) ∧ (v2 = 36 → (J_L_law_1354 L xs K c18 u3 σ)) ∧ (v2 = 37 → (J_L_law_1387 L xs K c18 u3 σ)) ∧ (v2 = 38 → (J_L_law_1410 L xs K c18 u3 σ)) ∧ (v2 = 39 → (J_L_law_1433 L xs K c18 u3 σ)) ∧ (v2 = 40 → (J_L_law_1456 L xs K c18 u3 σ)) ∧ (v2 = 41 → (J_L_law_1479 L xs K c18 u3 σ)) ∧ (v2.toInt < 0 ∨ 41 < v2.toInt → ∀ v349 : Int32, v349 = u3 + 5 → c18 (v349, σ)))))
set_option maxHeartbeats 4000000 in
set_option maxRecDepth 100000 in
theorem F_L_law_18_w {κ : Kap} {K : Unit} {b L : Nat} {xs : Nat → Int32} {c18 : (Int32 × St) → Prop} (C : Ok κ RL cL_law 4 17) (hret : ∀ (pc : Nat) (loc : List (Nat × Value)) (σ : St), decode cL_law pc = .ok (.ireturn, 1) → GG κ pc loc [.int 1] σ) (hX : lawX κ b L xs) (u3 : Int32)     (σ : St) (hc18 : ∀ (u3 : Int32) (σ : St), c18 (u3, σ) → GG κ 18 [(0, .ref b), (1, .ref (kad κ 0)), (2, .ref (kad κ 204)), (3, .int u3)] [] σ) (hp : F_L_law_18 L xs K c18 u3 σ) : GG κ 18 [(0, .ref b), (1, .ref (kad κ 0)), (2, .ref (kad κ 204)), (3, .int u3)] [] σ := by
  unfold F_L_law_18 at hp
  refine x_iload_n 3 C rfl (dL_law_p0 10 rfl) ?_
  refine x_aload_n 0 C rfl (dL_law_p0 11 rfl) ?_
  refine x_slen C hX (dL_law_p0 12 rfl) ?_
  refine x_iconst (v := 5) C (by decide) (dL_law_p0 13 rfl) ?_
  refine x_isub C (dL_law_p0 14 rfl) ?_
  refine x_icmp_gt (tgt := 1499) C (dL_law_p0 15 rfl) (by decide) (fun hc => ?_) (fun hc => ?_)
  · have hp := hp.1 hc
    refine x_iconst (v := 1) C (by decide) (dL_law_p25 25 rfl) ?_
    exact hret _ _ _ (dL_law_p25 26 rfl)
  · have hp := hp.2 hc
    refine x_aload_n 0 C rfl (dL_law_p0 16 rfl) ?_
    refine x_iload_n 3 C rfl (dL_law_p0 17 rfl) ?_
    obtain ⟨h1, hp⟩ := hp
    refine x_sld C hX h1 (dL_law_p0 18 rfl) ?_
    refine x_bipush (v := 63) C (by decide) (dL_law_p0 19 rfl) ?_
    refine x_iand C (dL_law_p0 20 rfl) ?_
    refine x_topI (fun v2 ev2 => ?_)
    have hp := hp v2 ev2
    rcases sw_cases v2 with h | h | h | h | h | h | h | h | h | h | h | h | h | h | h | h | h | h | h | h | h | h | h | h | h | h | h | h | h | h | h | h | h | h | h | h | h | h | h | h | h | h | h
    · have hp := hp.1 h
      refine x_tin (x := v2) (off := 184) (tgt := 216) C (dL_law_p0 21 rfl) (by rw [h]; decide) (by rw [h]; decide) (by rw [h]; rfl) (by decide) ?_
      exact J_L_law_216_w C hret hX u3  σ hc18 hp
    · have hp := hp.2.1 h
      refine x_tin (x := v2) (off := 207) (tgt := 239) C (dL_law_p0 21 rfl) (by rw [h]; decide) (by rw [h]; decide) (by rw [h]; rfl) (by decide) ?_
      exact J_L_law_239_w C hret hX u3  σ hc18 hp
    · have hp := hp.2.2.1 h
      refine x_tin (x := v2) (off := 220) (tgt := 252) C (dL_law_p0 21 rfl) (by rw [h]; decide) (by rw [h]; decide) (by rw [h]; rfl) (by decide) ?_
      exact J_L_law_252_w C hret hX u3  σ hc18 hp
    · have hp := hp.2.2.2.1 h
      refine x_tin (x := v2) (off := 233) (tgt := 265) C (dL_law_p0 21 rfl) (by rw [h]; decide) (by rw [h]; decide) (by rw [h]; rfl) (by decide) ?_
      exact J_L_law_265_w C hret hX u3  σ hc18 hp
    · have hp := hp.2.2.2.2.1 h
      refine x_tin (x := v2) (off := 246) (tgt := 278) C (dL_law_p0 21 rfl) (by rw [h]; decide) (by rw [h]; decide) (by rw [h]; rfl) (by decide) ?_
      exact J_L_law_278_w C hret hX u3  σ hc18 hp
    · have hp := hp.2.2.2.2.2.1 h
      refine x_tin (x := v2) (off := 269) (tgt := 301) C (dL_law_p0 21 rfl) (by rw [h]; decide) (by rw [h]; decide) (by rw [h]; rfl) (by decide) ?_
      exact J_L_law_301_w C hret hX u3  σ hc18 hp
    · have hp := hp.2.2.2.2.2.2.1 h
      refine x_tin (x := v2) (off := 282) (tgt := 314) C (dL_law_p0 21 rfl) (by rw [h]; decide) (by rw [h]; decide) (by rw [h]; rfl) (by decide) ?_
      exact J_L_law_314_w C hret hX u3  σ hc18 hp
    · have hp := hp.2.2.2.2.2.2.2.1 h
      refine x_tin (x := v2) (off := 305) (tgt := 337) C (dL_law_p0 21 rfl) (by rw [h]; decide) (by rw [h]; decide) (by rw [h]; rfl) (by decide) ?_
      exact J_L_law_337_w C hret hX u3  σ hc18 hp
    · have hp := hp.2.2.2.2.2.2.2.2.1 h
      refine x_tin (x := v2) (off := 338) (tgt := 370) C (dL_law_p0 21 rfl) (by rw [h]; decide) (by rw [h]; decide) (by rw [h]; rfl) (by decide) ?_
      exact J_L_law_370_w C hret hX u3  σ hc18 hp
    · have hp := hp.2.2.2.2.2.2.2.2.2.1 h
      refine x_tin (x := v2) (off := 371) (tgt := 403) C (dL_law_p0 21 rfl) (by rw [h]; decide) (by rw [h]; decide) (by rw [h]; rfl) (by decide) ?_
      exact J_L_law_403_w C hret hX u3  σ hc18 hp
    · have hp := hp.2.2.2.2.2.2.2.2.2.2.1 h
      refine x_tin (x := v2) (off := 414) (tgt := 446) C (dL_law_p0 21 rfl) (by rw [h]; decide) (by rw [h]; decide) (by rw [h]; rfl) (by decide) ?_
      exact J_L_law_446_w C hret hX u3  σ hc18 hp
    · have hp := hp.2.2.2.2.2.2.2.2.2.2.2.1 h
      refine x_tin (x := v2) (off := 437) (tgt := 469) C (dL_law_p0 21 rfl) (by rw [h]; decide) (by rw [h]; decide) (by rw [h]; rfl) (by decide) ?_
      exact J_L_law_469_w C hret hX u3  σ hc18 hp
    · have hp := hp.2.2.2.2.2.2.2.2.2.2.2.2.1 h
      refine x_tin (x := v2) (off := 480) (tgt := 512) C (dL_law_p0 21 rfl) (by rw [h]; decide) (by rw [h]; decide) (by rw [h]; rfl) (by decide) ?_
      exact J_L_law_512_w C hret hX u3  σ hc18 hp
    · have hp := hp.2.2.2.2.2.2.2.2.2.2.2.2.2.1 h
      refine x_tin (x := v2) (off := 523) (tgt := 555) C (dL_law_p0 21 rfl) (by rw [h]; decide) (by rw [h]; decide) (by rw [h]; rfl) (by decide) ?_
      exact J_L_law_555_w C hret hX u3  σ hc18 hp
    · have hp := hp.2.2.2.2.2.2.2.2.2.2.2.2.2.2.1 h
      refine x_tin (x := v2) (off := 576) (tgt := 608) C (dL_law_p0 21 rfl) (by rw [h]; decide) (by rw [h]; decide) (by rw [h]; rfl) (by decide) ?_
      exact J_L_law_608_w C hret hX u3  σ hc18 hp
    · have hp := hp.2.2.2.2.2.2.2.2.2.2.2.2.2.2.2.1 h
      refine x_tin (x := v2) (off := 629) (tgt := 661) C (dL_law_p0 21 rfl) (by rw [h]; decide) (by rw [h]; decide) (by rw [h]; rfl) (by decide) ?_
      exact J_L_law_661_w C hret hX u3  σ hc18 hp
    · have hp := hp.2.2.2.2.2.2.2.2.2.2.2.2.2.2.2.2.1 h
      refine x_tin (x := v2) (off := 668) (tgt := 700) C (dL_law_p0 21 rfl) (by rw [h]; decide) (by rw [h]; decide) (by rw [h]; rfl) (by decide) ?_
      exact J_L_law_700_w C hret hX u3  σ hc18 hp
    · have hp := hp.2.2.2.2.2.2.2.2.2.2.2.2.2.2.2.2.2.1 h
      refine x_tin (x := v2) (off := 707) (tgt := 739) C (dL_law_p0 21 rfl) (by rw [h]; decide) (by rw [h]; decide) (by rw [h]; rfl) (by decide) ?_
      exact J_L_law_739_w C hret hX u3  σ hc18 hp
    · have hp := hp.2.2.2.2.2.2.2.2.2.2.2.2.2.2.2.2.2.2.1 h
      refine x_tin (x := v2) (off := 730) (tgt := 762) C (dL_law_p0 21 rfl) (by rw [h]; decide) (by rw [h]; decide) (by rw [h]; rfl) (by decide) ?_
      exact J_L_law_762_w C hret hX u3  σ hc18 hp
    · have hp := hp.2.2.2.2.2.2.2.2.2.2.2.2.2.2.2.2.2.2.2.1 h
      refine x_tin (x := v2) (off := 763) (tgt := 795) C (dL_law_p0 21 rfl) (by rw [h]; decide) (by rw [h]; decide) (by rw [h]; rfl) (by decide) ?_
      exact J_L_law_795_w C hret hX u3  σ hc18 hp
    · have hp := hp.2.2.2.2.2.2.2.2.2.2.2.2.2.2.2.2.2.2.2.2.1 h
      refine x_tin (x := v2) (off := 796) (tgt := 828) C (dL_law_p0 21 rfl) (by rw [h]; decide) (by rw [h]; decide) (by rw [h]; rfl) (by decide) ?_
      exact J_L_law_828_w C hret hX u3  σ hc18 hp
    · have hp := hp.2.2.2.2.2.2.2.2.2.2.2.2.2.2.2.2.2.2.2.2.2.1 h
      refine x_tin (x := v2) (off := 839) (tgt := 871) C (dL_law_p0 21 rfl) (by rw [h]; decide) (by rw [h]; decide) (by rw [h]; rfl) (by decide) ?_
      exact J_L_law_871_w C hret hX u3  σ hc18 hp
    · have hp := hp.2.2.2.2.2.2.2.2.2.2.2.2.2.2.2.2.2.2.2.2.2.2.1 h
      refine x_tin (x := v2) (off := 862) (tgt := 894) C (dL_law_p0 21 rfl) (by rw [h]; decide) (by rw [h]; decide) (by rw [h]; rfl) (by decide) ?_
      exact J_L_law_894_w C hret hX u3  σ hc18 hp
    · have hp := hp.2.2.2.2.2.2.2.2.2.2.2.2.2.2.2.2.2.2.2.2.2.2.2.1 h
      refine x_tin (x := v2) (off := 895) (tgt := 927) C (dL_law_p0 21 rfl) (by rw [h]; decide) (by rw [h]; decide) (by rw [h]; rfl) (by decide) ?_
      exact J_L_law_927_w C hret hX u3  σ hc18 hp
    · have hp := hp.2.2.2.2.2.2.2.2.2.2.2.2.2.2.2.2.2.2.2.2.2.2.2.2.1 h
      refine x_tin (x := v2) (off := 928) (tgt := 960) C (dL_law_p0 21 rfl) (by rw [h]; decide) (by rw [h]; decide) (by rw [h]; rfl) (by decide) ?_
      exact J_L_law_960_w C hret hX u3  σ hc18 hp
    · have hp := hp.2.2.2.2.2.2.2.2.2.2.2.2.2.2.2.2.2.2.2.2.2.2.2.2.2.1 h
      refine x_tin (x := v2) (off := 971) (tgt := 1003) C (dL_law_p0 21 rfl) (by rw [h]; decide) (by rw [h]; decide) (by rw [h]; rfl) (by decide) ?_
      exact J_L_law_1003_w C hret hX u3  σ hc18 hp
    · have hp := hp.2.2.2.2.2.2.2.2.2.2.2.2.2.2.2.2.2.2.2.2.2.2.2.2.2.2.1 h
      refine x_tin (x := v2) (off := 1014) (tgt := 1046) C (dL_law_p0 21 rfl) (by rw [h]; decide) (by rw [h]; decide) (by rw [h]; rfl) (by decide) ?_
      exact J_L_law_1046_w C hret hX u3  σ hc18 hp
    · have hp := hp.2.2.2.2.2.2.2.2.2.2.2.2.2.2.2.2.2.2.2.2.2.2.2.2.2.2.2.1 h
      refine x_tin (x := v2) (off := 1037) (tgt := 1069) C (dL_law_p0 21 rfl) (by rw [h]; decide) (by rw [h]; decide) (by rw [h]; rfl) (by decide) ?_
      exact J_L_law_1069_w C hret hX u3  σ hc18 hp
    · have hp := hp.2.2.2.2.2.2.2.2.2.2.2.2.2.2.2.2.2.2.2.2.2.2.2.2.2.2.2.2.1 h
      refine x_tin (x := v2) (off := 1060) (tgt := 1092) C (dL_law_p0 21 rfl) (by rw [h]; decide) (by rw [h]; decide) (by rw [h]; rfl) (by decide) ?_
      exact J_L_law_1092_w C hret hX u3  σ hc18 hp
    · have hp := hp.2.2.2.2.2.2.2.2.2.2.2.2.2.2.2.2.2.2.2.2.2.2.2.2.2.2.2.2.2.1 h
      refine x_tin (x := v2) (off := 1083) (tgt := 1115) C (dL_law_p0 21 rfl) (by rw [h]; decide) (by rw [h]; decide) (by rw [h]; rfl) (by decide) ?_
      exact J_L_law_1115_w C hret hX u3  σ hc18 hp
    · have hp := hp.2.2.2.2.2.2.2.2.2.2.2.2.2.2.2.2.2.2.2.2.2.2.2.2.2.2.2.2.2.2.1 h
      refine x_tin (x := v2) (off := 1107) (tgt := 1139) C (dL_law_p0 21 rfl) (by rw [h]; decide) (by rw [h]; decide) (by rw [h]; rfl) (by decide) ?_
      exact J_L_law_1139_w C hret hX u3  σ hc18 hp
    · have hp := hp.2.2.2.2.2.2.2.2.2.2.2.2.2.2.2.2.2.2.2.2.2.2.2.2.2.2.2.2.2.2.2.1 h
      refine x_tin (x := v2) (off := 1177) (tgt := 1209) C (dL_law_p0 21 rfl) (by rw [h]; decide) (by rw [h]; decide) (by rw [h]; rfl) (by decide) ?_
      exact J_L_law_1209_w C hret hX u3  σ hc18 hp
    · have hp := hp.2.2.2.2.2.2.2.2.2.2.2.2.2.2.2.2.2.2.2.2.2.2.2.2.2.2.2.2.2.2.2.2.1 h
      refine x_tin (x := v2) (off := 1210) (tgt := 1242) C (dL_law_p0 21 rfl) (by rw [h]; decide) (by rw [h]; decide) (by rw [h]; rfl) (by decide) ?_
      exact J_L_law_1242_w C hret hX u3  σ hc18 hp
    · have hp := hp.2.2.2.2.2.2.2.2.2.2.2.2.2.2.2.2.2.2.2.2.2.2.2.2.2.2.2.2.2.2.2.2.2.1 h
      refine x_tin (x := v2) (off := 1233) (tgt := 1265) C (dL_law_p0 21 rfl) (by rw [h]; decide) (by rw [h]; decide) (by rw [h]; rfl) (by decide) ?_
      exact J_L_law_1265_w C hret hX u3  σ hc18 hp
    · have hp := hp.2.2.2.2.2.2.2.2.2.2.2.2.2.2.2.2.2.2.2.2.2.2.2.2.2.2.2.2.2.2.2.2.2.2.1 h
      refine x_tin (x := v2) (off := 1266) (tgt := 1298) C (dL_law_p0 21 rfl) (by rw [h]; decide) (by rw [h]; decide) (by rw [h]; rfl) (by decide) ?_
      exact J_L_law_1298_w C hret hX u3  σ hc18 hp
    · have hp := hp.2.2.2.2.2.2.2.2.2.2.2.2.2.2.2.2.2.2.2.2.2.2.2.2.2.2.2.2.2.2.2.2.2.2.2.1 h
      refine x_tin (x := v2) (off := 1299) (tgt := 1331) C (dL_law_p0 21 rfl) (by rw [h]; decide) (by rw [h]; decide) (by rw [h]; rfl) (by decide) ?_
      exact J_L_law_1331_w C hret hX u3  σ hc18 hp
    · have hp := hp.2.2.2.2.2.2.2.2.2.2.2.2.2.2.2.2.2.2.2.2.2.2.2.2.2.2.2.2.2.2.2.2.2.2.2.2.1 h
      refine x_tin (x := v2) (off := 1322) (tgt := 1354) C (dL_law_p0 21 rfl) (by rw [h]; decide) (by rw [h]; decide) (by rw [h]; rfl) (by decide) ?_
      exact J_L_law_1354_w C hret hX u3  σ hc18 hp
    · have hp := hp.2.2.2.2.2.2.2.2.2.2.2.2.2.2.2.2.2.2.2.2.2.2.2.2.2.2.2.2.2.2.2.2.2.2.2.2.2.1 h
      refine x_tin (x := v2) (off := 1355) (tgt := 1387) C (dL_law_p0 21 rfl) (by rw [h]; decide) (by rw [h]; decide) (by rw [h]; rfl) (by decide) ?_
      exact J_L_law_1387_w C hret hX u3  σ hc18 hp
    · have hp := hp.2.2.2.2.2.2.2.2.2.2.2.2.2.2.2.2.2.2.2.2.2.2.2.2.2.2.2.2.2.2.2.2.2.2.2.2.2.2.1 h
      refine x_tin (x := v2) (off := 1378) (tgt := 1410) C (dL_law_p0 21 rfl) (by rw [h]; decide) (by rw [h]; decide) (by rw [h]; rfl) (by decide) ?_
      exact J_L_law_1410_w C hret hX u3  σ hc18 hp
    · have hp := hp.2.2.2.2.2.2.2.2.2.2.2.2.2.2.2.2.2.2.2.2.2.2.2.2.2.2.2.2.2.2.2.2.2.2.2.2.2.2.2.1 h
      refine x_tin (x := v2) (off := 1401) (tgt := 1433) C (dL_law_p0 21 rfl) (by rw [h]; decide) (by rw [h]; decide) (by rw [h]; rfl) (by decide) ?_
      exact J_L_law_1433_w C hret hX u3  σ hc18 hp
    · have hp := hp.2.2.2.2.2.2.2.2.2.2.2.2.2.2.2.2.2.2.2.2.2.2.2.2.2.2.2.2.2.2.2.2.2.2.2.2.2.2.2.2.1 h
      refine x_tin (x := v2) (off := 1424) (tgt := 1456) C (dL_law_p0 21 rfl) (by rw [h]; decide) (by rw [h]; decide) (by rw [h]; rfl) (by decide) ?_
      exact J_L_law_1456_w C hret hX u3  σ hc18 hp
    · have hp := hp.2.2.2.2.2.2.2.2.2.2.2.2.2.2.2.2.2.2.2.2.2.2.2.2.2.2.2.2.2.2.2.2.2.2.2.2.2.2.2.2.2.1 h
      refine x_tin (x := v2) (off := 1447) (tgt := 1479) C (dL_law_p0 21 rfl) (by rw [h]; decide) (by rw [h]; decide) (by rw [h]; rfl) (by decide) ?_
      exact J_L_law_1479_w C hret hX u3  σ hc18 hp
    · have hp := hp.2.2.2.2.2.2.2.2.2.2.2.2.2.2.2.2.2.2.2.2.2.2.2.2.2.2.2.2.2.2.2.2.2.2.2.2.2.2.2.2.2.2 h
      refine x_tout (x := v2) (tgt := 1493) C (dL_law_p0 21 rfl) h (by decide) ?_
      obtain ⟨v349, ev349⟩ : ∃ z : Int32, z = u3 + 5 := ⟨_, rfl⟩
      have hp := hp v349 ev349
      refine x_iinc (v := v349) (loc' := [(3, .int v349), (0, .ref b), (1, .ref (kad κ 0)), (2, .ref (kad κ 204))]) 3 C rfl (by rw [ev349]; rfl) (by decide) rfl (dL_law_p25 23 rfl) ?_
      refine x_goto (tgt := 18) C (dL_law_p25 24 rfl) (by decide) ?_
      refine x_loc (loc' := [(0, .ref b), (1, .ref (kad κ 0)), (2, .ref (kad κ 204)), (3, .int v349)]) [1, 2, 3, 0] rfl ?_
      exact hc18 v349 σ hp
def P_L_law (L : Nat) (xs : Nat → Int32) (σ : St) (K : Unit) : Prop := LpE (fun c s => F_L_law_18 L xs K  c s.1 s.2) (0, σ)
set_option maxHeartbeats 4000000 in
set_option maxRecDepth 100000 in
theorem m_L_law {κ : Kap} {K : Unit} {b L : Nat} {xs : Nat → Int32} (C : Ok κ RL cL_law 4 17) (hret : ∀ (pc : Nat) (loc : List (Nat × Value)) (σ : St), decode cL_law pc = .ok (.ireturn, 1) → GG κ pc loc [.int 1] σ) (hX : lawX κ b L xs) (σ : St) (hp : P_L_law L xs σ K) : GG κ 16 [(0, .ref b), (1, .ref (kad κ 0)), (2, .ref (kad κ 204))] [] σ := by
  unfold P_L_law at hp
  refine x_iconst (v := 0) C (by decide) (dL_law_p0 8 rfl) ?_
  refine x_istore_n (loc' := [(3, .int 0), (0, .ref b), (1, .ref (kad κ 0)), (2, .ref (kad κ 204))]) C rfl (by decide) rfl (dL_law_p0 9 rfl) ?_
  refine x_loc (loc' := [(0, .ref b), (1, .ref (kad κ 0)), (2, .ref (kad κ 204)), (3, .int 0)]) [1, 2, 3, 0] rfl ?_
  exact LpE_GG (S := (Int32 × St)) (F := fun c s => F_L_law_18 L xs K  c s.1 s.2) (W := fun s => GG κ 18 [(0, .ref b), (1, .ref (kad κ 0)), (2, .ref (kad κ 204)), (3, .int s.1)] [] s.2) (fun c s hcc hp => F_L_law_18_w C hret hX s.1  s.2  (fun u3 σ h => hcc (u3, σ) h) hp) hp
