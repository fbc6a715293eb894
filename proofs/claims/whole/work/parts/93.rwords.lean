/-! THE TEXT: words for the reference -/
section RLX
variable {T : Nat → Nat} {N q p : Nat} {I I' : MI} {L L' : ML}
theorem tks_w (hs : tks T N q < 27) : q < N ∧ isLe (T q) = true ∧ ¬ 8 < tlw T N q ∧ tks T N q = kwf (twl T N q) 26 := by
  simp only [tks] at hs ⊢
  by_cases hqN : q < N
  · simp only [if_pos hqN] at hs ⊢
    by_cases hl : isLe (T q) = true
    · simp only [if_pos hl] at hs ⊢
      by_cases h8 : 8 < tlw T N q
      · rw [if_pos h8] at hs; omega
      · exact ⟨hqN, hl, h8, by rw [if_neg h8]⟩
    · simp only [if_neg hl] at hs
      by_cases hd : isDi (T q) = true
      · simp only [if_pos hd] at hs
        split at hs <;> omega
      · simp only [if_neg hd] at hs
        by_cases hg : isSg (T q) = true
        · rw [if_pos hg] at hs
          have := isSg_c hg
          omega
        · rw [if_neg hg] at hs; omega
  · simp only [if_neg hqN] at hs; omega
theorem tks_s (hs : 29 < tks T N q) : isSg (tks T N q) = true ∧ q < N := by
  simp only [tks] at hs ⊢
  by_cases hqN : q < N
  · simp only [if_pos hqN] at hs ⊢
    refine ⟨?_, hqN⟩
    by_cases hl : isLe (T q) = true
    · simp only [if_pos hl] at hs
      have := kwf_le (twl T N q)
      split at hs <;> omega
    · simp only [if_neg hl] at hs ⊢
      by_cases hd : isDi (T q) = true
      · simp only [if_pos hd] at hs
        split at hs <;> omega
      · simp only [if_neg hd] at hs ⊢
        by_cases hg : isSg (T q) = true
        · rw [if_pos hg]; exact hg
        · rw [if_neg hg] at hs; omega
  · simp only [if_neg hqN] at hs; omega
theorem r_cmp (h : RLx T N q I L) (hs : tks T N q < 27) {i : Nat} {v : Int64} (hi : i < 26) (hv : v = Int64.ofNat (e256 (kwl.getD i []))) : (lg_cmp (L 102 9) v = 0) = (tks T N q = i) := by
  obtain ⟨hqN, hl, h8', hk⟩ := tks_w hs
  have hw := (twl_ok h8').1
  rw [lcmp_0, h.2.2.2.2.2 (by omega), hv, e256_eq hw (kwl_ok i hi), hk]
  exact propext ⟨fun h => (kwf_iff hi).mpr h.symm, fun h => ((kwf_iff hi).mp h).symm⟩
theorem r_cd (hB : q < N → T q < 256) (h : RLx T N q I L) (v : Nat) (hv : v < 256) : (I 102 6 = Int32.ofNat v) = (rcd (tks T N q) = v) := by
  have := rcd_lt (tks_lt (T := T) (N := N) (q := q) hB)
  rw [h.2.2.1, q_eq (by omega) (by omega)]
theorem r_c1 (hB : q < N → T q < 256) (h : RLx T N q I L) : (I 102 6 = 1) = (tks T N q < 27) := by
  rw [show (1 : Int32) = Int32.ofNat 1 from rfl, r_cd hB h 1 (by omega)]
  apply propext
  simp only [rcd]
  repeat' split
  all_goals omega
theorem r_cs (hB : q < N → T q < 256) (h : RLx T N q I L) {v : Nat} (hv : 29 < v) (hv' : v < 256) : (I 102 6 = Int32.ofNat v) = (tks T N q = v) := by
  rw [r_cd hB h v hv']
  apply propext
  simp only [rcd]
  repeat' split
  all_goals omega
theorem r_c2 (hB : q < N → T q < 256) (h : RLx T N q I L) : (I 102 6 = 2) = (tks T N q = 27) := by
  rw [show (2 : Int32) = Int32.ofNat 2 from rfl, r_cd hB h 2 (by omega)]
  apply propext
  simp only [rcd]
  repeat' split
  all_goals omega
theorem r_c0 (hB : q < N → T q < 256) (h : RLx T N q I L) : (I 102 6 = 0) = (tks T N q = 28) := by
  rw [show (0 : Int32) = Int32.ofNat 0 from rfl, r_cd hB h 0 (by omega)]
  apply propext
  simp only [rcd]
  repeat' split
  all_goals omega
theorem r_c3 (hB : q < N → T q < 256) (h : RLx T N q I L) : (I 102 6 = 3) = (tks T N q = 29) := by
  rw [show (3 : Int32) = Int32.ofNat 3 from rfl, r_cd hB h 3 (by omega)]
  apply propext
  simp only [rcd]
  repeat' split
  all_goals omega
theorem kw_e : ∀ i, i < 26 → Int64.ofNat (e256 (kwl.getD i [])) = ([7632226, 25209, 1868850291, 1718773093, 495873780843, 2002873452, 113741193899620, 1818583406, 1920298085, 418498243685, 24948, 1936292453, 1936680564, 1668245870, 108230531507570, 491327153000, 108243466679400, 470021403752, 1685217655, 1651078245, 6709618, 500135716211, 1802071652, 28530, 6385252, 7237492] : List Int64).getD i 0 := by decide +kernel
theorem r_own (h : RLx T N q I L) (hs : tks T N q < 27) : x11_isOwn I L = some (if tks T N q < 26 then 1 else 0) := by
  have e : ∀ i v, i < 26 → ([7632226, 25209, 1868850291, 1718773093, 495873780843, 2002873452, 113741193899620, 1818583406, 1920298085, 418498243685, 24948, 1936292453, 1936680564, 1668245870, 108230531507570, 491327153000, 108243466679400, 470021403752, 1685217655, 1651078245, 6709618, 500135716211, 1802071652, 28530, 6385252, 7237492] : List Int64).getD i 0 = v → (lg_cmp (L 102 9) v = 0) = (tks T N q = i) := fun i v hi hv => r_cmp h hs hi (by rw [kw_e i hi, hv])
  unfold x11_isOwn
  simp only [e 0 7632226 (by omega) rfl, e 1 25209 (by omega) rfl, e 2 1868850291 (by omega) rfl, e 3 1718773093 (by omega) rfl, e 4 495873780843 (by omega) rfl, e 5 2002873452 (by omega) rfl, e 6 113741193899620 (by omega) rfl, e 7 1818583406 (by omega) rfl, e 8 1920298085 (by omega) rfl, e 9 418498243685 (by omega) rfl, e 10 24948 (by omega) rfl, e 11 1936292453 (by omega) rfl, e 12 1936680564 (by omega) rfl, e 13 1668245870 (by omega) rfl, e 14 108230531507570 (by omega) rfl, e 15 491327153000 (by omega) rfl, e 16 108243466679400 (by omega) rfl, e 17 470021403752 (by omega) rfl, e 18 1685217655 (by omega) rfl, e 19 1651078245 (by omega) rfl, e 20 6709618 (by omega) rfl, e 21 500135716211 (by omega) rfl, e 22 1802071652 (by omega) rfl, e 23 28530 (by omega) rfl, e 24 6385252 (by omega) rfl, e 25 7237492 (by omega) rfl]
  by_cases h26 : tks T N q < 26
  · rw [if_pos h26]
    generalize tks T N q = s at *
    obtain hh : s = 0 ∨ s = 1 ∨ s = 2 ∨ s = 3 ∨ s = 4 ∨ s = 5 ∨ s = 6 ∨ s = 7 ∨ s = 8 ∨ s = 9 ∨ s = 10 ∨ s = 11 ∨ s = 12 ∨ s = 13 ∨ s = 14 ∨ s = 15 ∨ s = 16 ∨ s = 17 ∨ s = 18 ∨ s = 19 ∨ s = 20 ∨ s = 21 ∨ s = 22 ∨ s = 23 ∨ s = 24 ∨ s = 25 := by omega
    clear e h hs h26
    rcases hh with e | e | e | e | e | e | e | e | e | e | e | e | e | e | e | e | e | e | e | e | e | e | e | e | e | e <;> rw [e] <;> rfl
  · have e26 : tks T N q = 26 := by omega
    rw [if_neg h26, e26]; rfl
theorem r_isName (hB : q < N → T q < 256) (h : RLx T N q I L) : x11_isName I L = some (if tks T N q = 26 then 1 else 0) := by
  simp only [x11_isName, r_c1 hB h]
  by_cases hs : tks T N q < 27
  · rw [if_pos hs, r_own h hs, q_b1]
    by_cases h26 : tks T N q < 26
    · rw [if_pos h26, if_neg (by decide), if_neg (by omega)]
    · rw [if_neg h26, if_pos rfl, if_pos (by omega)]
  · rw [if_neg hs, if_neg (by omega)]
/-- what is asked for by a word -/
def askd (s : Nat) : Int32 := if s = 11 then 0 else if s = 12 then 1 else if s = 4 then 2 else if s = 5 then 3 else if s = 20 then 4 else if s = 21 then 5 else if s = 17 then 6 else if s = 16 then 7 else if s = 22 then 8 else if s = 2 then 9 else -1
theorem r_asked (hB : q < N → T q < 256) (h : RLx T N q I L) : x11_asked I L = some (askd (tks T N q)) := by
  simp only [x11_asked, r_c1 hB h]
  by_cases hs : tks T N q < 27
  · have e : ∀ i v, i < 26 → Int64.ofNat (e256 (kwl.getD i [])) = v → (lg_cmp (L 102 9) v = 0) = (tks T N q = i) := fun i v hi hv => r_cmp h hs hi hv.symm
    rw [if_pos hs]
    simp only [e 11 1936292453 (by omega) (kw_e 11 (by omega)), e 12 1936680564 (by omega) (kw_e 12 (by omega)), e 4 495873780843 (by omega) (kw_e 4 (by omega)), e 5 2002873452 (by omega) (kw_e 5 (by omega)), e 20 6709618 (by omega) (kw_e 20 (by omega)), e 21 500135716211 (by omega) (kw_e 21 (by omega)), e 17 470021403752 (by omega) (kw_e 17 (by omega)), e 16 108243466679400 (by omega) (kw_e 16 (by omega)), e 22 1802071652 (by omega) (kw_e 22 (by omega)), e 2 1868850291 (by omega) (kw_e 2 (by omega)), askd]
    repeat' split
    all_goals rfl
  · rw [if_neg hs, askd, if_neg (by omega), if_neg (by omega), if_neg (by omega), if_neg (by omega), if_neg (by omega), if_neg (by omega), if_neg (by omega), if_neg (by omega), if_neg (by omega), if_neg (by omega)]
theorem c_seenBy {s : Nat} (hs : s < 256) : x0_seenBy (Int32.ofNat s) I = some (askd s) := by
  by_cases h23 : s < 23
  · have hh : s = 0 ∨ s = 1 ∨ s = 2 ∨ s = 3 ∨ s = 4 ∨ s = 5 ∨ s = 6 ∨ s = 7 ∨ s = 8 ∨ s = 9 ∨ s = 10 ∨ s = 11 ∨ s = 12 ∨ s = 13 ∨ s = 14 ∨ s = 15 ∨ s = 16 ∨ s = 17 ∨ s = 18 ∨ s = 19 ∨ s = 20 ∨ s = 21 ∨ s = 22 := by omega
    rcases hh with e | e | e | e | e | e | e | e | e | e | e | e | e | e | e | e | e | e | e | e | e | e | e <;> rw [e] <;> rfl
  · have hn : ∀ k : Nat, k < 23 → ¬ Int32.ofNat s = Int32.ofNat k := fun k hk => by rw [q_eq (by omega) (by omega)]; omega
    unfold x0_seenBy
    rw [if_neg (show ¬ Int32.ofNat s = 2 from hn 2 (by omega)), if_neg (show ¬ Int32.ofNat s = 3 from hn 3 (by omega)), if_neg (show ¬ Int32.ofNat s = 4 from hn 4 (by omega)), if_neg (show ¬ Int32.ofNat s = 5 from hn 5 (by omega)), if_neg (show ¬ Int32.ofNat s = 6 from hn 6 (by omega)), if_neg (show ¬ Int32.ofNat s = 7 from hn 7 (by omega)), if_neg (show ¬ Int32.ofNat s = 8 from hn 8 (by omega)), if_neg (show ¬ Int32.ofNat s = 9 from hn 9 (by omega)), if_neg (show ¬ Int32.ofNat s = 10 from hn 10 (by omega)), if_neg (show ¬ Int32.ofNat s = 11 from hn 11 (by omega)), if_neg (show ¬ Int32.ofNat s = 12 from hn 12 (by omega)), if_neg (show ¬ Int32.ofNat s = 13 from hn 13 (by omega)), if_neg (show ¬ Int32.ofNat s = 14 from hn 14 (by omega)), if_neg (show ¬ Int32.ofNat s = 15 from hn 15 (by omega)), if_neg (show ¬ Int32.ofNat s = 16 from hn 16 (by omega)), if_neg (show ¬ Int32.ofNat s = 17 from hn 17 (by omega)), if_neg (show ¬ Int32.ofNat s = 18 from hn 18 (by omega)), if_neg (show ¬ Int32.ofNat s = 19 from hn 19 (by omega)), if_neg (show ¬ Int32.ofNat s = 20 from hn 20 (by omega)), if_neg (show ¬ Int32.ofNat s = 21 from hn 21 (by omega)), if_neg (show ¬ Int32.ofNat s = 22 from hn 22 (by omega)), askd, if_neg (by omega), if_neg (by omega), if_neg (by omega), if_neg (by omega), if_neg (by omega), if_neg (by omega), if_neg (by omega), if_neg (by omega), if_neg (by omega), if_neg (by omega)]
/-- the sign of a token, as the reference has it -/
def sgn (s : Nat) : Nat := if s = 24 then 38 else if s = 23 then 124 else if s = 60 ∨ s = 62 ∨ s = 61 ∨ s = 43 ∨ s = 45 ∨ s = 42 ∨ s = 47 ∨ s = 37 then s else 0
theorem r_sign (hB : q < N → T q < 256) (h : RLx T N q I L) : x11_sign I L = some (Int32.ofNat (sgn (tks T N q))) := by
  have e1 := r_isW hB h (i := 24) (v := 6385252) (by omega) (kw_e 24 (by omega)).symm
  have e2 := r_isW hB h (i := 23) (v := 28530) (by omega) (kw_e 23 (by omega)).symm
  have hc : ∀ v : Nat, 29 < v → v < 256 → (I 102 6 = Int32.ofNat v) = (tks T N q = v) := fun v h1 h2 => r_cs hB h h1 h2
  have h6 := h.2.2.1
  simp only [x11_sign, e1, q_b1]
  by_cases s24 : tks T N q = 24
  · rw [if_pos s24, if_neg (by decide), sgn, if_pos s24]; rfl
  · rw [if_neg s24, if_pos rfl]
    simp only [e2, q_b1]
    by_cases s23 : tks T N q = 23
    · rw [if_pos s23, if_neg (by decide), sgn, if_neg s24, if_pos s23]; rfl
    · rw [if_neg s23, if_pos rfl, sgn, if_neg s24, if_neg s23]
      simp only [show (I 102 6 = 60) = (tks T N q = 60) from hc 60 (by omega) (by omega), show (I 102 6 = 62) = (tks T N q = 62) from hc 62 (by omega) (by omega), show (I 102 6 = 61) = (tks T N q = 61) from hc 61 (by omega) (by omega), show (I 102 6 = 43) = (tks T N q = 43) from hc 43 (by omega) (by omega), show (I 102 6 = 45) = (tks T N q = 45) from hc 45 (by omega) (by omega), show (I 102 6 = 42) = (tks T N q = 42) from hc 42 (by omega) (by omega), show (I 102 6 = 47) = (tks T N q = 47) from hc 47 (by omega) (by omega), show (I 102 6 = 37) = (tks T N q = 37) from hc 37 (by omega) (by omega)]
      have hr : 29 < tks T N q → I 102 6 = Int32.ofNat (tks T N q) := fun hgt => by
        rw [h6, rcd, if_neg (by omega), if_neg (by omega), if_neg (by omega), if_neg (by omega)]
      by_cases g : tks T N q = 60 ∨ tks T N q = 62 ∨ tks T N q = 61 ∨ tks T N q = 43 ∨ tks T N q = 45 ∨ tks T N q = 42 ∨ tks T N q = 47 ∨ tks T N q = 37
      · rw [if_pos g, hr (by omega)]
        repeat' split
        all_goals first | rfl | omega
      · rw [if_neg g]
        repeat' split
        all_goals first | rfl | omega
end RLX
