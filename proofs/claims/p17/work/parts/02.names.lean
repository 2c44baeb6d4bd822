/-- words that ride along a call: the tables only grow warmer -/
def zRide : Cond → Bool
  | .methodLinkNest .. | .fieldLinkNest .. | .castable .. | .declares _ | .arrayOver (.object _) => true
  | w => goodWord w
theorem zRide_at {args a9 : Array Value} {s U : State} (hW : s.WarmedH U.vm) {w : Cond} (hr : zRide w = true) (h : w.before args s = true) : w.before a9 U = true := by
  unfold zRide at hr
  split at hr
  · exact va_Nw.use rfl (va_Nw.warmM hW (va_Nw.of rfl h))
  · exact va_Nw.use rfl (va_Nw.warmF hW (va_Nw.of rfl h))
  · exact va_Nw.use rfl (va_Nw.warmC hW (va_Nw.of rfl h))
  · exact va_Nw.use rfl (va_Nw.warmD hW (va_Nw.of rfl h))
  · exact va_AO.use (va_AO.moved hW.alike (va_AO.of h))
  · exact word_at hW (good_of_word hr) h
def lw_R : List Cond := lw_tbl.filter zRide
/-- all of them hold -/
def zH (U : State) : Prop := ∀ w ∈ lw_R, w.before #[] U = true
theorem zR {w : Cond} (h : w ∈ lw_tbl) (hr : zRide w = true) : w ∈ lw_R := List.mem_filter.mpr ⟨h, hr⟩
theorem zH.moved {s U : State} (hW : s.WarmedH U.vm) (h : zH s) : zH U := fun w hw => zRide_at hW (List.mem_filter.mp hw).2 (h w hw)
theorem zH.use {s : State} (h : zH s) (a9 : Array Value) : ∀ w ∈ lw_R, w.before a9 s = true := fun w hw => zRide_at (State.WarmedH.refl s) (List.mem_filter.mp hw).2 (h w hw)
theorem zH.of {s : State} {args : Array Value} (h : ∀ w ∈ lw_tbl, w.before args s = true) : zH s := fun w hw => zRide_at (State.WarmedH.refl s) (List.mem_filter.mp hw).2 (h w (List.mem_filter.mp hw).1)
theorem zk_1 : ∀ w ∈ tables_1_1, w ∈ lw_tbl := fun w h => List.mem_append_right _ (List.mem_append_left _ h)
theorem zk_2 : ∀ w ∈ tables_1_2, w ∈ lw_tbl := fun w h => List.mem_append_right _ (List.mem_append_right _ (List.mem_append_left _ h))
theorem zk_3 : ∀ w ∈ tables_1_3, w ∈ lw_tbl := fun w h => List.mem_append_right _ (List.mem_append_right _ (List.mem_append_right _ (List.mem_append_left _ h)))
theorem zk_4 : ∀ w ∈ tables_1_4, w ∈ lw_tbl := fun w h => List.mem_append_right _ (List.mem_append_right _ (List.mem_append_right _ (List.mem_append_right _ (List.mem_append_left _ h))))
theorem zk_5 : ∀ w ∈ tables_1_5, w ∈ lw_tbl := fun w h => List.mem_append_right _ (List.mem_append_right _ (List.mem_append_right _ (List.mem_append_right _ (List.mem_append_right _ (List.mem_append_left _ h)))))
theorem zk_6 : ∀ w ∈ tables_1_6, w ∈ lw_tbl := fun w h => List.mem_append_right _ (List.mem_append_right _ (List.mem_append_right _ (List.mem_append_right _ (List.mem_append_right _ (List.mem_append_right _ (List.mem_append_left _ h))))))
theorem zk_7 : ∀ w ∈ tables_1_7, w ∈ lw_tbl := fun w h => List.mem_append_right _ (List.mem_append_right _ (List.mem_append_right _ (List.mem_append_right _ (List.mem_append_right _ (List.mem_append_right _ (List.mem_append_right _ (List.mem_append_left _ h)))))))
theorem zk_8 : ∀ w ∈ tables_1_8, w ∈ lw_tbl := fun w h => List.mem_append_right _ (List.mem_append_right _ (List.mem_append_right _ (List.mem_append_right _ (List.mem_append_right _ (List.mem_append_right _ (List.mem_append_right _ (List.mem_append_right _ (List.mem_append_left _ h))))))))
theorem zk_9 : ∀ w ∈ tables_1_9, w ∈ lw_tbl := fun w h => List.mem_append_right _ (List.mem_append_right _ (List.mem_append_right _ (List.mem_append_right _ (List.mem_append_right _ (List.mem_append_right _ (List.mem_append_right _ (List.mem_append_right _ (List.mem_append_right _ (List.mem_append_left _ h)))))))))
theorem zk_10 : ∀ w ∈ tables_1_10, w ∈ lw_tbl := fun w h => List.mem_append_right _ (List.mem_append_right _ (List.mem_append_right _ (List.mem_append_right _ (List.mem_append_right _ (List.mem_append_right _ (List.mem_append_right _ (List.mem_append_right _ (List.mem_append_right _ (List.mem_append_right _ (List.mem_append_left _ h))))))))))
theorem zk_11 : ∀ w ∈ tables_1_11, w ∈ lw_tbl := fun w h => List.mem_append_right _ (List.mem_append_right _ (List.mem_append_right _ (List.mem_append_right _ (List.mem_append_right _ (List.mem_append_right _ (List.mem_append_right _ (List.mem_append_right _ (List.mem_append_right _ (List.mem_append_right _ (List.mem_append_right _ (List.mem_append_left _ h)))))))))))
theorem zk_12 : ∀ w ∈ tables_1_12, w ∈ lw_tbl := fun w h => List.mem_append_right _ (List.mem_append_right _ (List.mem_append_right _ (List.mem_append_right _ (List.mem_append_right _ (List.mem_append_right _ (List.mem_append_right _ (List.mem_append_right _ (List.mem_append_right _ (List.mem_append_right _ (List.mem_append_right _ (List.mem_append_right _ (List.mem_append_left _ h))))))))))))
theorem zk_13 : ∀ w ∈ tables_1_13, w ∈ lw_tbl := fun w h => List.mem_append_right _ (List.mem_append_right _ (List.mem_append_right _ (List.mem_append_right _ (List.mem_append_right _ (List.mem_append_right _ (List.mem_append_right _ (List.mem_append_right _ (List.mem_append_right _ (List.mem_append_right _ (List.mem_append_right _ (List.mem_append_right _ (List.mem_append_right _ (List.mem_append_left _ h)))))))))))))
theorem zk_14 : ∀ w ∈ tables_1_14, w ∈ lw_tbl := fun w h => List.mem_append_right _ (List.mem_append_right _ (List.mem_append_right _ (List.mem_append_right _ (List.mem_append_right _ (List.mem_append_right _ (List.mem_append_right _ (List.mem_append_right _ (List.mem_append_right _ (List.mem_append_right _ (List.mem_append_right _ (List.mem_append_right _ (List.mem_append_right _ (List.mem_append_right _ (h))))))))))))))
/-- a method's words: its code alone; all else comes with the start -/
abbrev zW (w : Cond) : List Cond := [w]
theorem zGood {w : Cond} (h : w ∈ lw_R) (hr : goodWord w = true) : GoodIn lw_R (zW w) := fun w9 h9 => by
  have e9 : w9 = w := List.mem_singleton.mp h9
  subst e9
  exact ⟨h, good_of_word hr⟩
theorem k1_68 : (Jvm.Cond.lays "ChanceArena$Words" "ChanceArena$Words" "tape" "[C") ∈ lw_R := zR (zk_1 _ (List.mem_of_getElem? (i := 68) rfl)) rfl
theorem k1_70 : (Jvm.Cond.lays "ChanceArena$Words" "ChanceArena$Words" "length" "I") ∈ lw_R := zR (zk_1 _ (List.mem_of_getElem? (i := 70) rfl)) rfl
theorem k1_72 : (Jvm.Cond.lays "ChanceArena$Words" "ChanceArena$Words" "count" "I") ∈ lw_R := zR (zk_1 _ (List.mem_of_getElem? (i := 72) rfl)) rfl
theorem k1_74 : (Jvm.Cond.lays "ChanceArena$Words" "ChanceArena$Words" "sorts" "[I") ∈ lw_R := zR (zk_1 _ (List.mem_of_getElem? (i := 74) rfl)) rfl
theorem k1_76 : (Jvm.Cond.lays "ChanceArena$Words" "ChanceArena$Words" "starts" "[I") ∈ lw_R := zR (zk_1 _ (List.mem_of_getElem? (i := 76) rfl)) rfl
theorem k1_78 : (Jvm.Cond.lays "ChanceArena$Words" "ChanceArena$Words" "amounts" "[I") ∈ lw_R := zR (zk_1 _ (List.mem_of_getElem? (i := 78) rfl)) rfl
theorem k1_121 : (Jvm.Cond.lays "ChanceArena$RuleReader" "ChanceArena$RuleReader" "words" "LChanceArena$Words;") ∈ lw_R := zR (zk_1 _ (List.mem_of_getElem? (i := 121) rfl)) rfl
theorem k1_123 : (Jvm.Cond.lays "ChanceArena$RuleReader" "ChanceArena$RuleReader" "text" "LChanceArena$Program;") ∈ lw_R := zR (zk_1 _ (List.mem_of_getElem? (i := 123) rfl)) rfl
theorem k1_125 : (Jvm.Cond.lays "ChanceArena$RuleReader" "ChanceArena$RuleReader" "at" "I") ∈ lw_R := zR (zk_1 _ (List.mem_of_getElem? (i := 125) rfl)) rfl
theorem k1_127 : (Jvm.Cond.lays "ChanceArena$RuleReader" "ChanceArena$RuleReader" "fault" "I") ∈ lw_R := zR (zk_1 _ (List.mem_of_getElem? (i := 127) rfl)) rfl
theorem k1_129 : (Jvm.Cond.lays "ChanceArena$RuleReader" "ChanceArena$RuleReader" "place" "I") ∈ lw_R := zR (zk_1 _ (List.mem_of_getElem? (i := 129) rfl)) rfl
theorem k1_131 : (Jvm.Cond.lays "ChanceArena$RuleReader" "ChanceArena$RuleReader" "depth" "I") ∈ lw_R := zR (zk_1 _ (List.mem_of_getElem? (i := 131) rfl)) rfl
theorem k1_133 : (Jvm.Cond.lays "ChanceArena$RuleReader" "ChanceArena$RuleReader" "constsOnly" "Z") ∈ lw_R := zR (zk_1 _ (List.mem_of_getElem? (i := 133) rfl)) rfl
theorem k1_135 : (Jvm.Cond.lays "ChanceArena$RuleReader" "ChanceArena$RuleReader" "operandWanted" "Z") ∈ lw_R := zR (zk_1 _ (List.mem_of_getElem? (i := 135) rfl)) rfl
theorem k1_137 : (Jvm.Cond.laysFinal "ChanceArena$RuleReader" "ChanceArena$RuleReader" "open" "[I") ∈ lw_R := zR (zk_1 _ (List.mem_of_getElem? (i := 137) rfl)) rfl
theorem k1_139 : (Jvm.Cond.laysFinal "ChanceArena$RuleReader" "ChanceArena$RuleReader" "openPlace" "[I") ∈ lw_R := zR (zk_1 _ (List.mem_of_getElem? (i := 139) rfl)) rfl
theorem k1_141 : (Jvm.Cond.laysFinal "ChanceArena$RuleReader" "ChanceArena$RuleReader" "openOrder" "[I") ∈ lw_R := zR (zk_1 _ (List.mem_of_getElem? (i := 141) rfl)) rfl
theorem k1_143 : (Jvm.Cond.laysFinal "ChanceArena$RuleReader" "ChanceArena$RuleReader" "openMarks" "[I") ∈ lw_R := zR (zk_1 _ (List.mem_of_getElem? (i := 143) rfl)) rfl
theorem k1_145 : (Jvm.Cond.lays "ChanceArena$RuleReader" "ChanceArena$RuleReader" "opened" "I") ∈ lw_R := zR (zk_1 _ (List.mem_of_getElem? (i := 145) rfl)) rfl
theorem k1_147 : (Jvm.Cond.laysFinal "ChanceArena$RuleReader" "ChanceArena$RuleReader" "truths" "[Z") ∈ lw_R := zR (zk_1 _ (List.mem_of_getElem? (i := 147) rfl)) rfl
theorem k1_149 : (Jvm.Cond.lays "ChanceArena$RuleReader" "ChanceArena$RuleReader" "operandCount" "I") ∈ lw_R := zR (zk_1 _ (List.mem_of_getElem? (i := 149) rfl)) rfl
theorem k1_151 : (Jvm.Cond.laysFinal "ChanceArena$RuleReader" "ChanceArena$RuleReader" "nameWord" "[I") ∈ lw_R := zR (zk_1 _ (List.mem_of_getElem? (i := 151) rfl)) rfl
theorem k1_153 : (Jvm.Cond.laysFinal "ChanceArena$RuleReader" "ChanceArena$RuleReader" "nameSort" "[I") ∈ lw_R := zR (zk_1 _ (List.mem_of_getElem? (i := 153) rfl)) rfl
theorem k1_155 : (Jvm.Cond.laysFinal "ChanceArena$RuleReader" "ChanceArena$RuleReader" "nameIndex" "[I") ∈ lw_R := zR (zk_1 _ (List.mem_of_getElem? (i := 155) rfl)) rfl
theorem k1_157 : (Jvm.Cond.laysFinal "ChanceArena$RuleReader" "ChanceArena$RuleReader" "nameTruth" "[Z") ∈ lw_R := zR (zk_1 _ (List.mem_of_getElem? (i := 157) rfl)) rfl
theorem k1_159 : (Jvm.Cond.lays "ChanceArena$RuleReader" "ChanceArena$RuleReader" "nameCount" "I") ∈ lw_R := zR (zk_1 _ (List.mem_of_getElem? (i := 159) rfl)) rfl
theorem k1_196 : (Jvm.Cond.lays "ChanceArena$Machine" "ChanceArena$Machine" "text" "LChanceArena$Program;") ∈ lw_R := zR (zk_1 _ (List.mem_of_getElem? (i := 196) rfl)) rfl
theorem k1_198 : (Jvm.Cond.lays "ChanceArena$Machine" "ChanceArena$Machine" "fault" "I") ∈ lw_R := zR (zk_1 _ (List.mem_of_getElem? (i := 198) rfl)) rfl
theorem k1_200 : (Jvm.Cond.lays "ChanceArena$Machine" "ChanceArena$Machine" "place" "I") ∈ lw_R := zR (zk_1 _ (List.mem_of_getElem? (i := 200) rfl)) rfl
theorem k1_202 : (Jvm.Cond.lays "ChanceArena$Machine" "ChanceArena$Machine" "numbers" "[I") ∈ lw_R := zR (zk_1 _ (List.mem_of_getElem? (i := 202) rfl)) rfl
theorem k1_204 : (Jvm.Cond.lays "ChanceArena$Machine" "ChanceArena$Machine" "base" "I") ∈ lw_R := zR (zk_1 _ (List.mem_of_getElem? (i := 204) rfl)) rfl
theorem k1_206 : (Jvm.Cond.laysFinal "ChanceArena$Machine" "ChanceArena$Machine" "next" "[I") ∈ lw_R := zR (zk_1 _ (List.mem_of_getElem? (i := 206) rfl)) rfl
theorem k1_208 : (Jvm.Cond.lays "ChanceArena$Machine" "ChanceArena$Machine" "above" "[I") ∈ lw_R := zR (zk_1 _ (List.mem_of_getElem? (i := 208) rfl)) rfl
theorem k1_210 : (Jvm.Cond.lays "ChanceArena$Machine" "ChanceArena$Machine" "below" "[I") ∈ lw_R := zR (zk_1 _ (List.mem_of_getElem? (i := 210) rfl)) rfl
theorem k1_212 : (Jvm.Cond.lays "ChanceArena$Machine" "ChanceArena$Machine" "top" "I") ∈ lw_R := zR (zk_1 _ (List.mem_of_getElem? (i := 212) rfl)) rfl
theorem k1_214 : (Jvm.Cond.lays "ChanceArena$Machine" "ChanceArena$Machine" "stamp" "I") ∈ lw_R := zR (zk_1 _ (List.mem_of_getElem? (i := 214) rfl)) rfl
theorem k1_216 : (Jvm.Cond.laysFinal "ChanceArena$Machine" "ChanceArena$Machine" "stamps" "[I") ∈ lw_R := zR (zk_1 _ (List.mem_of_getElem? (i := 216) rfl)) rfl
theorem k1_218 : (Jvm.Cond.laysFinal "ChanceArena$Machine" "ChanceArena$Machine" "metAbove" "[I") ∈ lw_R := zR (zk_1 _ (List.mem_of_getElem? (i := 218) rfl)) rfl
theorem k1_220 : (Jvm.Cond.laysFinal "ChanceArena$Machine" "ChanceArena$Machine" "metBelow" "[I") ∈ lw_R := zR (zk_1 _ (List.mem_of_getElem? (i := 220) rfl)) rfl
theorem k1_222 : (Jvm.Cond.laysFinal "ChanceArena$Machine" "ChanceArena$Machine" "called" "[I") ∈ lw_R := zR (zk_1 _ (List.mem_of_getElem? (i := 222) rfl)) rfl
theorem k1_224 : (Jvm.Cond.laysFinal "ChanceArena$Machine" "ChanceArena$Machine" "back" "[I") ∈ lw_R := zR (zk_1 _ (List.mem_of_getElem? (i := 224) rfl)) rfl
theorem k1_226 : (Jvm.Cond.lays "ChanceArena$Machine" "ChanceArena$Machine" "calls" "I") ∈ lw_R := zR (zk_1 _ (List.mem_of_getElem? (i := 226) rfl)) rfl
theorem k1_238 : (Jvm.Cond.laysFinal "ChanceArena$TextReader" "ChanceArena$TextReader" "rules" "LChanceArena$RuleReader;") ∈ lw_R := zR (zk_1 _ (List.mem_of_getElem? (i := 238) rfl)) rfl
theorem k2_0 : (Jvm.Cond.laysFinal "ChanceArena$TextReader" "ChanceArena$TextReader" "machine" "LChanceArena$Machine;") ∈ lw_R := zR (zk_2 _ (List.mem_of_getElem? (i := 0) rfl)) rfl
theorem k2_2 : (Jvm.Cond.lays "ChanceArena$TextReader" "ChanceArena$TextReader" "text" "LChanceArena$Program;") ∈ lw_R := zR (zk_2 _ (List.mem_of_getElem? (i := 2) rfl)) rfl
theorem k2_4 : (Jvm.Cond.lays "ChanceArena$TextReader" "ChanceArena$TextReader" "nameWord" "I") ∈ lw_R := zR (zk_2 _ (List.mem_of_getElem? (i := 4) rfl)) rfl
theorem k2_6 : (Jvm.Cond.lays "ChanceArena$TextReader" "ChanceArena$TextReader" "itemStart" "I") ∈ lw_R := zR (zk_2 _ (List.mem_of_getElem? (i := 6) rfl)) rfl
theorem k2_8 : (Jvm.Cond.laysFinal "ChanceArena$TextReader" "ChanceArena$TextReader" "ruleStart" "[I") ∈ lw_R := zR (zk_2 _ (List.mem_of_getElem? (i := 8) rfl)) rfl
theorem k2_10 : (Jvm.Cond.laysFinal "ChanceArena$TextReader" "ChanceArena$TextReader" "rulePlace" "[I") ∈ lw_R := zR (zk_2 _ (List.mem_of_getElem? (i := 10) rfl)) rfl
theorem k2_12 : (Jvm.Cond.lays "ChanceArena$TextReader" "ChanceArena$TextReader" "inited" "Z") ∈ lw_R := zR (zk_2 _ (List.mem_of_getElem? (i := 12) rfl)) rfl
theorem k2_14 : (Jvm.Cond.lays "ChanceArena$TextReader" "ChanceArena$TextReader" "truth" "Z") ∈ lw_R := zR (zk_2 _ (List.mem_of_getElem? (i := 14) rfl)) rfl
theorem k2_85 : (Jvm.Cond.lays "ChanceArena$Program" "ChanceArena$Program" "orders" "[I") ∈ lw_R := zR (zk_2 _ (List.mem_of_getElem? (i := 85) rfl)) rfl
theorem k2_87 : (Jvm.Cond.lays "ChanceArena$Program" "ChanceArena$Program" "operands" "[I") ∈ lw_R := zR (zk_2 _ (List.mem_of_getElem? (i := 87) rfl)) rfl
theorem k2_89 : (Jvm.Cond.lays "ChanceArena$Program" "ChanceArena$Program" "length" "I") ∈ lw_R := zR (zk_2 _ (List.mem_of_getElem? (i := 89) rfl)) rfl
theorem k2_91 : (Jvm.Cond.lays "ChanceArena$Program" "ChanceArena$Program" "vars" "I") ∈ lw_R := zR (zk_2 _ (List.mem_of_getElem? (i := 91) rfl)) rfl
theorem k2_93 : (Jvm.Cond.laysFinal "ChanceArena$Program" "ChanceArena$Program" "low" "[I") ∈ lw_R := zR (zk_2 _ (List.mem_of_getElem? (i := 93) rfl)) rfl
theorem k2_95 : (Jvm.Cond.laysFinal "ChanceArena$Program" "ChanceArena$Program" "high" "[I") ∈ lw_R := zR (zk_2 _ (List.mem_of_getElem? (i := 95) rfl)) rfl
theorem k2_97 : (Jvm.Cond.laysFinal "ChanceArena$Program" "ChanceArena$Program" "init" "[I") ∈ lw_R := zR (zk_2 _ (List.mem_of_getElem? (i := 97) rfl)) rfl
theorem k2_99 : (Jvm.Cond.lays "ChanceArena$Program" "ChanceArena$Program" "names" "I") ∈ lw_R := zR (zk_2 _ (List.mem_of_getElem? (i := 99) rfl)) rfl
theorem k2_101 : (Jvm.Cond.laysFinal "ChanceArena$Program" "ChanceArena$Program" "above" "[I") ∈ lw_R := zR (zk_2 _ (List.mem_of_getElem? (i := 101) rfl)) rfl
theorem k2_103 : (Jvm.Cond.laysFinal "ChanceArena$Program" "ChanceArena$Program" "below" "[I") ∈ lw_R := zR (zk_2 _ (List.mem_of_getElem? (i := 103) rfl)) rfl
theorem k2_105 : (Jvm.Cond.laysFinal "ChanceArena$Program" "ChanceArena$Program" "formula" "[I") ∈ lw_R := zR (zk_2 _ (List.mem_of_getElem? (i := 105) rfl)) rfl
theorem k2_107 : (Jvm.Cond.lays "ChanceArena$Program" "ChanceArena$Program" "target" "I") ∈ lw_R := zR (zk_2 _ (List.mem_of_getElem? (i := 107) rfl)) rfl
theorem k2_109 : (Jvm.Cond.lays "ChanceArena$Program" "ChanceArena$Program" "commands" "I") ∈ lw_R := zR (zk_2 _ (List.mem_of_getElem? (i := 109) rfl)) rfl
theorem k2_111 : (Jvm.Cond.laysFinal "ChanceArena$Program" "ChanceArena$Program" "player" "[I") ∈ lw_R := zR (zk_2 _ (List.mem_of_getElem? (i := 111) rfl)) rfl
theorem k2_113 : (Jvm.Cond.laysFinal "ChanceArena$Program" "ChanceArena$Program" "commandPlace" "[I") ∈ lw_R := zR (zk_2 _ (List.mem_of_getElem? (i := 113) rfl)) rfl
theorem k2_115 : (Jvm.Cond.laysFinal "ChanceArena$Program" "ChanceArena$Program" "guard" "[I") ∈ lw_R := zR (zk_2 _ (List.mem_of_getElem? (i := 115) rfl)) rfl
theorem k2_117 : (Jvm.Cond.laysFinal "ChanceArena$Program" "ChanceArena$Program" "firstBranch" "[I") ∈ lw_R := zR (zk_2 _ (List.mem_of_getElem? (i := 117) rfl)) rfl
theorem k2_119 : (Jvm.Cond.laysFinal "ChanceArena$Program" "ChanceArena$Program" "branchPlace" "[I") ∈ lw_R := zR (zk_2 _ (List.mem_of_getElem? (i := 119) rfl)) rfl
theorem k2_121 : (Jvm.Cond.laysFinal "ChanceArena$Program" "ChanceArena$Program" "chance" "[I") ∈ lw_R := zR (zk_2 _ (List.mem_of_getElem? (i := 121) rfl)) rfl
theorem k2_123 : (Jvm.Cond.laysFinal "ChanceArena$Program" "ChanceArena$Program" "sets" "[I") ∈ lw_R := zR (zk_2 _ (List.mem_of_getElem? (i := 123) rfl)) rfl
theorem k2_182 : (Jvm.Cond.lays "ChanceArena$Game" "ChanceArena$Game" "count" "I") ∈ lw_R := zR (zk_2 _ (List.mem_of_getElem? (i := 182) rfl)) rfl
theorem k2_184 : (Jvm.Cond.laysFinal "ChanceArena$Game" "ChanceArena$Game" "numbers" "[I") ∈ lw_R := zR (zk_2 _ (List.mem_of_getElem? (i := 184) rfl)) rfl
theorem k2_186 : (Jvm.Cond.laysFinal "ChanceArena$Game" "ChanceArena$Game" "sorts" "[I") ∈ lw_R := zR (zk_2 _ (List.mem_of_getElem? (i := 186) rfl)) rfl
theorem k2_188 : (Jvm.Cond.laysFinal "ChanceArena$Game" "ChanceArena$Game" "told" "[I") ∈ lw_R := zR (zk_2 _ (List.mem_of_getElem? (i := 188) rfl)) rfl
theorem k2_190 : (Jvm.Cond.laysFinal "ChanceArena$Game" "ChanceArena$Game" "firstCommand" "[I") ∈ lw_R := zR (zk_2 _ (List.mem_of_getElem? (i := 190) rfl)) rfl
theorem k2_192 : (Jvm.Cond.laysFinal "ChanceArena$Game" "ChanceArena$Game" "textCommand" "[I") ∈ lw_R := zR (zk_2 _ (List.mem_of_getElem? (i := 192) rfl)) rfl
theorem k2_194 : (Jvm.Cond.laysFinal "ChanceArena$Game" "ChanceArena$Game" "multiple" "[I") ∈ lw_R := zR (zk_2 _ (List.mem_of_getElem? (i := 194) rfl)) rfl
theorem k2_196 : (Jvm.Cond.laysFinal "ChanceArena$Game" "ChanceArena$Game" "firstBranch" "[I") ∈ lw_R := zR (zk_2 _ (List.mem_of_getElem? (i := 196) rfl)) rfl
theorem k2_198 : (Jvm.Cond.laysFinal "ChanceArena$Game" "ChanceArena$Game" "goal" "[I") ∈ lw_R := zR (zk_2 _ (List.mem_of_getElem? (i := 198) rfl)) rfl
theorem k2_200 : (Jvm.Cond.laysFinal "ChanceArena$Game" "ChanceArena$Game" "weight" "[I") ∈ lw_R := zR (zk_2 _ (List.mem_of_getElem? (i := 200) rfl)) rfl
theorem k2_202 : (Jvm.Cond.lays "ChanceArena$Game" "ChanceArena$Game" "place" "I") ∈ lw_R := zR (zk_2 _ (List.mem_of_getElem? (i := 202) rfl)) rfl
theorem k2_204 : (Jvm.Cond.lays "ChanceArena$Game" "ChanceArena$Game" "faultState" "I") ∈ lw_R := zR (zk_2 _ (List.mem_of_getElem? (i := 204) rfl)) rfl
theorem k2_206 : (Jvm.Cond.lays "ChanceArena$Game" "ChanceArena$Game" "commandCount" "I") ∈ lw_R := zR (zk_2 _ (List.mem_of_getElem? (i := 206) rfl)) rfl
theorem k2_208 : (Jvm.Cond.lays "ChanceArena$Game" "ChanceArena$Game" "branchCount" "I") ∈ lw_R := zR (zk_2 _ (List.mem_of_getElem? (i := 208) rfl)) rfl
theorem k2_210 : (Jvm.Cond.lays "ChanceArena$Game" "ChanceArena$Game" "text" "LChanceArena$Program;") ∈ lw_R := zR (zk_2 _ (List.mem_of_getElem? (i := 210) rfl)) rfl
theorem k2_212 : (Jvm.Cond.laysFinal "ChanceArena$Game" "ChanceArena$Game" "machine" "LChanceArena$Machine;") ∈ lw_R := zR (zk_2 _ (List.mem_of_getElem? (i := 212) rfl)) rfl
theorem k2_214 : (Jvm.Cond.laysFinal "ChanceArena$Game" "ChanceArena$Game" "slots" "[I") ∈ lw_R := zR (zk_2 _ (List.mem_of_getElem? (i := 214) rfl)) rfl
theorem k2_216 : (Jvm.Cond.laysFinal "ChanceArena$Game" "ChanceArena$Game" "chanceAbove" "[I") ∈ lw_R := zR (zk_2 _ (List.mem_of_getElem? (i := 216) rfl)) rfl
theorem k2_218 : (Jvm.Cond.laysFinal "ChanceArena$Game" "ChanceArena$Game" "chanceBelow" "[I") ∈ lw_R := zR (zk_2 _ (List.mem_of_getElem? (i := 218) rfl)) rfl
theorem k3_5 : (Jvm.Cond.lays "ChanceArena$Natural" "ChanceArena$Natural" "limbs" "[I") ∈ lw_R := zR (zk_3 _ (List.mem_of_getElem? (i := 5) rfl)) rfl
theorem k3_7 : (Jvm.Cond.lays "ChanceArena$Natural" "ChanceArena$Natural" "size" "I") ∈ lw_R := zR (zk_3 _ (List.mem_of_getElem? (i := 7) rfl)) rfl
theorem k3_28 : (Jvm.Cond.laysFinal "ChanceArena$Fraction" "ChanceArena$Fraction" "above" "LChanceArena$Natural;") ∈ lw_R := zR (zk_3 _ (List.mem_of_getElem? (i := 28) rfl)) rfl
theorem k3_30 : (Jvm.Cond.laysFinal "ChanceArena$Fraction" "ChanceArena$Fraction" "below" "LChanceArena$Natural;") ∈ lw_R := zR (zk_3 _ (List.mem_of_getElem? (i := 30) rfl)) rfl
theorem k3_32 : (Jvm.Cond.lays "ChanceArena$Fraction" "ChanceArena$Fraction" "times" "I") ∈ lw_R := zR (zk_3 _ (List.mem_of_getElem? (i := 32) rfl)) rfl
theorem k3_47 : (Jvm.Cond.laysFinal "ChanceArena$Scales" "ChanceArena$Scales" "left" "LChanceArena$Natural;") ∈ lw_R := zR (zk_3 _ (List.mem_of_getElem? (i := 47) rfl)) rfl
theorem k3_49 : (Jvm.Cond.laysFinal "ChanceArena$Scales" "ChanceArena$Scales" "right" "LChanceArena$Natural;") ∈ lw_R := zR (zk_3 _ (List.mem_of_getElem? (i := 49) rfl)) rfl
theorem k3_51 : (Jvm.Cond.laysFinal "ChanceArena$Scales" "ChanceArena$Scales" "quotient" "LChanceArena$Natural;") ∈ lw_R := zR (zk_3 _ (List.mem_of_getElem? (i := 51) rfl)) rfl
theorem k3_53 : (Jvm.Cond.laysFinal "ChanceArena$Scales" "ChanceArena$Scales" "scaled" "LChanceArena$Natural;") ∈ lw_R := zR (zk_3 _ (List.mem_of_getElem? (i := 53) rfl)) rfl
theorem k3_55 : (Jvm.Cond.laysFinal "ChanceArena$Scales" "ChanceArena$Scales" "part" "LChanceArena$Natural;") ∈ lw_R := zR (zk_3 _ (List.mem_of_getElem? (i := 55) rfl)) rfl
theorem k3_57 : (Jvm.Cond.laysFinal "ChanceArena$Scales" "ChanceArena$Scales" "product" "LChanceArena$Natural;") ∈ lw_R := zR (zk_3 _ (List.mem_of_getElem? (i := 57) rfl)) rfl
theorem k3_59 : (Jvm.Cond.laysFinal "ChanceArena$Scales" "ChanceArena$Scales" "factors" "[J") ∈ lw_R := zR (zk_3 _ (List.mem_of_getElem? (i := 59) rfl)) rfl
theorem k3_61 : (Jvm.Cond.laysFinal "ChanceArena$Scales" "ChanceArena$Scales" "sumPart" "LChanceArena$Natural;") ∈ lw_R := zR (zk_3 _ (List.mem_of_getElem? (i := 61) rfl)) rfl
theorem k3_63 : (Jvm.Cond.laysFinal "ChanceArena$Scales" "ChanceArena$Scales" "termPart" "LChanceArena$Natural;") ∈ lw_R := zR (zk_3 _ (List.mem_of_getElem? (i := 63) rfl)) rfl
theorem k3_65 : (Jvm.Cond.lays "ChanceArena$Scales" "ChanceArena$Scales" "best" "LChanceArena$Fraction;") ∈ lw_R := zR (zk_3 _ (List.mem_of_getElem? (i := 65) rfl)) rfl
theorem k3_67 : (Jvm.Cond.lays "ChanceArena$Scales" "ChanceArena$Scales" "trial" "LChanceArena$Fraction;") ∈ lw_R := zR (zk_3 _ (List.mem_of_getElem? (i := 67) rfl)) rfl
theorem k3_88 : (Jvm.Cond.laysFinal "ChanceArena$Residues" "ChanceArena$Residues" "entries" "[I") ∈ lw_R := zR (zk_3 _ (List.mem_of_getElem? (i := 88) rfl)) rfl
theorem k3_90 : (Jvm.Cond.laysFinal "ChanceArena$Residues" "ChanceArena$Residues" "results" "[LChanceArena$Natural;") ∈ lw_R := zR (zk_3 _ (List.mem_of_getElem? (i := 90) rfl)) rfl
theorem k3_92 : (Jvm.Cond.laysFinal "ChanceArena$Residues" "ChanceArena$Residues" "work" "[I") ∈ lw_R := zR (zk_3 _ (List.mem_of_getElem? (i := 92) rfl)) rfl
theorem k3_94 : (Jvm.Cond.laysFinal "ChanceArena$Residues" "ChanceArena$Residues" "inverses" "[I") ∈ lw_R := zR (zk_3 _ (List.mem_of_getElem? (i := 94) rfl)) rfl
theorem k3_96 : (Jvm.Cond.laysFinal "ChanceArena$Residues" "ChanceArena$Residues" "columns" "[I") ∈ lw_R := zR (zk_3 _ (List.mem_of_getElem? (i := 96) rfl)) rfl
theorem k3_98 : (Jvm.Cond.laysFinal "ChanceArena$Residues" "ChanceArena$Residues" "residues" "[I") ∈ lw_R := zR (zk_3 _ (List.mem_of_getElem? (i := 98) rfl)) rfl
theorem k3_100 : (Jvm.Cond.laysFinal "ChanceArena$Residues" "ChanceArena$Residues" "modulus" "LChanceArena$Natural;") ∈ lw_R := zR (zk_3 _ (List.mem_of_getElem? (i := 100) rfl)) rfl
theorem k3_126 : (Jvm.Cond.laysFinal "ChanceArena$Solver" "ChanceArena$Solver" "scales" "LChanceArena$Scales;") ∈ lw_R := zR (zk_3 _ (List.mem_of_getElem? (i := 126) rfl)) rfl
theorem k3_128 : (Jvm.Cond.laysFinal "ChanceArena$Solver" "ChanceArena$Solver" "ranks" "[I") ∈ lw_R := zR (zk_3 _ (List.mem_of_getElem? (i := 128) rfl)) rfl
theorem k3_130 : (Jvm.Cond.laysFinal "ChanceArena$Solver" "ChanceArena$Solver" "choices" "[I") ∈ lw_R := zR (zk_3 _ (List.mem_of_getElem? (i := 130) rfl)) rfl
theorem k3_132 : (Jvm.Cond.laysFinal "ChanceArena$Solver" "ChanceArena$Solver" "game" "LChanceArena$Game;") ∈ lw_R := zR (zk_3 _ (List.mem_of_getElem? (i := 132) rfl)) rfl
theorem k3_134 : (Jvm.Cond.laysFinal "ChanceArena$Solver" "ChanceArena$Solver" "system" "LChanceArena$Residues;") ∈ lw_R := zR (zk_3 _ (List.mem_of_getElem? (i := 134) rfl)) rfl
theorem k3_136 : (Jvm.Cond.laysFinal "ChanceArena$Solver" "ChanceArena$Solver" "low" "[I") ∈ lw_R := zR (zk_3 _ (List.mem_of_getElem? (i := 136) rfl)) rfl
theorem k3_138 : (Jvm.Cond.laysFinal "ChanceArena$Solver" "ChanceArena$Solver" "high" "[I") ∈ lw_R := zR (zk_3 _ (List.mem_of_getElem? (i := 138) rfl)) rfl
theorem k3_140 : (Jvm.Cond.laysFinal "ChanceArena$Solver" "ChanceArena$Solver" "slot" "[I") ∈ lw_R := zR (zk_3 _ (List.mem_of_getElem? (i := 140) rfl)) rfl
theorem k3_142 : (Jvm.Cond.laysFinal "ChanceArena$Solver" "ChanceArena$Solver" "unknown" "[I") ∈ lw_R := zR (zk_3 _ (List.mem_of_getElem? (i := 142) rfl)) rfl
theorem k3_144 : (Jvm.Cond.laysFinal "ChanceArena$Solver" "ChanceArena$Solver" "chosen" "[I") ∈ lw_R := zR (zk_3 _ (List.mem_of_getElem? (i := 144) rfl)) rfl
theorem k3_146 : (Jvm.Cond.lays "ChanceArena$Solver" "ChanceArena$Solver" "unknowns" "I") ∈ lw_R := zR (zk_3 _ (List.mem_of_getElem? (i := 146) rfl)) rfl
theorem k3_148 : (Jvm.Cond.lays "ChanceArena$Solver" "ChanceArena$Solver" "others" "[I") ∈ lw_R := zR (zk_3 _ (List.mem_of_getElem? (i := 148) rfl)) rfl
theorem k3_150 : (Jvm.Cond.lays "ChanceArena$Solver" "ChanceArena$Solver" "otherCount" "I") ∈ lw_R := zR (zk_3 _ (List.mem_of_getElem? (i := 150) rfl)) rfl
theorem k3_152 : (Jvm.Cond.lays "ChanceArena$Solver" "ChanceArena$Solver" "minOthers" "I") ∈ lw_R := zR (zk_3 _ (List.mem_of_getElem? (i := 152) rfl)) rfl
theorem k3_154 : (Jvm.Cond.lays "ChanceArena$Solver" "ChanceArena$Solver" "drawn" "J") ∈ lw_R := zR (zk_3 _ (List.mem_of_getElem? (i := 154) rfl)) rfl
theorem k3_156 : (Jvm.Cond.laysFinal "ChanceArena$Solver" "ChanceArena$Solver" "attains" "[Z") ∈ lw_R := zR (zk_3 _ (List.mem_of_getElem? (i := 156) rfl)) rfl
theorem k3_158 : (Jvm.Cond.laysFinal "ChanceArena$Solver" "ChanceArena$Solver" "probe" "[I") ∈ lw_R := zR (zk_3 _ (List.mem_of_getElem? (i := 158) rfl)) rfl
theorem k3_160 : (Jvm.Cond.laysFinal "ChanceArena$Solver" "ChanceArena$Solver" "worth" "LChanceArena$Fraction;") ∈ lw_R := zR (zk_3 _ (List.mem_of_getElem? (i := 160) rfl)) rfl
theorem k3_178 : (Jvm.Cond.lays "ChanceArena$Fractions" "ChanceArena$Fractions" "rows" "[LChanceArena$Fraction;") ∈ lw_R := zR (zk_3 _ (List.mem_of_getElem? (i := 178) rfl)) rfl
theorem k3_180 : (Jvm.Cond.lays "ChanceArena$Fractions" "ChanceArena$Fractions" "known" "Z") ∈ lw_R := zR (zk_3 _ (List.mem_of_getElem? (i := 180) rfl)) rfl
theorem k3_206 : (Jvm.Cond.lays "ChanceArena" "ChanceArena" "tape" "[C") ∈ lw_R := zR (zk_3 _ (List.mem_of_getElem? (i := 206) rfl)) rfl
theorem k3_208 : (Jvm.Cond.lays "ChanceArena" "ChanceArena" "tapeLength" "I") ∈ lw_R := zR (zk_3 _ (List.mem_of_getElem? (i := 208) rfl)) rfl
theorem k3_210 : (Jvm.Cond.laysFinal "ChanceArena" "ChanceArena" "words" "LChanceArena$Words;") ∈ lw_R := zR (zk_3 _ (List.mem_of_getElem? (i := 210) rfl)) rfl
theorem k3_212 : (Jvm.Cond.laysFinal "ChanceArena" "ChanceArena" "reader" "LChanceArena$TextReader;") ∈ lw_R := zR (zk_3 _ (List.mem_of_getElem? (i := 212) rfl)) rfl
theorem k3_214 : (Jvm.Cond.lays "ChanceArena" "ChanceArena" "text" "LChanceArena$Program;") ∈ lw_R := zR (zk_3 _ (List.mem_of_getElem? (i := 214) rfl)) rfl
theorem k3_216 : (Jvm.Cond.lays "ChanceArena" "ChanceArena" "spare" "LChanceArena$Program;") ∈ lw_R := zR (zk_3 _ (List.mem_of_getElem? (i := 216) rfl)) rfl
theorem k3_218 : (Jvm.Cond.lays "ChanceArena" "ChanceArena" "hasText" "Z") ∈ lw_R := zR (zk_3 _ (List.mem_of_getElem? (i := 218) rfl)) rfl
theorem k3_220 : (Jvm.Cond.lays "ChanceArena" "ChanceArena" "faultPlace" "I") ∈ lw_R := zR (zk_3 _ (List.mem_of_getElem? (i := 220) rfl)) rfl
theorem k3_222 : (Jvm.Cond.lays "ChanceArena" "ChanceArena" "faultState" "I") ∈ lw_R := zR (zk_3 _ (List.mem_of_getElem? (i := 222) rfl)) rfl
theorem k3_224 : (Jvm.Cond.laysFinal "ChanceArena" "ChanceArena" "game" "LChanceArena$Game;") ∈ lw_R := zR (zk_3 _ (List.mem_of_getElem? (i := 224) rfl)) rfl
theorem k3_226 : (Jvm.Cond.laysFinal "ChanceArena" "ChanceArena" "solver" "LChanceArena$Solver;") ∈ lw_R := zR (zk_3 _ (List.mem_of_getElem? (i := 226) rfl)) rfl
theorem k3_228 : (Jvm.Cond.laysFinal "ChanceArena" "ChanceArena" "values" "LChanceArena$Fractions;") ∈ lw_R := zR (zk_3 _ (List.mem_of_getElem? (i := 228) rfl)) rfl
theorem k3_230 : (Jvm.Cond.lays "ChanceArena" "ChanceArena" "withins" "LChanceArena$Fractions;") ∈ lw_R := zR (zk_3 _ (List.mem_of_getElem? (i := 230) rfl)) rfl
theorem k3_232 : (Jvm.Cond.lays "ChanceArena" "ChanceArena" "earlier" "LChanceArena$Fractions;") ∈ lw_R := zR (zk_3 _ (List.mem_of_getElem? (i := 232) rfl)) rfl
theorem k3_234 : (Jvm.Cond.laysFinal "ChanceArena" "ChanceArena" "judged" "LChanceArena$Fractions;") ∈ lw_R := zR (zk_3 _ (List.mem_of_getElem? (i := 234) rfl)) rfl
theorem k3_236 : (Jvm.Cond.laysFinal "ChanceArena" "ChanceArena" "number" "LChanceArena$Natural;") ∈ lw_R := zR (zk_3 _ (List.mem_of_getElem? (i := 236) rfl)) rfl
theorem k3_238 : (Jvm.Cond.laysFinal "ChanceArena" "ChanceArena" "shown" "LChanceArena$Fraction;") ∈ lw_R := zR (zk_3 _ (List.mem_of_getElem? (i := 238) rfl)) rfl
theorem k4_0 : (Jvm.Cond.laysFinal "ChanceArena" "ChanceArena" "printed" "[C") ∈ lw_R := zR (zk_4 _ (List.mem_of_getElem? (i := 0) rfl)) rfl
theorem k4_2 : (Jvm.Cond.lays "ChanceArena" "ChanceArena" "printedLength" "I") ∈ lw_R := zR (zk_4 _ (List.mem_of_getElem? (i := 2) rfl)) rfl
theorem k9_11 : (Jvm.Cond.lays "ChanceArenaModel$Numbers" "ChanceArenaModel$Numbers" "all" "[I") ∈ lw_R := zR (zk_9 _ (List.mem_of_getElem? (i := 11) rfl)) rfl
theorem k9_13 : (Jvm.Cond.lays "ChanceArenaModel$Numbers" "ChanceArenaModel$Numbers" "size" "I") ∈ lw_R := zR (zk_9 _ (List.mem_of_getElem? (i := 13) rfl)) rfl
theorem k9_84 : (Jvm.Cond.laysFinal "ChanceArenaModel$Game" "ChanceArenaModel$Game" "sort" "LChanceArenaModel$Numbers;") ∈ lw_R := zR (zk_9 _ (List.mem_of_getElem? (i := 84) rfl)) rfl
theorem k9_86 : (Jvm.Cond.laysFinal "ChanceArenaModel$Game" "ChanceArenaModel$Game" "place" "LChanceArenaModel$Numbers;") ∈ lw_R := zR (zk_9 _ (List.mem_of_getElem? (i := 86) rfl)) rfl
theorem k9_88 : (Jvm.Cond.laysFinal "ChanceArenaModel$Game" "ChanceArenaModel$Game" "from" "LChanceArenaModel$Numbers;") ∈ lw_R := zR (zk_9 _ (List.mem_of_getElem? (i := 88) rfl)) rfl
theorem k9_90 : (Jvm.Cond.laysFinal "ChanceArenaModel$Game" "ChanceArenaModel$Game" "value" "LChanceArenaModel$Numbers;") ∈ lw_R := zR (zk_9 _ (List.mem_of_getElem? (i := 90) rfl)) rfl
theorem k9_92 : (Jvm.Cond.laysFinal "ChanceArenaModel$Game" "ChanceArenaModel$Game" "firstPart" "LChanceArenaModel$Numbers;") ∈ lw_R := zR (zk_9 _ (List.mem_of_getElem? (i := 92) rfl)) rfl
theorem k9_94 : (Jvm.Cond.laysFinal "ChanceArenaModel$Game" "ChanceArenaModel$Game" "nextPart" "LChanceArenaModel$Numbers;") ∈ lw_R := zR (zk_9 _ (List.mem_of_getElem? (i := 94) rfl)) rfl
theorem k9_96 : (Jvm.Cond.lays "ChanceArenaModel$Game" "ChanceArenaModel$Game" "rules" "I") ∈ lw_R := zR (zk_9 _ (List.mem_of_getElem? (i := 96) rfl)) rfl
theorem k9_98 : (Jvm.Cond.laysFinal "ChanceArenaModel$Game" "ChanceArenaModel$Game" "isFormula" "[Z") ∈ lw_R := zR (zk_9 _ (List.mem_of_getElem? (i := 98) rfl)) rfl
theorem k9_100 : (Jvm.Cond.laysFinal "ChanceArenaModel$Game" "ChanceArenaModel$Game" "isTruth" "[Z") ∈ lw_R := zR (zk_9 _ (List.mem_of_getElem? (i := 100) rfl)) rfl
theorem k9_102 : (Jvm.Cond.laysFinal "ChanceArenaModel$Game" "ChanceArenaModel$Game" "rootOf" "[I") ∈ lw_R := zR (zk_9 _ (List.mem_of_getElem? (i := 102) rfl)) rfl
theorem k9_104 : (Jvm.Cond.laysFinal "ChanceArenaModel$Game" "ChanceArenaModel$Game" "above" "[J") ∈ lw_R := zR (zk_9 _ (List.mem_of_getElem? (i := 104) rfl)) rfl
theorem k9_106 : (Jvm.Cond.laysFinal "ChanceArenaModel$Game" "ChanceArenaModel$Game" "below" "[J") ∈ lw_R := zR (zk_9 _ (List.mem_of_getElem? (i := 106) rfl)) rfl
theorem k9_108 : (Jvm.Cond.lays "ChanceArenaModel$Game" "ChanceArenaModel$Game" "vars" "I") ∈ lw_R := zR (zk_9 _ (List.mem_of_getElem? (i := 108) rfl)) rfl
theorem k9_110 : (Jvm.Cond.laysFinal "ChanceArenaModel$Game" "ChanceArenaModel$Game" "isBool" "[Z") ∈ lw_R := zR (zk_9 _ (List.mem_of_getElem? (i := 110) rfl)) rfl
theorem k9_112 : (Jvm.Cond.laysFinal "ChanceArenaModel$Game" "ChanceArenaModel$Game" "least" "[I") ∈ lw_R := zR (zk_9 _ (List.mem_of_getElem? (i := 112) rfl)) rfl
theorem k9_114 : (Jvm.Cond.laysFinal "ChanceArenaModel$Game" "ChanceArenaModel$Game" "greatest" "[I") ∈ lw_R := zR (zk_9 _ (List.mem_of_getElem? (i := 114) rfl)) rfl
theorem k9_116 : (Jvm.Cond.laysFinal "ChanceArenaModel$Game" "ChanceArenaModel$Game" "begin" "[I") ∈ lw_R := zR (zk_9 _ (List.mem_of_getElem? (i := 116) rfl)) rfl
theorem k9_118 : (Jvm.Cond.lays "ChanceArenaModel$Game" "ChanceArenaModel$Game" "target" "I") ∈ lw_R := zR (zk_9 _ (List.mem_of_getElem? (i := 118) rfl)) rfl
theorem k9_120 : (Jvm.Cond.lays "ChanceArenaModel$Game" "ChanceArenaModel$Game" "commands" "I") ∈ lw_R := zR (zk_9 _ (List.mem_of_getElem? (i := 120) rfl)) rfl
theorem k9_122 : (Jvm.Cond.laysFinal "ChanceArenaModel$Game" "ChanceArenaModel$Game" "isMin" "[Z") ∈ lw_R := zR (zk_9 _ (List.mem_of_getElem? (i := 122) rfl)) rfl
theorem k9_124 : (Jvm.Cond.laysFinal "ChanceArenaModel$Game" "ChanceArenaModel$Game" "commandPlace" "[I") ∈ lw_R := zR (zk_9 _ (List.mem_of_getElem? (i := 124) rfl)) rfl
theorem k9_126 : (Jvm.Cond.laysFinal "ChanceArenaModel$Game" "ChanceArenaModel$Game" "guard" "[I") ∈ lw_R := zR (zk_9 _ (List.mem_of_getElem? (i := 126) rfl)) rfl
theorem k9_128 : (Jvm.Cond.laysFinal "ChanceArenaModel$Game" "ChanceArenaModel$Game" "branches" "[I") ∈ lw_R := zR (zk_9 _ (List.mem_of_getElem? (i := 128) rfl)) rfl
theorem k9_130 : (Jvm.Cond.laysFinal "ChanceArenaModel$Game" "ChanceArenaModel$Game" "chance" "[I") ∈ lw_R := zR (zk_9 _ (List.mem_of_getElem? (i := 130) rfl)) rfl
theorem k9_132 : (Jvm.Cond.laysFinal "ChanceArenaModel$Game" "ChanceArenaModel$Game" "branchPlace" "[I") ∈ lw_R := zR (zk_9 _ (List.mem_of_getElem? (i := 132) rfl)) rfl
theorem k9_134 : (Jvm.Cond.laysFinal "ChanceArenaModel$Game" "ChanceArenaModel$Game" "firstSet" "[I") ∈ lw_R := zR (zk_9 _ (List.mem_of_getElem? (i := 134) rfl)) rfl
theorem k9_136 : (Jvm.Cond.laysFinal "ChanceArenaModel$Game" "ChanceArenaModel$Game" "manySets" "[I") ∈ lw_R := zR (zk_9 _ (List.mem_of_getElem? (i := 136) rfl)) rfl
theorem k9_138 : (Jvm.Cond.laysFinal "ChanceArenaModel$Game" "ChanceArenaModel$Game" "setVar" "LChanceArenaModel$Numbers;") ∈ lw_R := zR (zk_9 _ (List.mem_of_getElem? (i := 138) rfl)) rfl
theorem k9_140 : (Jvm.Cond.laysFinal "ChanceArenaModel$Game" "ChanceArenaModel$Game" "setPlace" "LChanceArenaModel$Numbers;") ∈ lw_R := zR (zk_9 _ (List.mem_of_getElem? (i := 140) rfl)) rfl
theorem k9_142 : (Jvm.Cond.laysFinal "ChanceArenaModel$Game" "ChanceArenaModel$Game" "setRule" "LChanceArenaModel$Numbers;") ∈ lw_R := zR (zk_9 _ (List.mem_of_getElem? (i := 142) rfl)) rfl
theorem k9_171 : (Jvm.Cond.laysFinal "ChanceArenaModel$Whole" "ChanceArenaModel$Whole" "parts" "[I") ∈ lw_R := zR (zk_9 _ (List.mem_of_getElem? (i := 171) rfl)) rfl
theorem k9_173 : (Jvm.Cond.lays "ChanceArenaModel$Whole" "ChanceArenaModel$Whole" "n" "I") ∈ lw_R := zR (zk_9 _ (List.mem_of_getElem? (i := 173) rfl)) rfl
theorem k9_189 : (Jvm.Cond.laysFinal "ChanceArenaModel$Fraction" "ChanceArenaModel$Fraction" "top" "LChanceArenaModel$Whole;") ∈ lw_R := zR (zk_9 _ (List.mem_of_getElem? (i := 189) rfl)) rfl
theorem k9_191 : (Jvm.Cond.laysFinal "ChanceArenaModel$Fraction" "ChanceArenaModel$Fraction" "bottom" "LChanceArenaModel$Whole;") ∈ lw_R := zR (zk_9 _ (List.mem_of_getElem? (i := 191) rfl)) rfl
theorem k9_193 : (Jvm.Cond.lays "ChanceArenaModel$Fraction" "ChanceArenaModel$Fraction" "below" "Z") ∈ lw_R := zR (zk_9 _ (List.mem_of_getElem? (i := 193) rfl)) rfl
theorem k9_206 : (Jvm.Cond.laysFinal "ChanceArenaModel$Sums" "ChanceArenaModel$Sums" "made" "LChanceArenaModel$Fraction;") ∈ lw_R := zR (zk_9 _ (List.mem_of_getElem? (i := 206) rfl)) rfl
theorem k9_208 : (Jvm.Cond.laysFinal "ChanceArenaModel$Sums" "ChanceArenaModel$Sums" "sum" "LChanceArenaModel$Fraction;") ∈ lw_R := zR (zk_9 _ (List.mem_of_getElem? (i := 208) rfl)) rfl
theorem k9_210 : (Jvm.Cond.laysFinal "ChanceArenaModel$Sums" "ChanceArenaModel$Sums" "x" "LChanceArenaModel$Whole;") ∈ lw_R := zR (zk_9 _ (List.mem_of_getElem? (i := 210) rfl)) rfl
theorem k9_212 : (Jvm.Cond.laysFinal "ChanceArenaModel$Sums" "ChanceArenaModel$Sums" "y" "LChanceArenaModel$Whole;") ∈ lw_R := zR (zk_9 _ (List.mem_of_getElem? (i := 212) rfl)) rfl
theorem k9_214 : (Jvm.Cond.laysFinal "ChanceArenaModel$Sums" "ChanceArenaModel$Sums" "z" "LChanceArenaModel$Whole;") ∈ lw_R := zR (zk_9 _ (List.mem_of_getElem? (i := 214) rfl)) rfl
theorem k9_216 : (Jvm.Cond.laysFinal "ChanceArenaModel$Sums" "ChanceArenaModel$Sums" "quotient" "LChanceArenaModel$Whole;") ∈ lw_R := zR (zk_9 _ (List.mem_of_getElem? (i := 216) rfl)) rfl
theorem k9_218 : (Jvm.Cond.laysFinal "ChanceArenaModel$Sums" "ChanceArenaModel$Sums" "rest" "LChanceArenaModel$Whole;") ∈ lw_R := zR (zk_9 _ (List.mem_of_getElem? (i := 218) rfl)) rfl
theorem k10_16 : (Jvm.Cond.laysFinal "ChanceArenaModel$Solver" "ChanceArenaModel$Solver" "sums" "LChanceArenaModel$Sums;") ∈ lw_R := zR (zk_10 _ (List.mem_of_getElem? (i := 16) rfl)) rfl
theorem k10_18 : (Jvm.Cond.lays "ChanceArenaModel$Solver" "ChanceArenaModel$Solver" "states" "I") ∈ lw_R := zR (zk_10 _ (List.mem_of_getElem? (i := 18) rfl)) rfl
theorem k10_20 : (Jvm.Cond.lays "ChanceArenaModel$Solver" "ChanceArenaModel$Solver" "commands" "I") ∈ lw_R := zR (zk_10 _ (List.mem_of_getElem? (i := 20) rfl)) rfl
theorem k10_22 : (Jvm.Cond.lays "ChanceArenaModel$Solver" "ChanceArenaModel$Solver" "branches" "I") ∈ lw_R := zR (zk_10 _ (List.mem_of_getElem? (i := 22) rfl)) rfl
theorem k10_24 : (Jvm.Cond.laysFinal "ChanceArenaModel$Solver" "ChanceArenaModel$Solver" "kinds" "[I") ∈ lw_R := zR (zk_10 _ (List.mem_of_getElem? (i := 24) rfl)) rfl
theorem k10_26 : (Jvm.Cond.laysFinal "ChanceArenaModel$Solver" "ChanceArenaModel$Solver" "firstCommands" "[I") ∈ lw_R := zR (zk_10 _ (List.mem_of_getElem? (i := 26) rfl)) rfl
theorem k10_28 : (Jvm.Cond.laysFinal "ChanceArenaModel$Solver" "ChanceArenaModel$Solver" "multiples" "[I") ∈ lw_R := zR (zk_10 _ (List.mem_of_getElem? (i := 28) rfl)) rfl
theorem k10_30 : (Jvm.Cond.laysFinal "ChanceArenaModel$Solver" "ChanceArenaModel$Solver" "firstBranches" "[I") ∈ lw_R := zR (zk_10 _ (List.mem_of_getElem? (i := 30) rfl)) rfl
theorem k10_32 : (Jvm.Cond.laysFinal "ChanceArenaModel$Solver" "ChanceArenaModel$Solver" "targets" "[I") ∈ lw_R := zR (zk_10 _ (List.mem_of_getElem? (i := 32) rfl)) rfl
theorem k10_34 : (Jvm.Cond.laysFinal "ChanceArenaModel$Solver" "ChanceArenaModel$Solver" "ups" "[I") ∈ lw_R := zR (zk_10 _ (List.mem_of_getElem? (i := 34) rfl)) rfl
theorem k10_36 : (Jvm.Cond.laysFinal "ChanceArenaModel$Solver" "ChanceArenaModel$Solver" "downs" "[I") ∈ lw_R := zR (zk_10 _ (List.mem_of_getElem? (i := 36) rfl)) rfl
theorem k10_38 : (Jvm.Cond.laysFinal "ChanceArenaModel$Solver" "ChanceArenaModel$Solver" "fractions" "[LChanceArenaModel$Fraction;") ∈ lw_R := zR (zk_10 _ (List.mem_of_getElem? (i := 38) rfl)) rfl
theorem k10_40 : (Jvm.Cond.laysFinal "ChanceArenaModel$Solver" "ChanceArenaModel$Solver" "has" "[Z") ∈ lw_R := zR (zk_10 _ (List.mem_of_getElem? (i := 40) rfl)) rfl
theorem k10_42 : (Jvm.Cond.laysFinal "ChanceArenaModel$Solver" "ChanceArenaModel$Solver" "next" "[LChanceArenaModel$Fraction;") ∈ lw_R := zR (zk_10 _ (List.mem_of_getElem? (i := 42) rfl)) rfl
theorem k10_44 : (Jvm.Cond.laysFinal "ChanceArenaModel$Solver" "ChanceArenaModel$Solver" "told" "[I") ∈ lw_R := zR (zk_10 _ (List.mem_of_getElem? (i := 44) rfl)) rfl
theorem k10_46 : (Jvm.Cond.laysFinal "ChanceArenaModel$Solver" "ChanceArenaModel$Solver" "choices" "[I") ∈ lw_R := zR (zk_10 _ (List.mem_of_getElem? (i := 46) rfl)) rfl
theorem k10_48 : (Jvm.Cond.laysFinal "ChanceArenaModel$Solver" "ChanceArenaModel$Solver" "ranks" "[I") ∈ lw_R := zR (zk_10 _ (List.mem_of_getElem? (i := 48) rfl)) rfl
theorem k10_50 : (Jvm.Cond.lays "ChanceArenaModel$Solver" "ChanceArenaModel$Solver" "kept" "I") ∈ lw_R := zR (zk_10 _ (List.mem_of_getElem? (i := 50) rfl)) rfl
theorem k10_52 : (Jvm.Cond.laysFinal "ChanceArenaModel$Solver" "ChanceArenaModel$Solver" "plays" "[I") ∈ lw_R := zR (zk_10 _ (List.mem_of_getElem? (i := 52) rfl)) rfl
theorem k10_54 : (Jvm.Cond.laysFinal "ChanceArenaModel$Solver" "ChanceArenaModel$Solver" "inside" "[Z") ∈ lw_R := zR (zk_10 _ (List.mem_of_getElem? (i := 54) rfl)) rfl
theorem k10_56 : (Jvm.Cond.laysFinal "ChanceArenaModel$Solver" "ChanceArenaModel$Solver" "fixed" "[Z") ∈ lw_R := zR (zk_10 _ (List.mem_of_getElem? (i := 56) rfl)) rfl
theorem k10_58 : (Jvm.Cond.laysFinal "ChanceArenaModel$Solver" "ChanceArenaModel$Solver" "values" "[LChanceArenaModel$Fraction;") ∈ lw_R := zR (zk_10 _ (List.mem_of_getElem? (i := 58) rfl)) rfl
theorem k10_60 : (Jvm.Cond.laysFinal "ChanceArenaModel$Solver" "ChanceArenaModel$Solver" "unknown" "[I") ∈ lw_R := zR (zk_10 _ (List.mem_of_getElem? (i := 60) rfl)) rfl
theorem k10_62 : (Jvm.Cond.laysFinal "ChanceArenaModel$Solver" "ChanceArenaModel$Solver" "rowOf" "[I") ∈ lw_R := zR (zk_10 _ (List.mem_of_getElem? (i := 62) rfl)) rfl
theorem k10_64 : (Jvm.Cond.lays "ChanceArenaModel$Solver" "ChanceArenaModel$Solver" "count" "I") ∈ lw_R := zR (zk_10 _ (List.mem_of_getElem? (i := 64) rfl)) rfl
theorem k10_66 : (Jvm.Cond.laysFinal "ChanceArenaModel$Solver" "ChanceArenaModel$Solver" "cells" "[LChanceArenaModel$Fraction;") ∈ lw_R := zR (zk_10 _ (List.mem_of_getElem? (i := 66) rfl)) rfl
theorem k10_68 : (Jvm.Cond.laysFinal "ChanceArenaModel$Solver" "ChanceArenaModel$Solver" "chance" "LChanceArenaModel$Fraction;") ∈ lw_R := zR (zk_10 _ (List.mem_of_getElem? (i := 68) rfl)) rfl
theorem k10_70 : (Jvm.Cond.laysFinal "ChanceArenaModel$Solver" "ChanceArenaModel$Solver" "factor" "LChanceArenaModel$Fraction;") ∈ lw_R := zR (zk_10 _ (List.mem_of_getElem? (i := 70) rfl)) rfl
theorem k10_72 : (Jvm.Cond.laysFinal "ChanceArenaModel$Solver" "ChanceArenaModel$Solver" "worth" "LChanceArenaModel$Fraction;") ∈ lw_R := zR (zk_10 _ (List.mem_of_getElem? (i := 72) rfl)) rfl
theorem k10_74 : (Jvm.Cond.laysFinal "ChanceArenaModel$Solver" "ChanceArenaModel$Solver" "other" "LChanceArenaModel$Fraction;") ∈ lw_R := zR (zk_10 _ (List.mem_of_getElem? (i := 74) rfl)) rfl
theorem k10_76 : (Jvm.Cond.laysFinal "ChanceArenaModel$Solver" "ChanceArenaModel$Solver" "best" "LChanceArenaModel$Fraction;") ∈ lw_R := zR (zk_10 _ (List.mem_of_getElem? (i := 76) rfl)) rfl
theorem k10_78 : (Jvm.Cond.laysFinal "ChanceArenaModel$Solver" "ChanceArenaModel$Solver" "digits" "[I") ∈ lw_R := zR (zk_10 _ (List.mem_of_getElem? (i := 78) rfl)) rfl
theorem k10_130 : (Jvm.Cond.lays "ChanceArenaModel" "ChanceArenaModel" "thrown" "I") ∈ lw_R := zR (zk_10 _ (List.mem_of_getElem? (i := 130) rfl)) rfl
theorem k10_132 : (Jvm.Cond.lays "ChanceArenaModel" "ChanceArenaModel" "tape" "LChanceArenaModel$Numbers;") ∈ lw_R := zR (zk_10 _ (List.mem_of_getElem? (i := 132) rfl)) rfl
theorem k10_134 : (Jvm.Cond.lays "ChanceArenaModel" "ChanceArenaModel" "text" "LChanceArenaModel$Numbers;") ∈ lw_R := zR (zk_10 _ (List.mem_of_getElem? (i := 134) rfl)) rfl
theorem k10_136 : (Jvm.Cond.laysFinal "ChanceArenaModel" "ChanceArenaModel" "kinds" "LChanceArenaModel$Numbers;") ∈ lw_R := zR (zk_10 _ (List.mem_of_getElem? (i := 136) rfl)) rfl
theorem k10_138 : (Jvm.Cond.laysFinal "ChanceArenaModel" "ChanceArenaModel" "places" "LChanceArenaModel$Numbers;") ∈ lw_R := zR (zk_10 _ (List.mem_of_getElem? (i := 138) rfl)) rfl
theorem k10_140 : (Jvm.Cond.laysFinal "ChanceArenaModel" "ChanceArenaModel" "ends" "LChanceArenaModel$Numbers;") ∈ lw_R := zR (zk_10 _ (List.mem_of_getElem? (i := 140) rfl)) rfl
theorem k10_142 : (Jvm.Cond.laysFinal "ChanceArenaModel" "ChanceArenaModel" "wanted" "LChanceArenaModel$Numbers;") ∈ lw_R := zR (zk_10 _ (List.mem_of_getElem? (i := 142) rfl)) rfl
theorem k10_144 : (Jvm.Cond.lays "ChanceArenaModel" "ChanceArenaModel" "levels" "I") ∈ lw_R := zR (zk_10 _ (List.mem_of_getElem? (i := 144) rfl)) rfl
theorem k10_146 : (Jvm.Cond.lays "ChanceArenaModel" "ChanceArenaModel" "bad" "I") ∈ lw_R := zR (zk_10 _ (List.mem_of_getElem? (i := 146) rfl)) rfl
theorem k10_148 : (Jvm.Cond.lays "ChanceArenaModel" "ChanceArenaModel" "game" "LChanceArenaModel$Game;") ∈ lw_R := zR (zk_10 _ (List.mem_of_getElem? (i := 148) rfl)) rfl
theorem k10_150 : (Jvm.Cond.lays "ChanceArenaModel" "ChanceArenaModel" "draft" "LChanceArenaModel$Game;") ∈ lw_R := zR (zk_10 _ (List.mem_of_getElem? (i := 150) rfl)) rfl
theorem k10_152 : (Jvm.Cond.lays "ChanceArenaModel" "ChanceArenaModel" "known" "Z") ∈ lw_R := zR (zk_10 _ (List.mem_of_getElem? (i := 152) rfl)) rfl
theorem k10_154 : (Jvm.Cond.lays "ChanceArenaModel" "ChanceArenaModel" "wrong" "I") ∈ lw_R := zR (zk_10 _ (List.mem_of_getElem? (i := 154) rfl)) rfl
theorem k10_156 : (Jvm.Cond.laysFinal "ChanceArenaModel" "ChanceArenaModel" "nameWord" "LChanceArenaModel$Numbers;") ∈ lw_R := zR (zk_10 _ (List.mem_of_getElem? (i := 156) rfl)) rfl
theorem k10_158 : (Jvm.Cond.laysFinal "ChanceArenaModel" "ChanceArenaModel" "nameSort" "LChanceArenaModel$Numbers;") ∈ lw_R := zR (zk_10 _ (List.mem_of_getElem? (i := 158) rfl)) rfl
theorem k10_160 : (Jvm.Cond.laysFinal "ChanceArenaModel" "ChanceArenaModel" "nameIndex" "LChanceArenaModel$Numbers;") ∈ lw_R := zR (zk_10 _ (List.mem_of_getElem? (i := 160) rfl)) rfl
theorem k10_162 : (Jvm.Cond.lays "ChanceArenaModel" "ChanceArenaModel" "fault" "I") ∈ lw_R := zR (zk_10 _ (List.mem_of_getElem? (i := 162) rfl)) rfl
theorem k10_164 : (Jvm.Cond.lays "ChanceArenaModel" "ChanceArenaModel" "faultPlace" "I") ∈ lw_R := zR (zk_10 _ (List.mem_of_getElem? (i := 164) rfl)) rfl
theorem k10_166 : (Jvm.Cond.laysFinal "ChanceArenaModel" "ChanceArenaModel" "jobs" "LChanceArenaModel$Numbers;") ∈ lw_R := zR (zk_10 _ (List.mem_of_getElem? (i := 166) rfl)) rfl
theorem k10_168 : (Jvm.Cond.laysFinal "ChanceArenaModel" "ChanceArenaModel" "truths" "LChanceArenaModel$Numbers;") ∈ lw_R := zR (zk_10 _ (List.mem_of_getElem? (i := 168) rfl)) rfl
theorem k10_170 : (Jvm.Cond.laysFinal "ChanceArenaModel" "ChanceArenaModel" "looks" "LChanceArenaModel$Numbers;") ∈ lw_R := zR (zk_10 _ (List.mem_of_getElem? (i := 170) rfl)) rfl
theorem k10_172 : (Jvm.Cond.laysFinal "ChanceArenaModel" "ChanceArenaModel" "above" "[J") ∈ lw_R := zR (zk_10 _ (List.mem_of_getElem? (i := 172) rfl)) rfl
theorem k10_174 : (Jvm.Cond.laysFinal "ChanceArenaModel" "ChanceArenaModel" "below" "[J") ∈ lw_R := zR (zk_10 _ (List.mem_of_getElem? (i := 174) rfl)) rfl
theorem k10_176 : (Jvm.Cond.lays "ChanceArenaModel" "ChanceArenaModel" "values" "I") ∈ lw_R := zR (zk_10 _ (List.mem_of_getElem? (i := 176) rfl)) rfl
theorem k10_178 : (Jvm.Cond.laysFinal "ChanceArenaModel" "ChanceArenaModel" "todo" "LChanceArenaModel$Numbers;") ∈ lw_R := zR (zk_10 _ (List.mem_of_getElem? (i := 178) rfl)) rfl
theorem k10_180 : (Jvm.Cond.laysFinal "ChanceArenaModel" "ChanceArenaModel" "now" "[I") ∈ lw_R := zR (zk_10 _ (List.mem_of_getElem? (i := 180) rfl)) rfl
theorem k10_182 : (Jvm.Cond.laysFinal "ChanceArenaModel" "ChanceArenaModel" "met" "[Z") ∈ lw_R := zR (zk_10 _ (List.mem_of_getElem? (i := 182) rfl)) rfl
theorem k10_184 : (Jvm.Cond.laysFinal "ChanceArenaModel" "ChanceArenaModel" "metAbove" "[J") ∈ lw_R := zR (zk_10 _ (List.mem_of_getElem? (i := 184) rfl)) rfl
theorem k10_186 : (Jvm.Cond.laysFinal "ChanceArenaModel" "ChanceArenaModel" "metBelow" "[J") ∈ lw_R := zR (zk_10 _ (List.mem_of_getElem? (i := 186) rfl)) rfl
theorem k10_188 : (Jvm.Cond.lays "ChanceArenaModel" "ChanceArenaModel" "many" "I") ∈ lw_R := zR (zk_10 _ (List.mem_of_getElem? (i := 188) rfl)) rfl
theorem k10_190 : (Jvm.Cond.lays "ChanceArenaModel" "ChanceArenaModel" "faultState" "I") ∈ lw_R := zR (zk_10 _ (List.mem_of_getElem? (i := 190) rfl)) rfl
theorem k10_192 : (Jvm.Cond.laysFinal "ChanceArenaModel" "ChanceArenaModel" "vars" "[I") ∈ lw_R := zR (zk_10 _ (List.mem_of_getElem? (i := 192) rfl)) rfl
theorem k10_194 : (Jvm.Cond.laysFinal "ChanceArenaModel" "ChanceArenaModel" "kindOf" "[I") ∈ lw_R := zR (zk_10 _ (List.mem_of_getElem? (i := 194) rfl)) rfl
theorem k10_196 : (Jvm.Cond.laysFinal "ChanceArenaModel" "ChanceArenaModel" "firstCommand" "[I") ∈ lw_R := zR (zk_10 _ (List.mem_of_getElem? (i := 196) rfl)) rfl
theorem k10_198 : (Jvm.Cond.laysFinal "ChanceArenaModel" "ChanceArenaModel" "manyCommands" "[I") ∈ lw_R := zR (zk_10 _ (List.mem_of_getElem? (i := 198) rfl)) rfl
theorem k10_200 : (Jvm.Cond.laysFinal "ChanceArenaModel" "ChanceArenaModel" "commandOf" "LChanceArenaModel$Numbers;") ∈ lw_R := zR (zk_10 _ (List.mem_of_getElem? (i := 200) rfl)) rfl
theorem k10_202 : (Jvm.Cond.laysFinal "ChanceArenaModel" "ChanceArenaModel" "firstBranch" "LChanceArenaModel$Numbers;") ∈ lw_R := zR (zk_10 _ (List.mem_of_getElem? (i := 202) rfl)) rfl
theorem k10_204 : (Jvm.Cond.laysFinal "ChanceArenaModel" "ChanceArenaModel" "manyBranches" "LChanceArenaModel$Numbers;") ∈ lw_R := zR (zk_10 _ (List.mem_of_getElem? (i := 204) rfl)) rfl
theorem k10_206 : (Jvm.Cond.laysFinal "ChanceArenaModel" "ChanceArenaModel" "multipleOf" "LChanceArenaModel$Numbers;") ∈ lw_R := zR (zk_10 _ (List.mem_of_getElem? (i := 206) rfl)) rfl
theorem k10_208 : (Jvm.Cond.laysFinal "ChanceArenaModel" "ChanceArenaModel" "solver" "LChanceArenaModel$Solver;") ∈ lw_R := zR (zk_10 _ (List.mem_of_getElem? (i := 208) rfl)) rfl
theorem k10_210 : (Jvm.Cond.lays "ChanceArenaModel" "ChanceArenaModel" "ways" "I") ∈ lw_R := zR (zk_10 _ (List.mem_of_getElem? (i := 210) rfl)) rfl
theorem k10_212 : (Jvm.Cond.laysFinal "ChanceArenaModel" "ChanceArenaModel" "wayTo" "[I") ∈ lw_R := zR (zk_10 _ (List.mem_of_getElem? (i := 212) rfl)) rfl
theorem k10_214 : (Jvm.Cond.laysFinal "ChanceArenaModel" "ChanceArenaModel" "wayAbove" "[J") ∈ lw_R := zR (zk_10 _ (List.mem_of_getElem? (i := 214) rfl)) rfl
theorem k10_216 : (Jvm.Cond.laysFinal "ChanceArenaModel" "ChanceArenaModel" "wayBelow" "[J") ∈ lw_R := zR (zk_10 _ (List.mem_of_getElem? (i := 216) rfl)) rfl
theorem k10_218 : (Jvm.Cond.laysFinal "ChanceArenaModel" "ChanceArenaModel" "next" "[I") ∈ lw_R := zR (zk_10 _ (List.mem_of_getElem? (i := 218) rfl)) rfl
theorem k10_220 : (Jvm.Cond.laysFinal "ChanceArenaModel" "ChanceArenaModel" "chanceAbove" "[J") ∈ lw_R := zR (zk_10 _ (List.mem_of_getElem? (i := 220) rfl)) rfl
theorem k10_222 : (Jvm.Cond.laysFinal "ChanceArenaModel" "ChanceArenaModel" "chanceBelow" "[J") ∈ lw_R := zR (zk_10 _ (List.mem_of_getElem? (i := 222) rfl)) rfl
theorem k10_224 : (Jvm.Cond.laysFinal "ChanceArenaModel" "ChanceArenaModel" "printed" "[I") ∈ lw_R := zR (zk_10 _ (List.mem_of_getElem? (i := 224) rfl)) rfl
theorem k10_226 : (Jvm.Cond.lays "ChanceArenaModel" "ChanceArenaModel" "printedSize" "I") ∈ lw_R := zR (zk_10 _ (List.mem_of_getElem? (i := 226) rfl)) rfl
def zNm (s : String) : Nat := s.toByteArray.data.toList.foldl (fun x c => x * 256 + c.toNat) 0
def zAt (x : Nat) : List Nat → Nat
  | [] => 0
  | y :: l => if x = y then 0 else zAt x l + 1
theorem zNi {T : u_T} {n : Nat} (L : List Nat) (h : ∀ a, a < n → zAt (zNm (T a).2.1) L = a) : ∀ a, a < n → ∀ b, b < n → a ≠ b → (T a).2.1 ≠ (T b).2.1 := fun a ha b hb ne e => ne ((h a ha).symm.trans ((congrArg (fun s => zAt (zNm s) L) e).trans (h b hb)))
def R_CA : String := "ChanceArena"
def T_CA : u_T := fun k => match k with
  | 0 => ("ChanceArena", "tape", "[C", false)
  | 1 => ("ChanceArena", "tapeLength", "I", false)
  | 2 => ("ChanceArena", "words", "LChanceArena$Words;", true)
  | 3 => ("ChanceArena", "reader", "LChanceArena$TextReader;", true)
  | 4 => ("ChanceArena", "text", "LChanceArena$Program;", false)
  | 5 => ("ChanceArena", "spare", "LChanceArena$Program;", false)
  | 6 => ("ChanceArena", "hasText", "Z", false)
  | 7 => ("ChanceArena", "faultPlace", "I", false)
  | 8 => ("ChanceArena", "faultState", "I", false)
  | 9 => ("ChanceArena", "game", "LChanceArena$Game;", true)
  | 10 => ("ChanceArena", "solver", "LChanceArena$Solver;", true)
  | 11 => ("ChanceArena", "values", "LChanceArena$Fractions;", true)
  | 12 => ("ChanceArena", "withins", "LChanceArena$Fractions;", false)
  | 13 => ("ChanceArena", "earlier", "LChanceArena$Fractions;", false)
  | 14 => ("ChanceArena", "judged", "LChanceArena$Fractions;", true)
  | 15 => ("ChanceArena", "number", "LChanceArena$Natural;", true)
  | 16 => ("ChanceArena", "shown", "LChanceArena$Fraction;", true)
  | 17 => ("ChanceArena", "printed", "[C", true)
  | _ => ("ChanceArena", "printedLength", "I", false)
def t_CA : Nat → FieldType := fun k => match k with
  | 0 => .array .char
  | 1 => .int
  | 2 => .object "ChanceArena$Words"
  | 3 => .object "ChanceArena$TextReader"
  | 4 => .object "ChanceArena$Program"
  | 5 => .object "ChanceArena$Program"
  | 6 => .boolean
  | 7 => .int
  | 8 => .int
  | 9 => .object "ChanceArena$Game"
  | 10 => .object "ChanceArena$Solver"
  | 11 => .object "ChanceArena$Fractions"
  | 12 => .object "ChanceArena$Fractions"
  | 13 => .object "ChanceArena$Fractions"
  | 14 => .object "ChanceArena$Fractions"
  | 15 => .object "ChanceArena$Natural"
  | 16 => .object "ChanceArena$Fraction"
  | 17 => .array .char
  | _ => .int
theorem n_CA : ∀ a, a < 19 → ∀ b, b < 19 → a ≠ b → (T_CA a).2.1 ≠ (T_CA b).2.1 := zNi [1952542821, 549591945151532094682216, 512970876019, 125779751232882, 1952807028, 495806673509, 29380545542977652, 483479176693542325150565, 483479176693555344274533, 1734438245, 126922398262642, 130160803538291, 33611470917430899, 28536116720788850, 117052428215652, 121450625394034, 495673374574, 31650994541847908, 8908962951535740161080202589288] (by decide +kernel)
theorem o_CA : ∀ k, k < 19 → parseFieldDescriptor (T_CA k).2.2.1 = some (t_CA k) := by decide +kernel
theorem i_CA : ∀ w ∈ u_ws R_CA T_CA 19, w ∈ lw_R := (List.forall_mem_cons.mpr ⟨k3_206, (List.forall_mem_cons.mpr ⟨k3_208, (List.forall_mem_cons.mpr ⟨k3_210, (List.forall_mem_cons.mpr ⟨k3_212, (List.forall_mem_cons.mpr ⟨k3_214, (List.forall_mem_cons.mpr ⟨k3_216, (List.forall_mem_cons.mpr ⟨k3_218, (List.forall_mem_cons.mpr ⟨k3_220, (List.forall_mem_cons.mpr ⟨k3_222, (List.forall_mem_cons.mpr ⟨k3_224, (List.forall_mem_cons.mpr ⟨k3_226, (List.forall_mem_cons.mpr ⟨k3_228, (List.forall_mem_cons.mpr ⟨k3_230, (List.forall_mem_cons.mpr ⟨k3_232, (List.forall_mem_cons.mpr ⟨k3_234, (List.forall_mem_cons.mpr ⟨k3_236, (List.forall_mem_cons.mpr ⟨k3_238, (List.forall_mem_cons.mpr ⟨k4_0, (List.forall_mem_cons.mpr ⟨k4_2, (fun _ h => absurd h List.not_mem_nil)⟩)⟩)⟩)⟩)⟩)⟩)⟩)⟩)⟩)⟩)⟩)⟩)⟩)⟩)⟩)⟩)⟩)⟩)⟩)
def R_Wo : String := "ChanceArena$Words"
def T_Wo : u_T := fun k => match k with
  | 0 => ("ChanceArena$Words", "tape", "[C", false)
  | 1 => ("ChanceArena$Words", "length", "I", false)
  | 2 => ("ChanceArena$Words", "count", "I", false)
  | 3 => ("ChanceArena$Words", "sorts", "[I", false)
  | 4 => ("ChanceArena$Words", "starts", "[I", false)
  | _ => ("ChanceArena$Words", "amounts", "[I", false)
def t_Wo : Nat → FieldType := fun k => match k with
  | 0 => .array .char
  | 1 => .int
  | 2 => .int
  | 3 => .array .int
  | 4 => .array .int
  | _ => .array .int
theorem n_Wo : ∀ a, a < 6 → ∀ b, b < 6 → a ≠ b → (T_Wo a).2.1 ≠ (T_Wo b).2.1 := zNi [1952542821, 119182899770472, 427071729268, 495791010931, 126943688291443, 27423398219904115] (by decide +kernel)
theorem o_Wo : ∀ k, k < 6 → parseFieldDescriptor (T_Wo k).2.2.1 = some (t_Wo k) := by decide +kernel
theorem i_Wo : ∀ w ∈ u_ws R_Wo T_Wo 6, w ∈ lw_R := (List.forall_mem_cons.mpr ⟨k1_68, (List.forall_mem_cons.mpr ⟨k1_70, (List.forall_mem_cons.mpr ⟨k1_72, (List.forall_mem_cons.mpr ⟨k1_74, (List.forall_mem_cons.mpr ⟨k1_76, (List.forall_mem_cons.mpr ⟨k1_78, (fun _ h => absurd h List.not_mem_nil)⟩)⟩)⟩)⟩)⟩)⟩)
def R_TR : String := "ChanceArena$TextReader"
def T_TR : u_T := fun k => match k with
  | 0 => ("ChanceArena$TextReader", "rules", "LChanceArena$RuleReader;", true)
  | 1 => ("ChanceArena$TextReader", "machine", "LChanceArena$Machine;", true)
  | 2 => ("ChanceArena$TextReader", "text", "LChanceArena$Program;", false)
  | 3 => ("ChanceArena$TextReader", "nameWord", "I", false)
  | 4 => ("ChanceArena$TextReader", "itemStart", "I", false)
  | 5 => ("ChanceArena$TextReader", "ruleStart", "[I", true)
  | 6 => ("ChanceArena$TextReader", "rulePlace", "[I", true)
  | 7 => ("ChanceArena$TextReader", "inited", "Z", false)
  | _ => ("ChanceArena$TextReader", "truth", "Z", false)
def t_TR : Nat → FieldType := fun k => match k with
  | 0 => .object "ChanceArena$RuleReader"
  | 1 => .object "ChanceArena$Machine"
  | 2 => .object "ChanceArena$Program"
  | 3 => .int
  | 4 => .int
  | 5 => .array .int
  | 6 => .array .int
  | 7 => .boolean
  | _ => .boolean
theorem n_TR : ∀ a, a < 9 → ∀ b, b < 9 → a ≠ b → (T_TR a).2.1 ≠ (T_TR b).2.1 := zNi [491596309875, 30787852042858085, 1952807028, 7953758698939052644, 1945295357825752593012, 2111390073611920437876, 2111390073598901314405, 115922936554852, 500136506472] (by decide +kernel)
theorem o_TR : ∀ k, k < 9 → parseFieldDescriptor (T_TR k).2.2.1 = some (t_TR k) := by decide +kernel
theorem i_TR : ∀ w ∈ u_ws R_TR T_TR 9, w ∈ lw_R := (List.forall_mem_cons.mpr ⟨k1_238, (List.forall_mem_cons.mpr ⟨k2_0, (List.forall_mem_cons.mpr ⟨k2_2, (List.forall_mem_cons.mpr ⟨k2_4, (List.forall_mem_cons.mpr ⟨k2_6, (List.forall_mem_cons.mpr ⟨k2_8, (List.forall_mem_cons.mpr ⟨k2_10, (List.forall_mem_cons.mpr ⟨k2_12, (List.forall_mem_cons.mpr ⟨k2_14, (fun _ h => absurd h List.not_mem_nil)⟩)⟩)⟩)⟩)⟩)⟩)⟩)⟩)⟩)
def R_RR : String := "ChanceArena$RuleReader"
def T_RR : u_T := fun k => match k with
  | 0 => ("ChanceArena$RuleReader", "words", "LChanceArena$Words;", false)
  | 1 => ("ChanceArena$RuleReader", "text", "LChanceArena$Program;", false)
  | 2 => ("ChanceArena$RuleReader", "at", "I", false)
  | 3 => ("ChanceArena$RuleReader", "fault", "I", false)
  | 4 => ("ChanceArena$RuleReader", "place", "I", false)
  | 5 => ("ChanceArena$RuleReader", "depth", "I", false)
  | 6 => ("ChanceArena$RuleReader", "constsOnly", "Z", false)
  | 7 => ("ChanceArena$RuleReader", "operandWanted", "Z", false)
  | 8 => ("ChanceArena$RuleReader", "open", "[I", true)
  | 9 => ("ChanceArena$RuleReader", "openPlace", "[I", true)
  | 10 => ("ChanceArena$RuleReader", "openOrder", "[I", true)
  | 11 => ("ChanceArena$RuleReader", "openMarks", "[I", true)
  | 12 => ("ChanceArena$RuleReader", "opened", "I", false)
  | 13 => ("ChanceArena$RuleReader", "truths", "[Z", true)
  | 14 => ("ChanceArena$RuleReader", "operandCount", "I", false)
  | 15 => ("ChanceArena$RuleReader", "nameWord", "[I", true)
  | 16 => ("ChanceArena$RuleReader", "nameSort", "[I", true)
  | 17 => ("ChanceArena$RuleReader", "nameIndex", "[I", true)
  | 18 => ("ChanceArena$RuleReader", "nameTruth", "[Z", true)
  | _ => ("ChanceArena$RuleReader", "nameCount", "I", false)
def t_RR : Nat → FieldType := fun k => match k with
  | 0 => .object "ChanceArena$Words"
  | 1 => .object "ChanceArena$Program"
  | 2 => .int
  | 3 => .int
  | 4 => .int
  | 5 => .int
  | 6 => .boolean
  | 7 => .boolean
  | 8 => .array .int
  | 9 => .array .int
  | 10 => .array .int
  | 11 => .array .int
  | 12 => .int
  | 13 => .array .boolean
  | 14 => .int
  | 15 => .array .int
  | 16 => .array .int
  | 17 => .array .int
  | 18 => .array .boolean
  | _ => .int
theorem n_RR : ∀ a, a < 20 → ∀ b, b < 20 → a ≠ b → (T_RR a).2.1 ≠ (T_RR b).2.1 := zNi [512970876019, 1952807028, 24948, 439721749620, 482854658917, 431198598248, 469569829229281732881529, 8829111001838180999334399862116, 1869636974, 2055687592978350695269, 2055687592974156588402, 2055687592965282360179, 122528528754020, 128034945656947, 34488714850930394442985991796, 7953758698939052644, 7953758698871943796, 2036162226868250240376, 2036162226915563107432, 2036162226842498330228] (by decide +kernel)
theorem o_RR : ∀ k, k < 20 → parseFieldDescriptor (T_RR k).2.2.1 = some (t_RR k) := by decide +kernel
theorem i_RR : ∀ w ∈ u_ws R_RR T_RR 20, w ∈ lw_R := (List.forall_mem_cons.mpr ⟨k1_121, (List.forall_mem_cons.mpr ⟨k1_123, (List.forall_mem_cons.mpr ⟨k1_125, (List.forall_mem_cons.mpr ⟨k1_127, (List.forall_mem_cons.mpr ⟨k1_129, (List.forall_mem_cons.mpr ⟨k1_131, (List.forall_mem_cons.mpr ⟨k1_133, (List.forall_mem_cons.mpr ⟨k1_135, (List.forall_mem_cons.mpr ⟨k1_137, (List.forall_mem_cons.mpr ⟨k1_139, (List.forall_mem_cons.mpr ⟨k1_141, (List.forall_mem_cons.mpr ⟨k1_143, (List.forall_mem_cons.mpr ⟨k1_145, (List.forall_mem_cons.mpr ⟨k1_147, (List.forall_mem_cons.mpr ⟨k1_149, (List.forall_mem_cons.mpr ⟨k1_151, (List.forall_mem_cons.mpr ⟨k1_153, (List.forall_mem_cons.mpr ⟨k1_155, (List.forall_mem_cons.mpr ⟨k1_157, (List.forall_mem_cons.mpr ⟨k1_159, (fun _ h => absurd h List.not_mem_nil)⟩)⟩)⟩)⟩)⟩)⟩)⟩)⟩)⟩)⟩)⟩)⟩)⟩)⟩)⟩)⟩)⟩)⟩)⟩)⟩)
def R_Ma : String := "ChanceArena$Machine"
def T_Ma : u_T := fun k => match k with
  | 0 => ("ChanceArena$Machine", "text", "LChanceArena$Program;", false)
  | 1 => ("ChanceArena$Machine", "fault", "I", false)
  | 2 => ("ChanceArena$Machine", "place", "I", false)
  | 3 => ("ChanceArena$Machine", "numbers", "[I", false)
  | 4 => ("ChanceArena$Machine", "base", "I", false)
  | 5 => ("ChanceArena$Machine", "next", "[I", true)
  | 6 => ("ChanceArena$Machine", "above", "[I", false)
  | 7 => ("ChanceArena$Machine", "below", "[I", false)
  | 8 => ("ChanceArena$Machine", "top", "I", false)
  | 9 => ("ChanceArena$Machine", "stamp", "I", false)
  | 10 => ("ChanceArena$Machine", "stamps", "[I", true)
  | 11 => ("ChanceArena$Machine", "metAbove", "[I", true)
  | 12 => ("ChanceArena$Machine", "metBelow", "[I", true)
  | 13 => ("ChanceArena$Machine", "called", "[I", true)
  | 14 => ("ChanceArena$Machine", "back", "[I", true)
  | _ => ("ChanceArena$Machine", "calls", "I", false)
def t_Ma : Nat → FieldType := fun k => match k with
  | 0 => .object "ChanceArena$Program"
  | 1 => .int
  | 2 => .int
  | 3 => .array .int
  | 4 => .int
  | 5 => .array .int
  | 6 => .array .int
  | 7 => .array .int
  | 8 => .int
  | 9 => .int
  | 10 => .array .int
  | 11 => .array .int
  | 12 => .array .int
  | 13 => .array .int
  | 14 => .array .int
  | _ => .int
theorem n_Ma : ∀ a, a < 16 → ∀ b, b < 16 → a ≠ b → (T_Ma a).2.1 ≠ (T_Ma b).2.1 := zNi [1952807028, 439721749620, 482854658917, 31091360100872819, 1650553701, 1852143732, 418263299685, 422608400247, 7630704, 495873781104, 126943687962739, 7882834546955089509, 7882834551300190071, 109270082020708, 1650549611, 426836257907] (by decide +kernel)
theorem o_Ma : ∀ k, k < 16 → parseFieldDescriptor (T_Ma k).2.2.1 = some (t_Ma k) := by decide +kernel
theorem i_Ma : ∀ w ∈ u_ws R_Ma T_Ma 16, w ∈ lw_R := (List.forall_mem_cons.mpr ⟨k1_196, (List.forall_mem_cons.mpr ⟨k1_198, (List.forall_mem_cons.mpr ⟨k1_200, (List.forall_mem_cons.mpr ⟨k1_202, (List.forall_mem_cons.mpr ⟨k1_204, (List.forall_mem_cons.mpr ⟨k1_206, (List.forall_mem_cons.mpr ⟨k1_208, (List.forall_mem_cons.mpr ⟨k1_210, (List.forall_mem_cons.mpr ⟨k1_212, (List.forall_mem_cons.mpr ⟨k1_214, (List.forall_mem_cons.mpr ⟨k1_216, (List.forall_mem_cons.mpr ⟨k1_218, (List.forall_mem_cons.mpr ⟨k1_220, (List.forall_mem_cons.mpr ⟨k1_222, (List.forall_mem_cons.mpr ⟨k1_224, (List.forall_mem_cons.mpr ⟨k1_226, (fun _ h => absurd h List.not_mem_nil)⟩)⟩)⟩)⟩)⟩)⟩)⟩)⟩)⟩)⟩)⟩)⟩)⟩)⟩)⟩)⟩)
def R_Pr : String := "ChanceArena$Program"
def T_Pr : u_T := fun k => match k with
  | 0 => ("ChanceArena$Program", "orders", "[I", false)
  | 1 => ("ChanceArena$Program", "operands", "[I", false)
  | 2 => ("ChanceArena$Program", "length", "I", false)
  | 3 => ("ChanceArena$Program", "vars", "I", false)
  | 4 => ("ChanceArena$Program", "low", "[I", true)
  | 5 => ("ChanceArena$Program", "high", "[I", true)
  | 6 => ("ChanceArena$Program", "init", "[I", true)
  | 7 => ("ChanceArena$Program", "names", "I", false)
  | 8 => ("ChanceArena$Program", "above", "[I", true)
  | 9 => ("ChanceArena$Program", "below", "[I", true)
  | 10 => ("ChanceArena$Program", "formula", "[I", true)
  | 11 => ("ChanceArena$Program", "target", "I", false)
  | 12 => ("ChanceArena$Program", "commands", "I", false)
  | 13 => ("ChanceArena$Program", "player", "[I", true)
  | 14 => ("ChanceArena$Program", "commandPlace", "[I", true)
  | 15 => ("ChanceArena$Program", "guard", "[I", true)
  | 16 => ("ChanceArena$Program", "firstBranch", "[I", true)
  | 17 => ("ChanceArena$Program", "branchPlace", "[I", true)
  | 18 => ("ChanceArena$Program", "chance", "[I", true)
  | _ => ("ChanceArena$Program", "sets", "[I", true)
def t_Pr : Nat → FieldType := fun k => match k with
  | 0 => .array .int
  | 1 => .array .int
  | 2 => .int
  | 3 => .int
  | 4 => .array .int
  | 5 => .array .int
  | 6 => .array .int
  | 7 => .int
  | 8 => .array .int
  | 9 => .array .int
  | 10 => .array .int
  | 11 => .int
  | 12 => .int
  | 13 => .array .int
  | 14 => .array .int
  | 15 => .array .int
  | 16 => .array .int
  | 17 => .array .int
  | 18 => .array .int
  | _ => .array .int
theorem n_Pr : ∀ a, a < 20 → ∀ b, b < 20 → a ≠ b → (T_Pr a).2.1 ≠ (T_Pr b).2.1 := zNi [122537101324915, 8030029677536896115, 119182899770472, 1986097779, 7106423, 1751738216, 1768843636, 474080961907, 418263299685, 422608400247, 28832984877853793, 127961880028532, 7165065848723235955, 123610794124658, 30773723493952781633510794085, 444350952036, 123808393329565362144830312, 119014877389772009993495397, 109299962372965, 1936028787] (by decide +kernel)
theorem o_Pr : ∀ k, k < 20 → parseFieldDescriptor (T_Pr k).2.2.1 = some (t_Pr k) := by decide +kernel
theorem i_Pr : ∀ w ∈ u_ws R_Pr T_Pr 20, w ∈ lw_R := (List.forall_mem_cons.mpr ⟨k2_85, (List.forall_mem_cons.mpr ⟨k2_87, (List.forall_mem_cons.mpr ⟨k2_89, (List.forall_mem_cons.mpr ⟨k2_91, (List.forall_mem_cons.mpr ⟨k2_93, (List.forall_mem_cons.mpr ⟨k2_95, (List.forall_mem_cons.mpr ⟨k2_97, (List.forall_mem_cons.mpr ⟨k2_99, (List.forall_mem_cons.mpr ⟨k2_101, (List.forall_mem_cons.mpr ⟨k2_103, (List.forall_mem_cons.mpr ⟨k2_105, (List.forall_mem_cons.mpr ⟨k2_107, (List.forall_mem_cons.mpr ⟨k2_109, (List.forall_mem_cons.mpr ⟨k2_111, (List.forall_mem_cons.mpr ⟨k2_113, (List.forall_mem_cons.mpr ⟨k2_115, (List.forall_mem_cons.mpr ⟨k2_117, (List.forall_mem_cons.mpr ⟨k2_119, (List.forall_mem_cons.mpr ⟨k2_121, (List.forall_mem_cons.mpr ⟨k2_123, (fun _ h => absurd h List.not_mem_nil)⟩)⟩)⟩)⟩)⟩)⟩)⟩)⟩)⟩)⟩)⟩)⟩)⟩)⟩)⟩)⟩)⟩)⟩)⟩)⟩)
def R_Ga : String := "ChanceArena$Game"
def T_Ga : u_T := fun k => match k with
  | 0 => ("ChanceArena$Game", "count", "I", false)
  | 1 => ("ChanceArena$Game", "numbers", "[I", true)
  | 2 => ("ChanceArena$Game", "sorts", "[I", true)
  | 3 => ("ChanceArena$Game", "told", "[I", true)
  | 4 => ("ChanceArena$Game", "firstCommand", "[I", true)
  | 5 => ("ChanceArena$Game", "textCommand", "[I", true)
  | 6 => ("ChanceArena$Game", "multiple", "[I", true)
  | 7 => ("ChanceArena$Game", "firstBranch", "[I", true)
  | 8 => ("ChanceArena$Game", "goal", "[I", true)
  | 9 => ("ChanceArena$Game", "weight", "[I", true)
  | 10 => ("ChanceArena$Game", "place", "I", false)
  | 11 => ("ChanceArena$Game", "faultState", "I", false)
  | 12 => ("ChanceArena$Game", "commandCount", "I", false)
  | 13 => ("ChanceArena$Game", "branchCount", "I", false)
  | 14 => ("ChanceArena$Game", "text", "LChanceArena$Program;", false)
  | 15 => ("ChanceArena$Game", "machine", "LChanceArena$Machine;", true)
  | 16 => ("ChanceArena$Game", "slots", "[I", true)
  | 17 => ("ChanceArena$Game", "chanceAbove", "[I", true)
  | _ => ("ChanceArena$Game", "chanceBelow", "[I", true)
def t_Ga : Nat → FieldType := fun k => match k with
  | 0 => .int
  | 1 => .array .int
  | 2 => .array .int
  | 3 => .array .int
  | 4 => .array .int
  | 5 => .array .int
  | 6 => .array .int
  | 7 => .array .int
  | 8 => .array .int
  | 9 => .array .int
  | 10 => .int
  | 11 => .int
  | 12 => .int
  | 13 => .int
  | 14 => .object "ChanceArena$Program"
  | 15 => .object "ChanceArena$Machine"
  | 16 => .array .int
  | 17 => .array .int
  | _ => .array .int
theorem n_Ga : ∀ a, a < 19 → ∀ b, b < 19 → a ≠ b → (T_Ga a).2.1 ≠ (T_Ga b).2.1 := zNi [427071729268, 31091360100872819, 495791010931, 1953459300, 31694948692369010937041088100, 140714576077017911195168356, 7887329569650273381, 123808393329565362144830312, 1735352684, 131277443786868, 482854658917, 483479176693555344274533, 30773723493952781577727864436, 119014877389771954210565748, 1952807028, 30787852042858085, 495740482675, 120176579544554579589822053, 120176579544554583934922615] (by decide +kernel)
theorem o_Ga : ∀ k, k < 19 → parseFieldDescriptor (T_Ga k).2.2.1 = some (t_Ga k) := by decide +kernel
theorem i_Ga : ∀ w ∈ u_ws R_Ga T_Ga 19, w ∈ lw_R := (List.forall_mem_cons.mpr ⟨k2_182, (List.forall_mem_cons.mpr ⟨k2_184, (List.forall_mem_cons.mpr ⟨k2_186, (List.forall_mem_cons.mpr ⟨k2_188, (List.forall_mem_cons.mpr ⟨k2_190, (List.forall_mem_cons.mpr ⟨k2_192, (List.forall_mem_cons.mpr ⟨k2_194, (List.forall_mem_cons.mpr ⟨k2_196, (List.forall_mem_cons.mpr ⟨k2_198, (List.forall_mem_cons.mpr ⟨k2_200, (List.forall_mem_cons.mpr ⟨k2_202, (List.forall_mem_cons.mpr ⟨k2_204, (List.forall_mem_cons.mpr ⟨k2_206, (List.forall_mem_cons.mpr ⟨k2_208, (List.forall_mem_cons.mpr ⟨k2_210, (List.forall_mem_cons.mpr ⟨k2_212, (List.forall_mem_cons.mpr ⟨k2_214, (List.forall_mem_cons.mpr ⟨k2_216, (List.forall_mem_cons.mpr ⟨k2_218, (fun _ h => absurd h List.not_mem_nil)⟩)⟩)⟩)⟩)⟩)⟩)⟩)⟩)⟩)⟩)⟩)⟩)⟩)⟩)⟩)⟩)⟩)⟩)⟩)
def R_So : String := "ChanceArena$Solver"
def T_So : u_T := fun k => match k with
  | 0 => ("ChanceArena$Solver", "scales", "LChanceArena$Scales;", true)
  | 1 => ("ChanceArena$Solver", "ranks", "[I", true)
  | 2 => ("ChanceArena$Solver", "choices", "[I", true)
  | 3 => ("ChanceArena$Solver", "game", "LChanceArena$Game;", true)
  | 4 => ("ChanceArena$Solver", "system", "LChanceArena$Residues;", true)
  | 5 => ("ChanceArena$Solver", "low", "[I", true)
  | 6 => ("ChanceArena$Solver", "high", "[I", true)
  | 7 => ("ChanceArena$Solver", "slot", "[I", true)
  | 8 => ("ChanceArena$Solver", "unknown", "[I", true)
  | 9 => ("ChanceArena$Solver", "chosen", "[I", true)
  | 10 => ("ChanceArena$Solver", "unknowns", "I", false)
  | 11 => ("ChanceArena$Solver", "others", "[I", false)
  | 12 => ("ChanceArena$Solver", "otherCount", "I", false)
  | 13 => ("ChanceArena$Solver", "minOthers", "I", false)
  | 14 => ("ChanceArena$Solver", "drawn", "J", false)
  | 15 => ("ChanceArena$Solver", "attains", "[Z", true)
  | 16 => ("ChanceArena$Solver", "probe", "[I", true)
  | _ => ("ChanceArena$Solver", "worth", "LChanceArena$Fraction;", true)
def t_So : Nat → FieldType := fun k => match k with
  | 0 => .object "ChanceArena$Scales"
  | 1 => .array .int
  | 2 => .array .int
  | 3 => .object "ChanceArena$Game"
  | 4 => .object "ChanceArena$Residues"
  | 5 => .array .int
  | 6 => .array .int
  | 7 => .array .int
  | 8 => .array .int
  | 9 => .array .int
  | 10 => .int
  | 11 => .array .int
  | 12 => .int
  | 13 => .int
  | 14 => .long
  | 15 => .array .boolean
  | 16 => .array .int
  | _ => .object "ChanceArena$Fraction"
theorem n_So : ∀ a, a < 18 → ∀ b, b < 18 → a ≠ b → (T_So a).2.1 ≠ (T_So b).2.1 := zNi [126870673450355, 491260898163, 27980850413135219, 1734438245, 126965465245037, 7106423, 1751738216, 1936486260, 33053979968501614, 109300197582190, 8461818871936413299, 122545758368371, 526330024455467477331572, 2018292201017148011123, 431415719790, 27431115940261491, 482956239461, 512970880104] (by decide +kernel)
theorem o_So : ∀ k, k < 18 → parseFieldDescriptor (T_So k).2.2.1 = some (t_So k) := by decide +kernel
theorem i_So : ∀ w ∈ u_ws R_So T_So 18, w ∈ lw_R := (List.forall_mem_cons.mpr ⟨k3_126, (List.forall_mem_cons.mpr ⟨k3_128, (List.forall_mem_cons.mpr ⟨k3_130, (List.forall_mem_cons.mpr ⟨k3_132, (List.forall_mem_cons.mpr ⟨k3_134, (List.forall_mem_cons.mpr ⟨k3_136, (List.forall_mem_cons.mpr ⟨k3_138, (List.forall_mem_cons.mpr ⟨k3_140, (List.forall_mem_cons.mpr ⟨k3_142, (List.forall_mem_cons.mpr ⟨k3_144, (List.forall_mem_cons.mpr ⟨k3_146, (List.forall_mem_cons.mpr ⟨k3_148, (List.forall_mem_cons.mpr ⟨k3_150, (List.forall_mem_cons.mpr ⟨k3_152, (List.forall_mem_cons.mpr ⟨k3_154, (List.forall_mem_cons.mpr ⟨k3_156, (List.forall_mem_cons.mpr ⟨k3_158, (List.forall_mem_cons.mpr ⟨k3_160, (fun _ h => absurd h List.not_mem_nil)⟩)⟩)⟩)⟩)⟩)⟩)⟩)⟩)⟩)⟩)⟩)⟩)⟩)⟩)⟩)⟩)⟩)⟩)
def R_Sc : String := "ChanceArena$Scales"
def T_Sc : u_T := fun k => match k with
  | 0 => ("ChanceArena$Scales", "left", "LChanceArena$Natural;", true)
  | 1 => ("ChanceArena$Scales", "right", "LChanceArena$Natural;", true)
  | 2 => ("ChanceArena$Scales", "quotient", "LChanceArena$Natural;", true)
  | 3 => ("ChanceArena$Scales", "scaled", "LChanceArena$Natural;", true)
  | 4 => ("ChanceArena$Scales", "part", "LChanceArena$Natural;", true)
  | 5 => ("ChanceArena$Scales", "product", "LChanceArena$Natural;", true)
  | 6 => ("ChanceArena$Scales", "factors", "[J", true)
  | 7 => ("ChanceArena$Scales", "sumPart", "LChanceArena$Natural;", true)
  | 8 => ("ChanceArena$Scales", "termPart", "LChanceArena$Natural;", true)
  | 9 => ("ChanceArena$Scales", "best", "LChanceArena$Fraction;", false)
  | _ => ("ChanceArena$Scales", "trial", "LChanceArena$Fraction;", false)
def t_Sc : Nat → FieldType := fun k => match k with
  | 0 => .object "ChanceArena$Natural"
  | 1 => .object "ChanceArena$Natural"
  | 2 => .object "ChanceArena$Natural"
  | 3 => .object "ChanceArena$Natural"
  | 4 => .object "ChanceArena$Natural"
  | 5 => .object "ChanceArena$Natural"
  | 6 => .array .long
  | 7 => .object "ChanceArena$Natural"
  | 8 => .object "ChanceArena$Natural"
  | 9 => .object "ChanceArena$Fraction"
  | _ => .object "ChanceArena$Fraction"
theorem n_Sc : ∀ a, a < 11 → ∀ b, b < 11 → a ≠ b → (T_Sc a).2.1 ≠ (T_Sc b).2.1 := zNi [1818584692, 491394656372, 8175563244336148084, 126870673450340, 1885434484, 31651020143944564, 28817527407604339, 32498734682174068, 8387235694872982132, 1650815860, 500135715180] (by decide +kernel)
theorem o_Sc : ∀ k, k < 11 → parseFieldDescriptor (T_Sc k).2.2.1 = some (t_Sc k) := by decide +kernel
theorem i_Sc : ∀ w ∈ u_ws R_Sc T_Sc 11, w ∈ lw_R := (List.forall_mem_cons.mpr ⟨k3_47, (List.forall_mem_cons.mpr ⟨k3_49, (List.forall_mem_cons.mpr ⟨k3_51, (List.forall_mem_cons.mpr ⟨k3_53, (List.forall_mem_cons.mpr ⟨k3_55, (List.forall_mem_cons.mpr ⟨k3_57, (List.forall_mem_cons.mpr ⟨k3_59, (List.forall_mem_cons.mpr ⟨k3_61, (List.forall_mem_cons.mpr ⟨k3_63, (List.forall_mem_cons.mpr ⟨k3_65, (List.forall_mem_cons.mpr ⟨k3_67, (fun _ h => absurd h List.not_mem_nil)⟩)⟩)⟩)⟩)⟩)⟩)⟩)⟩)⟩)⟩)⟩)
def R_Na : String := "ChanceArena$Natural"
def T_Na : u_T := fun k => match k with
  | 0 => ("ChanceArena$Natural", "limbs", "[I", false)
  | _ => ("ChanceArena$Natural", "size", "I", false)
def t_Na : Nat → FieldType := fun k => match k with
  | 0 => .array .int
  | _ => .int
theorem n_Na : ∀ a, a < 2 → ∀ b, b < 2 → a ≠ b → (T_Na a).2.1 ≠ (T_Na b).2.1 := zNi [465625244275, 1936292453] (by decide +kernel)
theorem o_Na : ∀ k, k < 2 → parseFieldDescriptor (T_Na k).2.2.1 = some (t_Na k) := by decide +kernel
theorem i_Na : ∀ w ∈ u_ws R_Na T_Na 2, w ∈ lw_R := (List.forall_mem_cons.mpr ⟨k3_5, (List.forall_mem_cons.mpr ⟨k3_7, (fun _ h => absurd h List.not_mem_nil)⟩)⟩)
def R_Fr : String := "ChanceArena$Fraction"
def T_Fr : u_T := fun k => match k with
  | 0 => ("ChanceArena$Fraction", "above", "LChanceArena$Natural;", true)
  | 1 => ("ChanceArena$Fraction", "below", "LChanceArena$Natural;", true)
  | _ => ("ChanceArena$Fraction", "times", "I", false)
def t_Fr : Nat → FieldType := fun k => match k with
  | 0 => .object "ChanceArena$Natural"
  | 1 => .object "ChanceArena$Natural"
  | _ => .int
theorem n_Fr : ∀ a, a < 3 → ∀ b, b < 3 → a ≠ b → (T_Fr a).2.1 ≠ (T_Fr b).2.1 := zNi [418263299685, 422608400247, 499984983411] (by decide +kernel)
theorem o_Fr : ∀ k, k < 3 → parseFieldDescriptor (T_Fr k).2.2.1 = some (t_Fr k) := by decide +kernel
theorem i_Fr : ∀ w ∈ u_ws R_Fr T_Fr 3, w ∈ lw_R := (List.forall_mem_cons.mpr ⟨k3_28, (List.forall_mem_cons.mpr ⟨k3_30, (List.forall_mem_cons.mpr ⟨k3_32, (fun _ h => absurd h List.not_mem_nil)⟩)⟩)⟩)
def R_Re : String := "ChanceArena$Residues"
def T_Re : u_T := fun k => match k with
  | 0 => ("ChanceArena$Residues", "entries", "[I", true)
  | 1 => ("ChanceArena$Residues", "results", "[LChanceArena$Natural;", true)
  | 2 => ("ChanceArena$Residues", "work", "[I", true)
  | 3 => ("ChanceArena$Residues", "inverses", "[I", true)
  | 4 => ("ChanceArena$Residues", "columns", "[I", true)
  | 5 => ("ChanceArena$Residues", "residues", "[I", true)
  | _ => ("ChanceArena$Residues", "modulus", "LChanceArena$Natural;", true)
def t_Re : Nat → FieldType := fun k => match k with
  | 0 => .array .int
  | 1 => .array (.object "ChanceArena$Natural")
  | 2 => .array .int
  | 3 => .array .int
  | 4 => .array .int
  | 5 => .array .int
  | _ => .object "ChanceArena$Natural"
theorem n_Re : ∀ a, a < 7 → ∀ b, b < 7 → a ≠ b → (T_Re a).2.1 ≠ (T_Re b).2.1 := zNi [28550419062547827, 32199693910701171, 2003792491, 7597139799504545139, 27988534311612019, 8243121589465736563, 30803249718916467] (by decide +kernel)
theorem o_Re : ∀ k, k < 7 → parseFieldDescriptor (T_Re k).2.2.1 = some (t_Re k) := by decide +kernel
theorem i_Re : ∀ w ∈ u_ws R_Re T_Re 7, w ∈ lw_R := (List.forall_mem_cons.mpr ⟨k3_88, (List.forall_mem_cons.mpr ⟨k3_90, (List.forall_mem_cons.mpr ⟨k3_92, (List.forall_mem_cons.mpr ⟨k3_94, (List.forall_mem_cons.mpr ⟨k3_96, (List.forall_mem_cons.mpr ⟨k3_98, (List.forall_mem_cons.mpr ⟨k3_100, (fun _ h => absurd h List.not_mem_nil)⟩)⟩)⟩)⟩)⟩)⟩)⟩)
def R_Fs : String := "ChanceArena$Fractions"
def T_Fs : u_T := fun k => match k with
  | 0 => ("ChanceArena$Fractions", "rows", "[LChanceArena$Fraction;", false)
  | _ => ("ChanceArena$Fractions", "known", "Z", false)
def t_Fs : Nat → FieldType := fun k => match k with
  | 0 => .array (.object "ChanceArena$Fraction")
  | _ => .boolean
theorem n_Fs : ∀ a, a < 2 → ∀ b, b < 2 → a ≠ b → (T_Fs a).2.1 ≠ (T_Fs b).2.1 := zNi [1919907699, 461414299502] (by decide +kernel)
theorem o_Fs : ∀ k, k < 2 → parseFieldDescriptor (T_Fs k).2.2.1 = some (t_Fs k) := by decide +kernel
theorem i_Fs : ∀ w ∈ u_ws R_Fs T_Fs 2, w ∈ lw_R := (List.forall_mem_cons.mpr ⟨k3_178, (List.forall_mem_cons.mpr ⟨k3_180, (fun _ h => absurd h List.not_mem_nil)⟩)⟩)
def R_MM : String := "ChanceArenaModel"
def T_MM : u_T := fun k => match k with
  | 0 => ("ChanceArenaModel", "thrown", "I", false)
  | 1 => ("ChanceArenaModel", "tape", "LChanceArenaModel$Numbers;", false)
  | 2 => ("ChanceArenaModel", "text", "LChanceArenaModel$Numbers;", false)
  | 3 => ("ChanceArenaModel", "kinds", "LChanceArenaModel$Numbers;", true)
  | 4 => ("ChanceArenaModel", "places", "LChanceArenaModel$Numbers;", true)
  | 5 => ("ChanceArenaModel", "ends", "LChanceArenaModel$Numbers;", true)
  | 6 => ("ChanceArenaModel", "wanted", "LChanceArenaModel$Numbers;", true)
  | 7 => ("ChanceArenaModel", "levels", "I", false)
  | 8 => ("ChanceArenaModel", "bad", "I", false)
  | 9 => ("ChanceArenaModel", "game", "LChanceArenaModel$Game;", false)
  | 10 => ("ChanceArenaModel", "draft", "LChanceArenaModel$Game;", false)
  | 11 => ("ChanceArenaModel", "known", "Z", false)
  | 12 => ("ChanceArenaModel", "wrong", "I", false)
  | 13 => ("ChanceArenaModel", "nameWord", "LChanceArenaModel$Numbers;", true)
  | 14 => ("ChanceArenaModel", "nameSort", "LChanceArenaModel$Numbers;", true)
  | 15 => ("ChanceArenaModel", "nameIndex", "LChanceArenaModel$Numbers;", true)
  | 16 => ("ChanceArenaModel", "fault", "I", false)
  | 17 => ("ChanceArenaModel", "faultPlace", "I", false)
  | 18 => ("ChanceArenaModel", "jobs", "LChanceArenaModel$Numbers;", true)
  | 19 => ("ChanceArenaModel", "truths", "LChanceArenaModel$Numbers;", true)
  | 20 => ("ChanceArenaModel", "looks", "LChanceArenaModel$Numbers;", true)
  | 21 => ("ChanceArenaModel", "above", "[J", true)
  | 22 => ("ChanceArenaModel", "below", "[J", true)
  | 23 => ("ChanceArenaModel", "values", "I", false)
  | 24 => ("ChanceArenaModel", "todo", "LChanceArenaModel$Numbers;", true)
  | 25 => ("ChanceArenaModel", "now", "[I", true)
  | 26 => ("ChanceArenaModel", "met", "[Z", true)
  | 27 => ("ChanceArenaModel", "metAbove", "[J", true)
  | 28 => ("ChanceArenaModel", "metBelow", "[J", true)
  | 29 => ("ChanceArenaModel", "many", "I", false)
  | 30 => ("ChanceArenaModel", "faultState", "I", false)
  | 31 => ("ChanceArenaModel", "vars", "[I", true)
  | 32 => ("ChanceArenaModel", "kindOf", "[I", true)
  | 33 => ("ChanceArenaModel", "firstCommand", "[I", true)
  | 34 => ("ChanceArenaModel", "manyCommands", "[I", true)
  | 35 => ("ChanceArenaModel", "commandOf", "LChanceArenaModel$Numbers;", true)
  | 36 => ("ChanceArenaModel", "firstBranch", "LChanceArenaModel$Numbers;", true)
  | 37 => ("ChanceArenaModel", "manyBranches", "LChanceArenaModel$Numbers;", true)
  | 38 => ("ChanceArenaModel", "multipleOf", "LChanceArenaModel$Numbers;", true)
  | 39 => ("ChanceArenaModel", "solver", "LChanceArenaModel$Solver;", true)
  | 40 => ("ChanceArenaModel", "ways", "I", false)
  | 41 => ("ChanceArenaModel", "wayTo", "[I", true)
  | 42 => ("ChanceArenaModel", "wayAbove", "[J", true)
  | 43 => ("ChanceArenaModel", "wayBelow", "[J", true)
  | 44 => ("ChanceArenaModel", "next", "[I", true)
  | 45 => ("ChanceArenaModel", "chanceAbove", "[J", true)
  | 46 => ("ChanceArenaModel", "chanceBelow", "[J", true)
  | 47 => ("ChanceArenaModel", "printed", "[I", true)
  | _ => ("ChanceArenaModel", "printedSize", "I", false)
def t_MM : Nat → FieldType := fun k => match k with
  | 0 => .int
  | 1 => .object "ChanceArenaModel$Numbers"
  | 2 => .object "ChanceArenaModel$Numbers"
  | 3 => .object "ChanceArenaModel$Numbers"
  | 4 => .object "ChanceArenaModel$Numbers"
  | 5 => .object "ChanceArenaModel$Numbers"
  | 6 => .object "ChanceArenaModel$Numbers"
  | 7 => .int
  | 8 => .int
  | 9 => .object "ChanceArenaModel$Game"
  | 10 => .object "ChanceArenaModel$Game"
  | 11 => .boolean
  | 12 => .int
  | 13 => .object "ChanceArenaModel$Numbers"
  | 14 => .object "ChanceArenaModel$Numbers"
  | 15 => .object "ChanceArenaModel$Numbers"
  | 16 => .int
  | 17 => .int
  | 18 => .object "ChanceArenaModel$Numbers"
  | 19 => .object "ChanceArenaModel$Numbers"
  | 20 => .object "ChanceArenaModel$Numbers"
  | 21 => .array .long
  | 22 => .array .long
  | 23 => .int
  | 24 => .object "ChanceArenaModel$Numbers"
  | 25 => .array .int
  | 26 => .array .boolean
  | 27 => .array .long
  | 28 => .array .long
  | 29 => .int
  | 30 => .int
  | 31 => .array .int
  | 32 => .array .int
  | 33 => .array .int
  | 34 => .array .int
  | 35 => .object "ChanceArenaModel$Numbers"
  | 36 => .object "ChanceArenaModel$Numbers"
  | 37 => .object "ChanceArenaModel$Numbers"
  | 38 => .object "ChanceArenaModel$Numbers"
  | 39 => .object "ChanceArenaModel$Solver"
  | 40 => .int
  | 41 => .array .int
  | 42 => .array .long
  | 43 => .array .long
  | 44 => .array .int
  | 45 => .array .long
  | 46 => .array .long
  | 47 => .array .int
  | _ => .int
theorem n_MM : ∀ a, a < 49 → ∀ b, b < 49 → a ≠ b → (T_MM a).2.1 ≠ (T_MM b).2.1 := zNi [127991945328494, 1952542821, 1952807028, 461330343027, 123610792682867, 1701733491, 131260348654948, 119183033855091, 6447460, 1734438245, 431415715444, 461414299502, 513021013607, 7953758698939052644, 7953758698871943796, 2036162226868250240376, 439721749620, 483479176693542325150565, 1785684595, 128034945656947, 465726040947, 418263299685, 422608400247, 130160803538291, 1953457263, 7237495, 7169396, 7882834546955089509, 7882834551300190071, 1835101817, 483479176693555344274533, 1986097779, 118100567805798, 31694948692369010937041088100, 33851653572257602940286428275, 1834256857273148395366, 123808393329565362144830312, 33851653572186376581367227763, 516904030676600316317542, 126922398262642, 2002876787, 512736449647, 8602290084985665125, 8602290089330765687, 1852143732, 120176579544554579589822053, 120176579544554583934922615, 31650994541847908, 135939986443111269665438309] (by decide +kernel)
theorem o_MM : ∀ k, k < 49 → parseFieldDescriptor (T_MM k).2.2.1 = some (t_MM k) := by decide +kernel
theorem i_MM : ∀ w ∈ u_ws R_MM T_MM 49, w ∈ lw_R := (List.forall_mem_cons.mpr ⟨k10_130, (List.forall_mem_cons.mpr ⟨k10_132, (List.forall_mem_cons.mpr ⟨k10_134, (List.forall_mem_cons.mpr ⟨k10_136, (List.forall_mem_cons.mpr ⟨k10_138, (List.forall_mem_cons.mpr ⟨k10_140, (List.forall_mem_cons.mpr ⟨k10_142, (List.forall_mem_cons.mpr ⟨k10_144, (List.forall_mem_cons.mpr ⟨k10_146, (List.forall_mem_cons.mpr ⟨k10_148, (List.forall_mem_cons.mpr ⟨k10_150, (List.forall_mem_cons.mpr ⟨k10_152, (List.forall_mem_cons.mpr ⟨k10_154, (List.forall_mem_cons.mpr ⟨k10_156, (List.forall_mem_cons.mpr ⟨k10_158, (List.forall_mem_cons.mpr ⟨k10_160, (List.forall_mem_cons.mpr ⟨k10_162, (List.forall_mem_cons.mpr ⟨k10_164, (List.forall_mem_cons.mpr ⟨k10_166, (List.forall_mem_cons.mpr ⟨k10_168, (List.forall_mem_cons.mpr ⟨k10_170, (List.forall_mem_cons.mpr ⟨k10_172, (List.forall_mem_cons.mpr ⟨k10_174, (List.forall_mem_cons.mpr ⟨k10_176, (List.forall_mem_cons.mpr ⟨k10_178, (List.forall_mem_cons.mpr ⟨k10_180, (List.forall_mem_cons.mpr ⟨k10_182, (List.forall_mem_cons.mpr ⟨k10_184, (List.forall_mem_cons.mpr ⟨k10_186, (List.forall_mem_cons.mpr ⟨k10_188, (List.forall_mem_cons.mpr ⟨k10_190, (List.forall_mem_cons.mpr ⟨k10_192, (List.forall_mem_cons.mpr ⟨k10_194, (List.forall_mem_cons.mpr ⟨k10_196, (List.forall_mem_cons.mpr ⟨k10_198, (List.forall_mem_cons.mpr ⟨k10_200, (List.forall_mem_cons.mpr ⟨k10_202, (List.forall_mem_cons.mpr ⟨k10_204, (List.forall_mem_cons.mpr ⟨k10_206, (List.forall_mem_cons.mpr ⟨k10_208, (List.forall_mem_cons.mpr ⟨k10_210, (List.forall_mem_cons.mpr ⟨k10_212, (List.forall_mem_cons.mpr ⟨k10_214, (List.forall_mem_cons.mpr ⟨k10_216, (List.forall_mem_cons.mpr ⟨k10_218, (List.forall_mem_cons.mpr ⟨k10_220, (List.forall_mem_cons.mpr ⟨k10_222, (List.forall_mem_cons.mpr ⟨k10_224, (List.forall_mem_cons.mpr ⟨k10_226, (fun _ h => absurd h List.not_mem_nil)⟩)⟩)⟩)⟩)⟩)⟩)⟩)⟩)⟩)⟩)⟩)⟩)⟩)⟩)⟩)⟩)⟩)⟩)⟩)⟩)⟩)⟩)⟩)⟩)⟩)⟩)⟩)⟩)⟩)⟩)⟩)⟩)⟩)⟩)⟩)⟩)⟩)⟩)⟩)⟩)⟩)⟩)⟩)⟩)⟩)⟩)⟩)⟩)⟩)
def R_MN : String := "ChanceArenaModel$Numbers"
def T_MN : u_T := fun k => match k with
  | 0 => ("ChanceArenaModel$Numbers", "all", "[I", false)
  | _ => ("ChanceArenaModel$Numbers", "size", "I", false)
def t_MN : Nat → FieldType := fun k => match k with
  | 0 => .array .int
  | _ => .int
theorem n_MN : ∀ a, a < 2 → ∀ b, b < 2 → a ≠ b → (T_MN a).2.1 ≠ (T_MN b).2.1 := zNi [6384748, 1936292453] (by decide +kernel)
theorem o_MN : ∀ k, k < 2 → parseFieldDescriptor (T_MN k).2.2.1 = some (t_MN k) := by decide +kernel
theorem i_MN : ∀ w ∈ u_ws R_MN T_MN 2, w ∈ lw_R := (List.forall_mem_cons.mpr ⟨k9_11, (List.forall_mem_cons.mpr ⟨k9_13, (fun _ h => absurd h List.not_mem_nil)⟩)⟩)
def R_MG : String := "ChanceArenaModel$Game"
def T_MG : u_T := fun k => match k with
  | 0 => ("ChanceArenaModel$Game", "sort", "LChanceArenaModel$Numbers;", true)
  | 1 => ("ChanceArenaModel$Game", "place", "LChanceArenaModel$Numbers;", true)
  | 2 => ("ChanceArenaModel$Game", "from", "LChanceArenaModel$Numbers;", true)
  | 3 => ("ChanceArenaModel$Game", "value", "LChanceArenaModel$Numbers;", true)
  | 4 => ("ChanceArenaModel$Game", "firstPart", "LChanceArenaModel$Numbers;", true)
  | 5 => ("ChanceArenaModel$Game", "nextPart", "LChanceArenaModel$Numbers;", true)
  | 6 => ("ChanceArenaModel$Game", "rules", "I", false)
  | 7 => ("ChanceArenaModel$Game", "isFormula", "[Z", true)
  | 8 => ("ChanceArenaModel$Game", "isTruth", "[Z", true)
  | 9 => ("ChanceArenaModel$Game", "rootOf", "[I", true)
  | 10 => ("ChanceArenaModel$Game", "above", "[J", true)
  | 11 => ("ChanceArenaModel$Game", "below", "[J", true)
  | 12 => ("ChanceArenaModel$Game", "vars", "I", false)
  | 13 => ("ChanceArenaModel$Game", "isBool", "[Z", true)
  | 14 => ("ChanceArenaModel$Game", "least", "[I", true)
  | 15 => ("ChanceArenaModel$Game", "greatest", "[I", true)
  | 16 => ("ChanceArenaModel$Game", "begin", "[I", true)
  | 17 => ("ChanceArenaModel$Game", "target", "I", false)
  | 18 => ("ChanceArenaModel$Game", "commands", "I", false)
  | 19 => ("ChanceArenaModel$Game", "isMin", "[Z", true)
  | 20 => ("ChanceArenaModel$Game", "commandPlace", "[I", true)
  | 21 => ("ChanceArenaModel$Game", "guard", "[I", true)
  | 22 => ("ChanceArenaModel$Game", "branches", "[I", true)
  | 23 => ("ChanceArenaModel$Game", "chance", "[I", true)
  | 24 => ("ChanceArenaModel$Game", "branchPlace", "[I", true)
  | 25 => ("ChanceArenaModel$Game", "firstSet", "[I", true)
  | 26 => ("ChanceArenaModel$Game", "manySets", "[I", true)
  | 27 => ("ChanceArenaModel$Game", "setVar", "LChanceArenaModel$Numbers;", true)
  | 28 => ("ChanceArenaModel$Game", "setPlace", "LChanceArenaModel$Numbers;", true)
  | _ => ("ChanceArenaModel$Game", "setRule", "LChanceArenaModel$Numbers;", true)
def t_MG : Nat → FieldType := fun k => match k with
  | 0 => .object "ChanceArenaModel$Numbers"
  | 1 => .object "ChanceArenaModel$Numbers"
  | 2 => .object "ChanceArenaModel$Numbers"
  | 3 => .object "ChanceArenaModel$Numbers"
  | 4 => .object "ChanceArenaModel$Numbers"
  | 5 => .object "ChanceArenaModel$Numbers"
  | 6 => .int
  | 7 => .array .boolean
  | 8 => .array .boolean
  | 9 => .array .int
  | 10 => .array .long
  | 11 => .array .long
  | 12 => .int
  | 13 => .array .boolean
  | 14 => .array .int
  | 15 => .array .int
  | 16 => .array .int
  | 17 => .int
  | 18 => .int
  | 19 => .array .boolean
  | 20 => .array .int
  | 21 => .array .int
  | 22 => .array .int
  | 23 => .array .int
  | 24 => .array .int
  | 25 => .array .int
  | 26 => .array .int
  | 27 => .object "ChanceArenaModel$Numbers"
  | 28 => .object "ChanceArenaModel$Numbers"
  | _ => .object "ChanceArenaModel$Numbers"
theorem n_MG : ∀ a, a < 30 → ∀ b, b < 30 → a ≠ b → (T_MG a).2.1 ≠ (T_MG b).2.1 := zNi [1936683636, 482854658917, 1718775661, 508440638821, 1889166157983103677044, 7954896757779952244, 491596309875, 1945214576839487745121, 29681679089366120, 125822936829798, 418263299685, 422608400247, 1986097779, 115943756754796, 465557353332, 7454131802490631028, 422608071022, 127961880028532, 7165065848723235955, 452906019182, 30773723493952781633510794085, 444350952036, 7093839489804035443, 109299962372965, 119014877389772009993495397, 7379555304621696372, 7881702290244334707, 126879580709234, 8315180175774016357, 32481172595764325] (by decide +kernel)
theorem o_MG : ∀ k, k < 30 → parseFieldDescriptor (T_MG k).2.2.1 = some (t_MG k) := by decide +kernel
theorem i_MG : ∀ w ∈ u_ws R_MG T_MG 30, w ∈ lw_R := (List.forall_mem_cons.mpr ⟨k9_84, (List.forall_mem_cons.mpr ⟨k9_86, (List.forall_mem_cons.mpr ⟨k9_88, (List.forall_mem_cons.mpr ⟨k9_90, (List.forall_mem_cons.mpr ⟨k9_92, (List.forall_mem_cons.mpr ⟨k9_94, (List.forall_mem_cons.mpr ⟨k9_96, (List.forall_mem_cons.mpr ⟨k9_98, (List.forall_mem_cons.mpr ⟨k9_100, (List.forall_mem_cons.mpr ⟨k9_102, (List.forall_mem_cons.mpr ⟨k9_104, (List.forall_mem_cons.mpr ⟨k9_106, (List.forall_mem_cons.mpr ⟨k9_108, (List.forall_mem_cons.mpr ⟨k9_110, (List.forall_mem_cons.mpr ⟨k9_112, (List.forall_mem_cons.mpr ⟨k9_114, (List.forall_mem_cons.mpr ⟨k9_116, (List.forall_mem_cons.mpr ⟨k9_118, (List.forall_mem_cons.mpr ⟨k9_120, (List.forall_mem_cons.mpr ⟨k9_122, (List.forall_mem_cons.mpr ⟨k9_124, (List.forall_mem_cons.mpr ⟨k9_126, (List.forall_mem_cons.mpr ⟨k9_128, (List.forall_mem_cons.mpr ⟨k9_130, (List.forall_mem_cons.mpr ⟨k9_132, (List.forall_mem_cons.mpr ⟨k9_134, (List.forall_mem_cons.mpr ⟨k9_136, (List.forall_mem_cons.mpr ⟨k9_138, (List.forall_mem_cons.mpr ⟨k9_140, (List.forall_mem_cons.mpr ⟨k9_142, (fun _ h => absurd h List.not_mem_nil)⟩)⟩)⟩)⟩)⟩)⟩)⟩)⟩)⟩)⟩)⟩)⟩)⟩)⟩)⟩)⟩)⟩)⟩)⟩)⟩)⟩)⟩)⟩)⟩)⟩)⟩)⟩)⟩)⟩)⟩)
def R_MS : String := "ChanceArenaModel$Solver"
def T_MS : u_T := fun k => match k with
  | 0 => ("ChanceArenaModel$Solver", "sums", "LChanceArenaModel$Sums;", true)
  | 1 => ("ChanceArenaModel$Solver", "states", "I", false)
  | 2 => ("ChanceArenaModel$Solver", "commands", "I", false)
  | 3 => ("ChanceArenaModel$Solver", "branches", "I", false)
  | 4 => ("ChanceArenaModel$Solver", "kinds", "[I", true)
  | 5 => ("ChanceArenaModel$Solver", "firstCommands", "[I", true)
  | 6 => ("ChanceArenaModel$Solver", "multiples", "[I", true)
  | 7 => ("ChanceArenaModel$Solver", "firstBranches", "[I", true)
  | 8 => ("ChanceArenaModel$Solver", "targets", "[I", true)
  | 9 => ("ChanceArenaModel$Solver", "ups", "[I", true)
  | 10 => ("ChanceArenaModel$Solver", "downs", "[I", true)
  | 11 => ("ChanceArenaModel$Solver", "fractions", "[LChanceArenaModel$Fraction;", true)
  | 12 => ("ChanceArenaModel$Solver", "has", "[Z", true)
  | 13 => ("ChanceArenaModel$Solver", "next", "[LChanceArenaModel$Fraction;", true)
  | 14 => ("ChanceArenaModel$Solver", "told", "[I", true)
  | 15 => ("ChanceArenaModel$Solver", "choices", "[I", true)
  | 16 => ("ChanceArenaModel$Solver", "ranks", "[I", true)
  | 17 => ("ChanceArenaModel$Solver", "kept", "I", false)
  | 18 => ("ChanceArenaModel$Solver", "plays", "[I", true)
  | 19 => ("ChanceArenaModel$Solver", "inside", "[Z", true)
  | 20 => ("ChanceArenaModel$Solver", "fixed", "[Z", true)
  | 21 => ("ChanceArenaModel$Solver", "values", "[LChanceArenaModel$Fraction;", true)
  | 22 => ("ChanceArenaModel$Solver", "unknown", "[I", true)
  | 23 => ("ChanceArenaModel$Solver", "rowOf", "[I", true)
  | 24 => ("ChanceArenaModel$Solver", "count", "I", false)
  | 25 => ("ChanceArenaModel$Solver", "cells", "[LChanceArenaModel$Fraction;", true)
  | 26 => ("ChanceArenaModel$Solver", "chance", "LChanceArenaModel$Fraction;", true)
  | 27 => ("ChanceArenaModel$Solver", "factor", "LChanceArenaModel$Fraction;", true)
  | 28 => ("ChanceArenaModel$Solver", "worth", "LChanceArenaModel$Fraction;", true)
  | 29 => ("ChanceArenaModel$Solver", "other", "LChanceArenaModel$Fraction;", true)
  | 30 => ("ChanceArenaModel$Solver", "best", "LChanceArenaModel$Fraction;", true)
  | _ => ("ChanceArenaModel$Solver", "digits", "[I", true)
def t_MS : Nat → FieldType := fun k => match k with
  | 0 => .object "ChanceArenaModel$Sums"
  | 1 => .int
  | 2 => .int
  | 3 => .int
  | 4 => .array .int
  | 5 => .array .int
  | 6 => .array .int
  | 7 => .array .int
  | 8 => .array .int
  | 9 => .array .int
  | 10 => .array .int
  | 11 => .array (.object "ChanceArenaModel$Fraction")
  | 12 => .array .boolean
  | 13 => .array (.object "ChanceArenaModel$Fraction")
  | 14 => .array .int
  | 15 => .array .int
  | 16 => .array .int
  | 17 => .int
  | 18 => .array .int
  | 19 => .array .boolean
  | 20 => .array .boolean
  | 21 => .array (.object "ChanceArenaModel$Fraction")
  | 22 => .array .int
  | 23 => .array .int
  | 24 => .int
  | 25 => .array (.object "ChanceArenaModel$Fraction")
  | 26 => .object "ChanceArenaModel$Fraction"
  | 27 => .object "ChanceArenaModel$Fraction"
  | 28 => .object "ChanceArenaModel$Fraction"
  | 29 => .object "ChanceArenaModel$Fraction"
  | 30 => .object "ChanceArenaModel$Fraction"
  | _ => .array .int
theorem n_MS : ∀ a, a < 32 → ∀ b, b < 32 → a ≠ b → (T_MS a).2.1 ≠ (T_MS b).2.1 := zNi [1937075571, 126943688418675, 7165065848723235955, 7093839489804035443, 461330343027, 8113906865246466799882518553715, 2019156369830469985651, 8113906865246395573523599353203, 32758241287304307, 7696499, 431366827635, 1889809873663075249779, 6840691, 1852143732, 1953459300, 27980850413135219, 491260898163, 1801810036, 482854664563, 115923103605861, 439856162148, 130160803538291, 33053979968501614, 491496361830, 427071729268, 426903366771, 109299962372965, 112568466435954, 512970880104, 478694368626, 1650815860, 110403869308019] (by decide +kernel)
theorem o_MS : ∀ k, k < 32 → parseFieldDescriptor (T_MS k).2.2.1 = some (t_MS k) := by decide +kernel
theorem i_MS : ∀ w ∈ u_ws R_MS T_MS 32, w ∈ lw_R := (List.forall_mem_cons.mpr ⟨k10_16, (List.forall_mem_cons.mpr ⟨k10_18, (List.forall_mem_cons.mpr ⟨k10_20, (List.forall_mem_cons.mpr ⟨k10_22, (List.forall_mem_cons.mpr ⟨k10_24, (List.forall_mem_cons.mpr ⟨k10_26, (List.forall_mem_cons.mpr ⟨k10_28, (List.forall_mem_cons.mpr ⟨k10_30, (List.forall_mem_cons.mpr ⟨k10_32, (List.forall_mem_cons.mpr ⟨k10_34, (List.forall_mem_cons.mpr ⟨k10_36, (List.forall_mem_cons.mpr ⟨k10_38, (List.forall_mem_cons.mpr ⟨k10_40, (List.forall_mem_cons.mpr ⟨k10_42, (List.forall_mem_cons.mpr ⟨k10_44, (List.forall_mem_cons.mpr ⟨k10_46, (List.forall_mem_cons.mpr ⟨k10_48, (List.forall_mem_cons.mpr ⟨k10_50, (List.forall_mem_cons.mpr ⟨k10_52, (List.forall_mem_cons.mpr ⟨k10_54, (List.forall_mem_cons.mpr ⟨k10_56, (List.forall_mem_cons.mpr ⟨k10_58, (List.forall_mem_cons.mpr ⟨k10_60, (List.forall_mem_cons.mpr ⟨k10_62, (List.forall_mem_cons.mpr ⟨k10_64, (List.forall_mem_cons.mpr ⟨k10_66, (List.forall_mem_cons.mpr ⟨k10_68, (List.forall_mem_cons.mpr ⟨k10_70, (List.forall_mem_cons.mpr ⟨k10_72, (List.forall_mem_cons.mpr ⟨k10_74, (List.forall_mem_cons.mpr ⟨k10_76, (List.forall_mem_cons.mpr ⟨k10_78, (fun _ h => absurd h List.not_mem_nil)⟩)⟩)⟩)⟩)⟩)⟩)⟩)⟩)⟩)⟩)⟩)⟩)⟩)⟩)⟩)⟩)⟩)⟩)⟩)⟩)⟩)⟩)⟩)⟩)⟩)⟩)⟩)⟩)⟩)⟩)⟩)⟩)
def R_MU : String := "ChanceArenaModel$Sums"
def T_MU : u_T := fun k => match k with
  | 0 => ("ChanceArenaModel$Sums", "made", "LChanceArenaModel$Fraction;", true)
  | 1 => ("ChanceArenaModel$Sums", "sum", "LChanceArenaModel$Fraction;", true)
  | 2 => ("ChanceArenaModel$Sums", "x", "LChanceArenaModel$Whole;", true)
  | 3 => ("ChanceArenaModel$Sums", "y", "LChanceArenaModel$Whole;", true)
  | 4 => ("ChanceArenaModel$Sums", "z", "LChanceArenaModel$Whole;", true)
  | 5 => ("ChanceArenaModel$Sums", "quotient", "LChanceArenaModel$Whole;", true)
  | _ => ("ChanceArenaModel$Sums", "rest", "LChanceArenaModel$Whole;", true)
def t_MU : Nat → FieldType := fun k => match k with
  | 0 => .object "ChanceArenaModel$Fraction"
  | 1 => .object "ChanceArenaModel$Fraction"
  | 2 => .object "ChanceArenaModel$Whole"
  | 3 => .object "ChanceArenaModel$Whole"
  | 4 => .object "ChanceArenaModel$Whole"
  | 5 => .object "ChanceArenaModel$Whole"
  | _ => .object "ChanceArenaModel$Whole"
theorem n_MU : ∀ a, a < 7 → ∀ b, b < 7 → a ≠ b → (T_MU a).2.1 ≠ (T_MU b).2.1 := zNi [1835099237, 7566701, 120, 121, 122, 8175563244336148084, 1919251316] (by decide +kernel)
theorem o_MU : ∀ k, k < 7 → parseFieldDescriptor (T_MU k).2.2.1 = some (t_MU k) := by decide +kernel
theorem i_MU : ∀ w ∈ u_ws R_MU T_MU 7, w ∈ lw_R := (List.forall_mem_cons.mpr ⟨k9_206, (List.forall_mem_cons.mpr ⟨k9_208, (List.forall_mem_cons.mpr ⟨k9_210, (List.forall_mem_cons.mpr ⟨k9_212, (List.forall_mem_cons.mpr ⟨k9_214, (List.forall_mem_cons.mpr ⟨k9_216, (List.forall_mem_cons.mpr ⟨k9_218, (fun _ h => absurd h List.not_mem_nil)⟩)⟩)⟩)⟩)⟩)⟩)⟩)
def R_MF : String := "ChanceArenaModel$Fraction"
def T_MF : u_T := fun k => match k with
  | 0 => ("ChanceArenaModel$Fraction", "top", "LChanceArenaModel$Whole;", true)
  | 1 => ("ChanceArenaModel$Fraction", "bottom", "LChanceArenaModel$Whole;", true)
  | _ => ("ChanceArenaModel$Fraction", "below", "Z", false)
def t_MF : Nat → FieldType := fun k => match k with
  | 0 => .object "ChanceArenaModel$Whole"
  | 1 => .object "ChanceArenaModel$Whole"
  | _ => .boolean
theorem n_MF : ∀ a, a < 3 → ∀ b, b < 3 → a ≠ b → (T_MF a).2.1 ≠ (T_MF b).2.1 := zNi [7630704, 108230834679661, 422608400247] (by decide +kernel)
theorem o_MF : ∀ k, k < 3 → parseFieldDescriptor (T_MF k).2.2.1 = some (t_MF k) := by decide +kernel
theorem i_MF : ∀ w ∈ u_ws R_MF T_MF 3, w ∈ lw_R := (List.forall_mem_cons.mpr ⟨k9_189, (List.forall_mem_cons.mpr ⟨k9_191, (List.forall_mem_cons.mpr ⟨k9_193, (fun _ h => absurd h List.not_mem_nil)⟩)⟩)⟩)
def R_MW : String := "ChanceArenaModel$Whole"
def T_MW : u_T := fun k => match k with
  | 0 => ("ChanceArenaModel$Whole", "parts", "[I", true)
  | _ => ("ChanceArenaModel$Whole", "n", "I", false)
def t_MW : Nat → FieldType := fun k => match k with
  | 0 => .array .int
  | _ => .int
theorem n_MW : ∀ a, a < 2 → ∀ b, b < 2 → a ≠ b → (T_MW a).2.1 ≠ (T_MW b).2.1 := zNi [482671228019, 110] (by decide +kernel)
theorem o_MW : ∀ k, k < 2 → parseFieldDescriptor (T_MW k).2.2.1 = some (t_MW k) := by decide +kernel
theorem i_MW : ∀ w ∈ u_ws R_MW T_MW 2, w ∈ lw_R := (List.forall_mem_cons.mpr ⟨k9_171, (List.forall_mem_cons.mpr ⟨k9_173, (fun _ h => absurd h List.not_mem_nil)⟩)⟩)
abbrev vwCl : List vw_C := [(R_CA, T_CA, 19), (R_Wo, T_Wo, 6), (R_TR, T_TR, 9), (R_RR, T_RR, 20), (R_Ma, T_Ma, 16), (R_Pr, T_Pr, 20), (R_Ga, T_Ga, 19), (R_So, T_So, 18), (R_Sc, T_Sc, 11), (R_Na, T_Na, 2), (R_Fr, T_Fr, 3), (R_Re, T_Re, 7), (R_Fs, T_Fs, 2), (R_MM, T_MM, 49), (R_MN, T_MN, 2), (R_MG, T_MG, 30), (R_MS, T_MS, 32), (R_MU, T_MU, 7), (R_MF, T_MF, 3), (R_MW, T_MW, 2)]
