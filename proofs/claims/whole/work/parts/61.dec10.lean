theorem k12_85 : (Jvm.Cond.code ({ cls := "ChanceArenaModel", name := "stateOf", desc := "()I" } : Jvm.MethodName) prog_15_method_86_code (4 : Nat) (Option.some Jvm.ClassFile.FieldType.int)) ∈ lw_R := zR (zk_12 _ (List.mem_of_getElem? (i := 85) (by decide +kernel))) rfl
theorem d_MM_stateOf_0 : decode prog_15_method_86_code 0 = .ok (.iconst 0, 1) := by decide +kernel
theorem d_MM_stateOf_1 : decode prog_15_method_86_code 1 = .ok (.istore_n 1, 1) := by decide +kernel
theorem d_MM_stateOf_2 : decode prog_15_method_86_code 2 = .ok (.iload_n 1, 1) := by decide +kernel
theorem d_MM_stateOf_3 : decode prog_15_method_86_code 3 = .ok (.aload_n 0, 1) := by decide +kernel
theorem d_MM_stateOf_4 : decode prog_15_method_86_code 4 = .ok (.getfield 532, 3) := by decide +kernel
theorem d_MM_stateOf_7 : decode prog_15_method_86_code 7 = .ok (.if_icmp .ge 66, 3) := by decide +kernel
theorem d_MM_stateOf_73 : decode prog_15_method_86_code 73 = .ok (.aload_n 0, 1) := by decide +kernel
theorem d_MM_stateOf_74 : decode prog_15_method_86_code 74 = .ok (.getfield 532, 3) := by decide +kernel
theorem d_MM_stateOf_77 : decode prog_15_method_86_code 77 = .ok (.sipush 512, 3) := by decide +kernel
theorem d_MM_stateOf_80 : decode prog_15_method_86_code 80 = .ok (.if_icmp .ne 5, 3) := by decide +kernel
theorem d_MM_stateOf_85 : decode prog_15_method_86_code 85 = .ok (.iconst 0, 1) := by decide +kernel
theorem d_MM_stateOf_86 : decode prog_15_method_86_code 86 = .ok (.istore_n 1, 1) := by decide +kernel
theorem d_MM_stateOf_83 : decode prog_15_method_86_code 83 = .ok (.iconst (-1), 1) := by decide +kernel
theorem d_MM_stateOf_84 : decode prog_15_method_86_code 84 = .ok (.ireturn, 1) := by decide +kernel
theorem d_MM_stateOf_10 : decode prog_15_method_86_code 10 = .ok (.iconst 1, 1) := by decide +kernel
theorem d_MM_stateOf_11 : decode prog_15_method_86_code 11 = .ok (.istore_n 2, 1) := by decide +kernel
theorem d_MM_stateOf_12 : decode prog_15_method_86_code 12 = .ok (.iconst 0, 1) := by decide +kernel
theorem d_MM_stateOf_13 : decode prog_15_method_86_code 13 = .ok (.istore_n 3, 1) := by decide +kernel
theorem d_MM_stateOf_14 : decode prog_15_method_86_code 14 = .ok (.iload_n 3, 1) := by decide +kernel
theorem d_MM_stateOf_15 : decode prog_15_method_86_code 15 = .ok (.aload_n 0, 1) := by decide +kernel
theorem d_MM_stateOf_16 : decode prog_15_method_86_code 16 = .ok (.getfield 34, 3) := by decide +kernel
theorem d_MM_stateOf_19 : decode prog_15_method_86_code 19 = .ok (.getfield 456, 3) := by decide +kernel
theorem d_MM_stateOf_22 : decode prog_15_method_86_code 22 = .ok (.if_icmp .ge 39, 3) := by decide +kernel
theorem d_MM_stateOf_61 : decode prog_15_method_86_code 61 = .ok (.iload_n 2, 1) := by decide +kernel
theorem d_MM_stateOf_62 : decode prog_15_method_86_code 62 = .ok (.ifCond .eq 5, 3) := by decide +kernel
theorem d_MM_stateOf_67 : decode prog_15_method_86_code 67 = .ok (.iinc 1 1, 3) := by decide +kernel
theorem d_MM_stateOf_70 : decode prog_15_method_86_code 70 = .ok (.goto (-68), 3) := by decide +kernel
theorem d_MM_stateOf_65 : decode prog_15_method_86_code 65 = .ok (.iload_n 1, 1) := by decide +kernel
theorem d_MM_stateOf_66 : decode prog_15_method_86_code 66 = .ok (.ireturn, 1) := by decide +kernel
theorem d_MM_stateOf_25 : decode prog_15_method_86_code 25 = .ok (.iload_n 2, 1) := by decide +kernel
theorem d_MM_stateOf_26 : decode prog_15_method_86_code 26 = .ok (.ifCond .eq 35, 3) := by decide +kernel
theorem d_MM_stateOf_29 : decode prog_15_method_86_code 29 = .ok (.aload_n 0, 1) := by decide +kernel
theorem d_MM_stateOf_30 : decode prog_15_method_86_code 30 = .ok (.getfield 90, 3) := by decide +kernel
theorem d_MM_stateOf_33 : decode prog_15_method_86_code 33 = .ok (.bipush 12, 2) := by decide +kernel
theorem d_MM_stateOf_35 : decode prog_15_method_86_code 35 = .ok (.iload_n 1, 1) := by decide +kernel
theorem d_MM_stateOf_36 : decode prog_15_method_86_code 36 = .ok (.imul, 1) := by decide +kernel
theorem d_MM_stateOf_37 : decode prog_15_method_86_code 37 = .ok (.iload_n 3, 1) := by decide +kernel
theorem d_MM_stateOf_38 : decode prog_15_method_86_code 38 = .ok (.iadd, 1) := by decide +kernel
theorem d_MM_stateOf_39 : decode prog_15_method_86_code 39 = .ok (.iaload, 1) := by decide +kernel
theorem d_MM_stateOf_40 : decode prog_15_method_86_code 40 = .ok (.aload_n 0, 1) := by decide +kernel
theorem d_MM_stateOf_41 : decode prog_15_method_86_code 41 = .ok (.getfield 130, 3) := by decide +kernel
theorem d_MM_stateOf_44 : decode prog_15_method_86_code 44 = .ok (.iload_n 3, 1) := by decide +kernel
theorem d_MM_stateOf_45 : decode prog_15_method_86_code 45 = .ok (.iaload, 1) := by decide +kernel
theorem d_MM_stateOf_46 : decode prog_15_method_86_code 46 = .ok (.if_icmp .ne 7, 3) := by decide +kernel
theorem d_MM_stateOf_53 : decode prog_15_method_86_code 53 = .ok (.iconst 0, 1) := by decide +kernel
theorem d_MM_stateOf_54 : decode prog_15_method_86_code 54 = .ok (.istore_n 2, 1) := by decide +kernel
theorem d_MM_stateOf_55 : decode prog_15_method_86_code 55 = .ok (.iinc 3 1, 3) := by decide +kernel
theorem d_MM_stateOf_58 : decode prog_15_method_86_code 58 = .ok (.goto (-44), 3) := by decide +kernel
theorem d_MM_stateOf_49 : decode prog_15_method_86_code 49 = .ok (.iconst 1, 1) := by decide +kernel
theorem d_MM_stateOf_50 : decode prog_15_method_86_code 50 = .ok (.goto 4, 3) := by decide +kernel
theorem d_MM_stateOf_87 : decode prog_15_method_86_code 87 = .ok (.iload_n 1, 1) := by decide +kernel
theorem d_MM_stateOf_88 : decode prog_15_method_86_code 88 = .ok (.aload_n 0, 1) := by decide +kernel
theorem d_MM_stateOf_89 : decode prog_15_method_86_code 89 = .ok (.getfield 34, 3) := by decide +kernel
theorem d_MM_stateOf_92 : decode prog_15_method_86_code 92 = .ok (.getfield 456, 3) := by decide +kernel
theorem d_MM_stateOf_95 : decode prog_15_method_86_code 95 = .ok (.if_icmp .ge 29, 3) := by decide +kernel
theorem d_MM_stateOf_124 : decode prog_15_method_86_code 124 = .ok (.aload_n 0, 1) := by decide +kernel
theorem d_MM_stateOf_125 : decode prog_15_method_86_code 125 = .ok (.aload_n 0, 1) := by decide +kernel
theorem d_MM_stateOf_126 : decode prog_15_method_86_code 126 = .ok (.getfield 532, 3) := by decide +kernel
theorem d_MM_stateOf_129 : decode prog_15_method_86_code 129 = .ok (.iconst 1, 1) := by decide +kernel
theorem d_MM_stateOf_130 : decode prog_15_method_86_code 130 = .ok (.iadd, 1) := by decide +kernel
theorem d_MM_stateOf_131 : decode prog_15_method_86_code 131 = .ok (.putfield 532, 3) := by decide +kernel
theorem d_MM_stateOf_134 : decode prog_15_method_86_code 134 = .ok (.aload_n 0, 1) := by decide +kernel
theorem d_MM_stateOf_135 : decode prog_15_method_86_code 135 = .ok (.getfield 532, 3) := by decide +kernel
theorem d_MM_stateOf_138 : decode prog_15_method_86_code 138 = .ok (.iconst 1, 1) := by decide +kernel
theorem d_MM_stateOf_139 : decode prog_15_method_86_code 139 = .ok (.isub, 1) := by decide +kernel
theorem d_MM_stateOf_140 : decode prog_15_method_86_code 140 = .ok (.ireturn, 1) := by decide +kernel
theorem d_MM_stateOf_98 : decode prog_15_method_86_code 98 = .ok (.aload_n 0, 1) := by decide +kernel
theorem d_MM_stateOf_99 : decode prog_15_method_86_code 99 = .ok (.getfield 90, 3) := by decide +kernel
theorem d_MM_stateOf_102 : decode prog_15_method_86_code 102 = .ok (.bipush 12, 2) := by decide +kernel
theorem d_MM_stateOf_104 : decode prog_15_method_86_code 104 = .ok (.aload_n 0, 1) := by decide +kernel
theorem d_MM_stateOf_105 : decode prog_15_method_86_code 105 = .ok (.getfield 532, 3) := by decide +kernel
theorem d_MM_stateOf_108 : decode prog_15_method_86_code 108 = .ok (.imul, 1) := by decide +kernel
theorem d_MM_stateOf_109 : decode prog_15_method_86_code 109 = .ok (.iload_n 1, 1) := by decide +kernel
theorem d_MM_stateOf_110 : decode prog_15_method_86_code 110 = .ok (.iadd, 1) := by decide +kernel
theorem d_MM_stateOf_111 : decode prog_15_method_86_code 111 = .ok (.aload_n 0, 1) := by decide +kernel
theorem d_MM_stateOf_112 : decode prog_15_method_86_code 112 = .ok (.getfield 130, 3) := by decide +kernel
theorem d_MM_stateOf_115 : decode prog_15_method_86_code 115 = .ok (.iload_n 1, 1) := by decide +kernel
theorem d_MM_stateOf_116 : decode prog_15_method_86_code 116 = .ok (.iaload, 1) := by decide +kernel
theorem d_MM_stateOf_117 : decode prog_15_method_86_code 117 = .ok (.iastore, 1) := by decide +kernel
theorem d_MM_stateOf_118 : decode prog_15_method_86_code 118 = .ok (.iinc 1 1, 3) := by decide +kernel
theorem d_MM_stateOf_121 : decode prog_15_method_86_code 121 = .ok (.goto (-34), 3) := by decide +kernel
theorem d_MM_variable_13 : decode prog_15_method_89_code 13 = .ok (.iload_n 2, 1) := by decide +kernel
theorem d_MM_variable_14 : decode prog_15_method_89_code 14 = .ok (.ifCond .lt 14, 3) := by decide +kernel
theorem d_MM_variable_17 : decode prog_15_method_89_code 17 = .ok (.iload_n 2, 1) := by decide +kernel
theorem d_MM_variable_18 : decode prog_15_method_89_code 18 = .ok (.aload_n 0, 1) := by decide +kernel
theorem d_MM_variable_19 : decode prog_15_method_89_code 19 = .ok (.getfield 34, 3) := by decide +kernel
theorem d_MM_variable_22 : decode prog_15_method_89_code 22 = .ok (.getfield 456, 3) := by decide +kernel
theorem d_MM_variable_25 : decode prog_15_method_89_code 25 = .ok (.if_icmp .lt 7, 3) := by decide +kernel
theorem d_MM_variable_32 : decode prog_15_method_89_code 32 = .ok (.iconst 0, 1) := by decide +kernel
theorem d_MM_variable_47 : decode prog_15_method_89_code 47 = .ok (.aload_n 0, 1) := by decide +kernel
theorem d_MM_variable_48 : decode prog_15_method_89_code 48 = .ok (.getfield 90, 3) := by decide +kernel
theorem d_MM_variable_51 : decode prog_15_method_89_code 51 = .ok (.bipush 12, 2) := by decide +kernel
theorem d_MM_variable_53 : decode prog_15_method_89_code 53 = .ok (.iload_n 1, 1) := by decide +kernel
theorem d_MM_variable_54 : decode prog_15_method_89_code 54 = .ok (.imul, 1) := by decide +kernel
theorem d_MM_variable_55 : decode prog_15_method_89_code 55 = .ok (.iload_n 2, 1) := by decide +kernel
theorem d_MM_variable_56 : decode prog_15_method_89_code 56 = .ok (.iadd, 1) := by decide +kernel
theorem d_MM_variable_57 : decode prog_15_method_89_code 57 = .ok (.iaload, 1) := by decide +kernel
theorem d_MM_kind_8 : decode prog_15_method_91_code 8 = .ok (.aload_n 0, 1) := by decide +kernel
theorem d_MM_kind_9 : decode prog_15_method_91_code 9 = .ok (.getfield 93, 3) := by decide +kernel
theorem d_MM_kind_12 : decode prog_15_method_91_code 12 = .ok (.iload_n 1, 1) := by decide +kernel
theorem d_MM_kind_13 : decode prog_15_method_91_code 13 = .ok (.iaload, 1) := by decide +kernel
theorem d_MM_kind_14 : decode prog_15_method_91_code 14 = .ok (.goto 4, 3) := by decide +kernel
theorem d_MM_commands_8 : decode prog_15_method_92_code 8 = .ok (.aload_n 0, 1) := by decide +kernel
theorem d_MM_commands_9 : decode prog_15_method_92_code 9 = .ok (.getfield 99, 3) := by decide +kernel
theorem d_MM_commands_12 : decode prog_15_method_92_code 12 = .ok (.iload_n 1, 1) := by decide +kernel
theorem d_MM_commands_13 : decode prog_15_method_92_code 13 = .ok (.iaload, 1) := by decide +kernel
theorem d_MM_commands_14 : decode prog_15_method_92_code 14 = .ok (.goto 4, 3) := by decide +kernel
theorem d_MM_isCommand_8 : decode prog_15_method_93_code 8 = .ok (.iload_n 2, 1) := by decide +kernel
theorem d_MM_isCommand_9 : decode prog_15_method_93_code 9 = .ok (.ifCond .lt 17, 3) := by decide +kernel
theorem d_MM_isCommand_12 : decode prog_15_method_93_code 12 = .ok (.iload_n 2, 1) := by decide +kernel
theorem d_MM_isCommand_13 : decode prog_15_method_93_code 13 = .ok (.aload_n 0, 1) := by decide +kernel
theorem d_MM_isCommand_14 : decode prog_15_method_93_code 14 = .ok (.getfield 99, 3) := by decide +kernel
theorem d_MM_isCommand_17 : decode prog_15_method_93_code 17 = .ok (.iload_n 1, 1) := by decide +kernel
theorem d_MM_isCommand_18 : decode prog_15_method_93_code 18 = .ok (.iaload, 1) := by decide +kernel
theorem d_MM_isCommand_19 : decode prog_15_method_93_code 19 = .ok (.if_icmp .ge 7, 3) := by decide +kernel
theorem d_MM_isCommand_22 : decode prog_15_method_93_code 22 = .ok (.iconst 1, 1) := by decide +kernel
theorem d_MM_isCommand_23 : decode prog_15_method_93_code 23 = .ok (.goto 4, 3) := by decide +kernel
def f_MM_stateOf (h0_vars_n : Nat) (h0_next_n : Nat) (h0_game_vars : Int32) (h0_next_c : Nat → Int32) : Nat → Nat → Int32 → (Nat → Int32) → Int32 → Int32 → Int32 → Option (Int32 × Int32 × (Nat → Int32))
  | 0, _, _, _, _, _, _ => none
  | n + 1, 0, h0_many, h0_vars_c, l1, l2, l3 => chk True (f_MM_stateOf h0_vars_n h0_next_n h0_game_vars h0_next_c n 1 h0_many h0_vars_c 0 0 0)
  | n + 1, 1, h0_many, h0_vars_c, l1, l2, l3 => if (h0_many : Int32) ≤ l1 then (if ¬ (h0_many : Int32) = 512 then f_MM_stateOf h0_vars_n h0_next_n h0_game_vars h0_next_c n 3 h0_many h0_vars_c 0 0 0 else some ((-1), h0_many, h0_vars_c)) else f_MM_stateOf h0_vars_n h0_next_n h0_game_vars h0_next_c n 2 h0_many h0_vars_c l1 1 0
  | n + 1, 2, h0_many, h0_vars_c, l1, l2, l3 => if (h0_game_vars : Int32) ≤ l3 then (if (l2 : Int32) = 0 then f_MM_stateOf h0_vars_n h0_next_n h0_game_vars h0_next_c n 1 h0_many h0_vars_c (l1 + Int32.ofInt 1) 0 0 else some (l1, h0_many, h0_vars_c)) else if (l2 : Int32) = 0 then (if (l2 : Int32) = 0 then f_MM_stateOf h0_vars_n h0_next_n h0_game_vars h0_next_c n 1 h0_many h0_vars_c (l1 + Int32.ofInt 1) 0 0 else some (l1, h0_many, h0_vars_c)) else chk (0 ≤ (((12 * l1) + l3) : Int32).toInt ∧ (((12 * l1) + l3) : Int32).toInt < h0_vars_n) (chk (0 ≤ (l3 : Int32).toInt ∧ (l3 : Int32).toInt < h0_next_n) (if ¬ ((h0_vars_c (((12 * l1) + l3) : Int32).toNatClampNeg) : Int32) = (h0_next_c (l3 : Int32).toNatClampNeg) then f_MM_stateOf h0_vars_n h0_next_n h0_game_vars h0_next_c n 2 h0_many h0_vars_c l1 0 (l3 + Int32.ofInt 1) else f_MM_stateOf h0_vars_n h0_next_n h0_game_vars h0_next_c n 2 h0_many h0_vars_c l1 1 (l3 + Int32.ofInt 1)))
  | n + 1, 3, h0_many, h0_vars_c, l1, l2, l3 => if (h0_game_vars : Int32) ≤ l1 then some (((h0_many + 1) - 1), (h0_many + 1), h0_vars_c) else chk (0 ≤ (l1 : Int32).toInt ∧ (l1 : Int32).toInt < h0_next_n) (chk (0 ≤ (((12 * h0_many) + l1) : Int32).toInt ∧ (((12 * h0_many) + l1) : Int32).toInt < h0_vars_n) (f_MM_stateOf h0_vars_n h0_next_n h0_game_vars h0_next_c n 3 h0_many (upd h0_vars_c (((12 * h0_many) + l1) : Int32).toNatClampNeg (h0_next_c (l1 : Int32).toNatClampNeg)) (l1 + Int32.ofInt 1) 0 0))
  | _ + 1, _ + 4, _, _, _, _, _ => none
theorem e_MM_stateOf_0 (h0_vars_n : Nat) (h0_next_n : Nat) (h0_game_vars : Int32) (h0_next_c : Nat → Int32) (n : Nat) (h0_many : Int32) (h0_vars_c : Nat → Int32) (l1 : Int32) (l2 : Int32) (l3 : Int32) : f_MM_stateOf h0_vars_n h0_next_n h0_game_vars h0_next_c (n + 1) 0 h0_many h0_vars_c l1 l2 l3 = chk True (f_MM_stateOf h0_vars_n h0_next_n h0_game_vars h0_next_c n 1 h0_many h0_vars_c 0 0 0) := by rw [f_MM_stateOf]
theorem e_MM_stateOf_1 (h0_vars_n : Nat) (h0_next_n : Nat) (h0_game_vars : Int32) (h0_next_c : Nat → Int32) (n : Nat) (h0_many : Int32) (h0_vars_c : Nat → Int32) (l1 : Int32) (l2 : Int32) (l3 : Int32) : f_MM_stateOf h0_vars_n h0_next_n h0_game_vars h0_next_c (n + 1) 1 h0_many h0_vars_c l1 l2 l3 = if (h0_many : Int32) ≤ l1 then (if ¬ (h0_many : Int32) = 512 then f_MM_stateOf h0_vars_n h0_next_n h0_game_vars h0_next_c n 3 h0_many h0_vars_c 0 0 0 else some ((-1), h0_many, h0_vars_c)) else f_MM_stateOf h0_vars_n h0_next_n h0_game_vars h0_next_c n 2 h0_many h0_vars_c l1 1 0 := by rw [f_MM_stateOf]
theorem e_MM_stateOf_2 (h0_vars_n : Nat) (h0_next_n : Nat) (h0_game_vars : Int32) (h0_next_c : Nat → Int32) (n : Nat) (h0_many : Int32) (h0_vars_c : Nat → Int32) (l1 : Int32) (l2 : Int32) (l3 : Int32) : f_MM_stateOf h0_vars_n h0_next_n h0_game_vars h0_next_c (n + 1) 2 h0_many h0_vars_c l1 l2 l3 = if (h0_game_vars : Int32) ≤ l3 then (if (l2 : Int32) = 0 then f_MM_stateOf h0_vars_n h0_next_n h0_game_vars h0_next_c n 1 h0_many h0_vars_c (l1 + Int32.ofInt 1) 0 0 else some (l1, h0_many, h0_vars_c)) else if (l2 : Int32) = 0 then (if (l2 : Int32) = 0 then f_MM_stateOf h0_vars_n h0_next_n h0_game_vars h0_next_c n 1 h0_many h0_vars_c (l1 + Int32.ofInt 1) 0 0 else some (l1, h0_many, h0_vars_c)) else chk (0 ≤ (((12 * l1) + l3) : Int32).toInt ∧ (((12 * l1) + l3) : Int32).toInt < h0_vars_n) (chk (0 ≤ (l3 : Int32).toInt ∧ (l3 : Int32).toInt < h0_next_n) (if ¬ ((h0_vars_c (((12 * l1) + l3) : Int32).toNatClampNeg) : Int32) = (h0_next_c (l3 : Int32).toNatClampNeg) then f_MM_stateOf h0_vars_n h0_next_n h0_game_vars h0_next_c n 2 h0_many h0_vars_c l1 0 (l3 + Int32.ofInt 1) else f_MM_stateOf h0_vars_n h0_next_n h0_game_vars h0_next_c n 2 h0_many h0_vars_c l1 1 (l3 + Int32.ofInt 1))) := by rw [f_MM_stateOf]
theorem e_MM_stateOf_3 (h0_vars_n : Nat) (h0_next_n : Nat) (h0_game_vars : Int32) (h0_next_c : Nat → Int32) (n : Nat) (h0_many : Int32) (h0_vars_c : Nat → Int32) (l1 : Int32) (l2 : Int32) (l3 : Int32) : f_MM_stateOf h0_vars_n h0_next_n h0_game_vars h0_next_c (n + 1) 3 h0_many h0_vars_c l1 l2 l3 = if (h0_game_vars : Int32) ≤ l1 then some (((h0_many + 1) - 1), (h0_many + 1), h0_vars_c) else chk (0 ≤ (l1 : Int32).toInt ∧ (l1 : Int32).toInt < h0_next_n) (chk (0 ≤ (((12 * h0_many) + l1) : Int32).toInt ∧ (((12 * h0_many) + l1) : Int32).toInt < h0_vars_n) (f_MM_stateOf h0_vars_n h0_next_n h0_game_vars h0_next_c n 3 h0_many (upd h0_vars_c (((12 * h0_many) + l1) : Int32).toNatClampNeg (h0_next_c (l1 : Int32).toNatClampNeg)) (l1 + Int32.ofInt 1) 0 0)) := by rw [f_MM_stateOf]
theorem z_MM_stateOf (h0_vars_n : Nat) (h0_next_n : Nat) (h0_game_vars : Int32) (h0_next_c : Nat → Int32) (h : Nat) (h0_many : Int32) (h0_vars_c : Nat → Int32) (l1 : Int32) (l2 : Int32) (l3 : Int32) : f_MM_stateOf h0_vars_n h0_next_n h0_game_vars h0_next_c 0 h h0_many h0_vars_c l1 l2 l3 = none := by rw [f_MM_stateOf]
set_option maxHeartbeats 4000000 in
set_option maxRecDepth 100000 in
theorem b_MM_stateOf_0 {p : Program} {l : Launch} {e : Env} {s : State} {m : MethodId} {args : Array Value} {below : List Frame} {meth : Method} {c : Code} {D : va_G} {tA : Nat → ClassId} {A : Nat → Prop} {h0 h0_game h0_vars h0_next : Nat} {f0_h0 f0_h0_game : List Value} {h0_vars_n : Nat} {h0_next_n : Nat} {h0_game_vars : Int32} {h0_next_c : Nat → Int32} {out : Int32 × Int32 × (Nat → Int32)} (hx : p.tables.exec = Jvm.exec) (hb : c.code = prog_15_method_86_code) (hr : meth.sig.returnType = (Option.some Jvm.ClassFile.FieldType.int)) (hml : c.maxLocals = 4) (hh : zH s) (hg : ∀ w ∈ lw_R, w.before args s = true) (hown : s.vm.findClass "ChanceArenaModel" = some m.cls) (hlocks : meth.locks = false) (hK : va_K D vwCl (zT tA) s) (hA : ∀ q, s.heap.size ≤ q → A q) {n : Nat} (ih1 : ∀ (h0_many : Int32) (h0_vars_c : Nat → Int32) (l1 : Int32) (l2 : Int32) (l3 : Int32) (f_h0 : List Value) (H : Heap) (locs : List Loc) (ls : Array Slot), f_MM_stateOf h0_vars_n h0_next_n h0_game_vars h0_next_c n 1 h0_many h0_vars_c l1 l2 l3 = some out → f_h0[9]? = some (.ref h0_game) → f_h0[31]? = some (.ref h0_vars) → f_h0[44]? = some (.ref h0_next) → f_h0[29]? = some (.int h0_many) → Fr [29] f0_h0 f_h0 → f0_h0_game[12]? = some (.int h0_game_vars) → va_P D vwCl [(h0, .inr (13, f_h0)), (h0_game, .inr (15, f0_h0_game)), (h0_vars, .inl (tA 0, h0_vars_n, .inl h0_vars_c)), (h0_next, .inl (tA 0, h0_next_n, .inl h0_next_c))] H → va_D A [(h0, .inr (13, f_h0)), (h0_game, .inr (15, f0_h0_game)), (h0_vars, .inl (tA 0, h0_vars_n, .inl h0_vars_c)), (h0_next, .inl (tA 0, h0_next_n, .inl h0_next_c))] → va_S A s.heap H locs → lv_has ls 4 [(0, .ref h0), (1, .int l1)] → W p l e { frames := 0, cells := 0, slots := 0, locals := 0 } s m args below meth c H locs 0 0 (MQ below (va_Qi (fun (r9 : Int32) (u9 : List Value) => r9 = out.1 ∧ Fr [29] f0_h0 u9 ∧ u9[29]? = some (.int out.2.1)) (zPost D A (fun (u9 : List Value) => [(h0, .inr (13, u9)), (h0_game, .inr (15, f0_h0_game)), (h0_vars, .inl (tA 0, h0_vars_n, .inl out.2.2)), (h0_next, .inl (tA 0, h0_next_n, .inl h0_next_c))])) A) args s 0 0 A) (F0 m 2 ls [])) : ∀ (h0_many : Int32) (h0_vars_c : Nat → Int32) (l1 : Int32) (l2 : Int32) (l3 : Int32) (f_h0 : List Value) (H : Heap) (locs : List Loc) (ls : Array Slot), f_MM_stateOf h0_vars_n h0_next_n h0_game_vars h0_next_c (n + 1) 0 h0_many h0_vars_c l1 l2 l3 = some out → f_h0[9]? = some (.ref h0_game) → f_h0[31]? = some (.ref h0_vars) → f_h0[44]? = some (.ref h0_next) → f_h0[29]? = some (.int h0_many) → Fr [29] f0_h0 f_h0 → f0_h0_game[12]? = some (.int h0_game_vars) → va_P D vwCl [(h0, .inr (13, f_h0)), (h0_game, .inr (15, f0_h0_game)), (h0_vars, .inl (tA 0, h0_vars_n, .inl h0_vars_c)), (h0_next, .inl (tA 0, h0_next_n, .inl h0_next_c))] H → va_D A [(h0, .inr (13, f_h0)), (h0_game, .inr (15, f0_h0_game)), (h0_vars, .inl (tA 0, h0_vars_n, .inl h0_vars_c)), (h0_next, .inl (tA 0, h0_next_n, .inl h0_next_c))] → va_S A s.heap H locs → lv_has ls 4 [(0, .ref h0)] → W p l e { frames := 0, cells := 0, slots := 0, locals := 0 } s m args below meth c H locs 0 0 (MQ below (va_Qi (fun (r9 : Int32) (u9 : List Value) => r9 = out.1 ∧ Fr [29] f0_h0 u9 ∧ u9[29]? = some (.int out.2.1)) (zPost D A (fun (u9 : List Value) => [(h0, .inr (13, u9)), (h0_game, .inr (15, f0_h0_game)), (h0_vars, .inl (tA 0, h0_vars_n, .inl out.2.2)), (h0_next, .inl (tA 0, h0_next_n, .inl h0_next_c))])) A) args s 0 0 A) (F0 m 0 ls []) := by
  intro h0_many h0_vars_c l1 l2 l3  f_h0 H locs ls hF q_h0_game q_h0_vars q_h0_next q_h0_many r_h0 q_h0_game_vars hP hD hS hl
  rw [e_MM_stateOf_0] at hF
  obtain ⟨_, hF⟩ := chk_some hF
  refine lv_iconst (v := 0) hx hb d_MM_stateOf_0 (by decide) ?_
  refine lv_istore_n (lv' := [(1, .int 0), (0, .ref h0)]) hx hb d_MM_stateOf_1 rfl hl (by decide) rfl (fun ls hl => ?_)
  exact ih1 h0_many h0_vars_c 0 0 0  f_h0 _ _ _ hF q_h0_game q_h0_vars q_h0_next q_h0_many r_h0 q_h0_game_vars hP hD hS (lv_sub hl [1, 0] rfl)
set_option maxHeartbeats 4000000 in
set_option maxRecDepth 100000 in
theorem b_MM_stateOf_1 {p : Program} {l : Launch} {e : Env} {s : State} {m : MethodId} {args : Array Value} {below : List Frame} {meth : Method} {c : Code} {D : va_G} {tA : Nat → ClassId} {A : Nat → Prop} {h0 h0_game h0_vars h0_next : Nat} {f0_h0 f0_h0_game : List Value} {h0_vars_n : Nat} {h0_next_n : Nat} {h0_game_vars : Int32} {h0_next_c : Nat → Int32} {out : Int32 × Int32 × (Nat → Int32)} (hx : p.tables.exec = Jvm.exec) (hb : c.code = prog_15_method_86_code) (hr : meth.sig.returnType = (Option.some Jvm.ClassFile.FieldType.int)) (hml : c.maxLocals = 4) (hh : zH s) (hg : ∀ w ∈ lw_R, w.before args s = true) (hown : s.vm.findClass "ChanceArenaModel" = some m.cls) (hlocks : meth.locks = false) (hK : va_K D vwCl (zT tA) s) (hA : ∀ q, s.heap.size ≤ q → A q) {n : Nat} (ih2 : ∀ (h0_many : Int32) (h0_vars_c : Nat → Int32) (l1 : Int32) (l2 : Int32) (l3 : Int32) (f_h0 : List Value) (H : Heap) (locs : List Loc) (ls : Array Slot), f_MM_stateOf h0_vars_n h0_next_n h0_game_vars h0_next_c n 2 h0_many h0_vars_c l1 l2 l3 = some out → f_h0[9]? = some (.ref h0_game) → f_h0[31]? = some (.ref h0_vars) → f_h0[44]? = some (.ref h0_next) → f_h0[29]? = some (.int h0_many) → Fr [29] f0_h0 f_h0 → f0_h0_game[12]? = some (.int h0_game_vars) → va_P D vwCl [(h0, .inr (13, f_h0)), (h0_game, .inr (15, f0_h0_game)), (h0_vars, .inl (tA 0, h0_vars_n, .inl h0_vars_c)), (h0_next, .inl (tA 0, h0_next_n, .inl h0_next_c))] H → va_D A [(h0, .inr (13, f_h0)), (h0_game, .inr (15, f0_h0_game)), (h0_vars, .inl (tA 0, h0_vars_n, .inl h0_vars_c)), (h0_next, .inl (tA 0, h0_next_n, .inl h0_next_c))] → va_S A s.heap H locs → lv_has ls 4 [(0, .ref h0), (1, .int l1), (2, .int l2), (3, .int l3)] → W p l e { frames := 0, cells := 0, slots := 0, locals := 0 } s m args below meth c H locs 0 0 (MQ below (va_Qi (fun (r9 : Int32) (u9 : List Value) => r9 = out.1 ∧ Fr [29] f0_h0 u9 ∧ u9[29]? = some (.int out.2.1)) (zPost D A (fun (u9 : List Value) => [(h0, .inr (13, u9)), (h0_game, .inr (15, f0_h0_game)), (h0_vars, .inl (tA 0, h0_vars_n, .inl out.2.2)), (h0_next, .inl (tA 0, h0_next_n, .inl h0_next_c))])) A) args s 0 0 A) (F0 m 14 ls [])) (ih3 : ∀ (h0_many : Int32) (h0_vars_c : Nat → Int32) (l1 : Int32) (l2 : Int32) (l3 : Int32) (f_h0 : List Value) (H : Heap) (locs : List Loc) (ls : Array Slot), f_MM_stateOf h0_vars_n h0_next_n h0_game_vars h0_next_c n 3 h0_many h0_vars_c l1 l2 l3 = some out → f_h0[9]? = some (.ref h0_game) → f_h0[31]? = some (.ref h0_vars) → f_h0[44]? = some (.ref h0_next) → f_h0[29]? = some (.int h0_many) → Fr [29] f0_h0 f_h0 → f0_h0_game[12]? = some (.int h0_game_vars) → va_P D vwCl [(h0, .inr (13, f_h0)), (h0_game, .inr (15, f0_h0_game)), (h0_vars, .inl (tA 0, h0_vars_n, .inl h0_vars_c)), (h0_next, .inl (tA 0, h0_next_n, .inl h0_next_c))] H → va_D A [(h0, .inr (13, f_h0)), (h0_game, .inr (15, f0_h0_game)), (h0_vars, .inl (tA 0, h0_vars_n, .inl h0_vars_c)), (h0_next, .inl (tA 0, h0_next_n, .inl h0_next_c))] → va_S A s.heap H locs → lv_has ls 4 [(0, .ref h0), (1, .int l1)] → W p l e { frames := 0, cells := 0, slots := 0, locals := 0 } s m args below meth c H locs 0 0 (MQ below (va_Qi (fun (r9 : Int32) (u9 : List Value) => r9 = out.1 ∧ Fr [29] f0_h0 u9 ∧ u9[29]? = some (.int out.2.1)) (zPost D A (fun (u9 : List Value) => [(h0, .inr (13, u9)), (h0_game, .inr (15, f0_h0_game)), (h0_vars, .inl (tA 0, h0_vars_n, .inl out.2.2)), (h0_next, .inl (tA 0, h0_next_n, .inl h0_next_c))])) A) args s 0 0 A) (F0 m 87 ls [])) : ∀ (h0_many : Int32) (h0_vars_c : Nat → Int32) (l1 : Int32) (l2 : Int32) (l3 : Int32) (f_h0 : List Value) (H : Heap) (locs : List Loc) (ls : Array Slot), f_MM_stateOf h0_vars_n h0_next_n h0_game_vars h0_next_c (n + 1) 1 h0_many h0_vars_c l1 l2 l3 = some out → f_h0[9]? = some (.ref h0_game) → f_h0[31]? = some (.ref h0_vars) → f_h0[44]? = some (.ref h0_next) → f_h0[29]? = some (.int h0_many) → Fr [29] f0_h0 f_h0 → f0_h0_game[12]? = some (.int h0_game_vars) → va_P D vwCl [(h0, .inr (13, f_h0)), (h0_game, .inr (15, f0_h0_game)), (h0_vars, .inl (tA 0, h0_vars_n, .inl h0_vars_c)), (h0_next, .inl (tA 0, h0_next_n, .inl h0_next_c))] H → va_D A [(h0, .inr (13, f_h0)), (h0_game, .inr (15, f0_h0_game)), (h0_vars, .inl (tA 0, h0_vars_n, .inl h0_vars_c)), (h0_next, .inl (tA 0, h0_next_n, .inl h0_next_c))] → va_S A s.heap H locs → lv_has ls 4 [(0, .ref h0), (1, .int l1)] → W p l e { frames := 0, cells := 0, slots := 0, locals := 0 } s m args below meth c H locs 0 0 (MQ below (va_Qi (fun (r9 : Int32) (u9 : List Value) => r9 = out.1 ∧ Fr [29] f0_h0 u9 ∧ u9[29]? = some (.int out.2.1)) (zPost D A (fun (u9 : List Value) => [(h0, .inr (13, u9)), (h0_game, .inr (15, f0_h0_game)), (h0_vars, .inl (tA 0, h0_vars_n, .inl out.2.2)), (h0_next, .inl (tA 0, h0_next_n, .inl h0_next_c))])) A) args s 0 0 A) (F0 m 2 ls []) := by
  intro h0_many h0_vars_c l1 l2 l3  f_h0 H locs ls hF q_h0_game q_h0_vars q_h0_next q_h0_many r_h0 q_h0_game_vars hP hD hS hl
  rw [e_MM_stateOf_1] at hF
  refine lv_iload_n hx hb d_MM_stateOf_2 rfl (lv_at hl 1 rfl) ?_
  refine lv_aload_n hx hb d_MM_stateOf_3 rfl (lv_at hl 0 rfl) ?_
  refine va_get (D := D) (ci := 13) (v := .int h0_many) (C := R_MM) (T := T_MM) (N := 49) hx hb hg i_MM hown hK hP 0 rfl rfl 29 (by decide) (hg _ k10_75) (fun _ h9 => h9) q_h0_many d_MM_stateOf_4 ?_
  refine lv_icmp_ge (tgt := 73) hx hb d_MM_stateOf_7 (by decide) (fun c9 => ?_) (fun c9 => ?_)
  · replace hF := ifp c9 hF
    refine lv_aload_n hx hb d_MM_stateOf_73 rfl (lv_at hl 0 rfl) ?_
    refine va_get (D := D) (ci := 13) (v := .int h0_many) (C := R_MM) (T := T_MM) (N := 49) hx hb hg i_MM hown hK hP 0 rfl rfl 29 (by decide) (hg _ k10_75) (fun _ h9 => h9) q_h0_many d_MM_stateOf_74 ?_
    refine lv_sipush (v := 512) hx hb d_MM_stateOf_77 (by decide) ?_
    refine lv_icmp_ne (tgt := 85) hx hb d_MM_stateOf_80 (by decide) (fun c9 => ?_) (fun c9 => ?_)
    · replace hF := ifp c9 hF
      refine lv_iconst (v := 0) hx hb d_MM_stateOf_85 (by decide) ?_
      refine lv_istore_n (lv' := [(1, .int 0), (0, .ref h0)]) hx hb d_MM_stateOf_86 rfl hl (by decide) rfl (fun ls hl => ?_)
      exact ih3 h0_many h0_vars_c 0 0 0  f_h0 _ _ _ hF q_h0_game q_h0_vars q_h0_next q_h0_many r_h0 q_h0_game_vars hP hD hS (lv_sub hl [1, 0] rfl)
    · replace hF := ifn (fun h9 => h9 c9) hF
      refine lv_iconst (v := (-1)) hx hb d_MM_stateOf_83 (by decide) ?_
      replace hF := Option.some.inj hF
      subst hF
      exact zZret (post := (fun (r9 : Int32) (u9 : List Value) => r9 = ((-1), h0_many, h0_vars_c).1 ∧ Fr [29] f0_h0 u9 ∧ u9[29]? = some (.int (((-1), h0_many, h0_vars_c).2.1)))) (W1 := (fun (u9 : List Value) => [(h0, .inr (13, u9)), (h0_game, .inr (15, f0_h0_game)), (h0_vars, .inl (tA 0, h0_vars_n, .inl (((-1), h0_many, h0_vars_c).2.2))), (h0_next, .inl (tA 0, h0_next_n, .inl h0_next_c))])) (v := (-1)) hx hb hr rfl hlocks hP hD hS (f_h0) ⟨rfl, r_h0, q_h0_many⟩ rfl d_MM_stateOf_84
  · replace hF := ifn c9 hF
    refine lv_iconst (v := 1) hx hb d_MM_stateOf_10 (by decide) ?_
    refine lv_istore_n (lv' := [(2, .int 1), (0, .ref h0), (1, .int l1)]) hx hb d_MM_stateOf_11 rfl hl (by decide) rfl (fun ls hl => ?_)
    refine lv_iconst (v := 0) hx hb d_MM_stateOf_12 (by decide) ?_
    refine lv_istore_n (lv' := [(3, .int 0), (2, .int 1), (0, .ref h0), (1, .int l1)]) hx hb d_MM_stateOf_13 rfl hl (by decide) rfl (fun ls hl => ?_)
    exact ih2 h0_many h0_vars_c l1 1 0  f_h0 _ _ _ hF q_h0_game q_h0_vars q_h0_next q_h0_many r_h0 q_h0_game_vars hP hD hS (lv_sub hl [2, 3, 1, 0] rfl)
set_option maxHeartbeats 4000000 in
set_option maxRecDepth 100000 in
theorem b_MM_stateOf_2 {p : Program} {l : Launch} {e : Env} {s : State} {m : MethodId} {args : Array Value} {below : List Frame} {meth : Method} {c : Code} {D : va_G} {tA : Nat → ClassId} {A : Nat → Prop} {h0 h0_game h0_vars h0_next : Nat} {f0_h0 f0_h0_game : List Value} {h0_vars_n : Nat} {h0_next_n : Nat} {h0_game_vars : Int32} {h0_next_c : Nat → Int32} {out : Int32 × Int32 × (Nat → Int32)} (hx : p.tables.exec = Jvm.exec) (hb : c.code = prog_15_method_86_code) (hr : meth.sig.returnType = (Option.some Jvm.ClassFile.FieldType.int)) (hml : c.maxLocals = 4) (hh : zH s) (hg : ∀ w ∈ lw_R, w.before args s = true) (hown : s.vm.findClass "ChanceArenaModel" = some m.cls) (hlocks : meth.locks = false) (hK : va_K D vwCl (zT tA) s) (hA : ∀ q, s.heap.size ≤ q → A q) {n : Nat} (ih1 : ∀ (h0_many : Int32) (h0_vars_c : Nat → Int32) (l1 : Int32) (l2 : Int32) (l3 : Int32) (f_h0 : List Value) (H : Heap) (locs : List Loc) (ls : Array Slot), f_MM_stateOf h0_vars_n h0_next_n h0_game_vars h0_next_c n 1 h0_many h0_vars_c l1 l2 l3 = some out → f_h0[9]? = some (.ref h0_game) → f_h0[31]? = some (.ref h0_vars) → f_h0[44]? = some (.ref h0_next) → f_h0[29]? = some (.int h0_many) → Fr [29] f0_h0 f_h0 → f0_h0_game[12]? = some (.int h0_game_vars) → va_P D vwCl [(h0, .inr (13, f_h0)), (h0_game, .inr (15, f0_h0_game)), (h0_vars, .inl (tA 0, h0_vars_n, .inl h0_vars_c)), (h0_next, .inl (tA 0, h0_next_n, .inl h0_next_c))] H → va_D A [(h0, .inr (13, f_h0)), (h0_game, .inr (15, f0_h0_game)), (h0_vars, .inl (tA 0, h0_vars_n, .inl h0_vars_c)), (h0_next, .inl (tA 0, h0_next_n, .inl h0_next_c))] → va_S A s.heap H locs → lv_has ls 4 [(0, .ref h0), (1, .int l1)] → W p l e { frames := 0, cells := 0, slots := 0, locals := 0 } s m args below meth c H locs 0 0 (MQ below (va_Qi (fun (r9 : Int32) (u9 : List Value) => r9 = out.1 ∧ Fr [29] f0_h0 u9 ∧ u9[29]? = some (.int out.2.1)) (zPost D A (fun (u9 : List Value) => [(h0, .inr (13, u9)), (h0_game, .inr (15, f0_h0_game)), (h0_vars, .inl (tA 0, h0_vars_n, .inl out.2.2)), (h0_next, .inl (tA 0, h0_next_n, .inl h0_next_c))])) A) args s 0 0 A) (F0 m 2 ls [])) (ih2 : ∀ (h0_many : Int32) (h0_vars_c : Nat → Int32) (l1 : Int32) (l2 : Int32) (l3 : Int32) (f_h0 : List Value) (H : Heap) (locs : List Loc) (ls : Array Slot), f_MM_stateOf h0_vars_n h0_next_n h0_game_vars h0_next_c n 2 h0_many h0_vars_c l1 l2 l3 = some out → f_h0[9]? = some (.ref h0_game) → f_h0[31]? = some (.ref h0_vars) → f_h0[44]? = some (.ref h0_next) → f_h0[29]? = some (.int h0_many) → Fr [29] f0_h0 f_h0 → f0_h0_game[12]? = some (.int h0_game_vars) → va_P D vwCl [(h0, .inr (13, f_h0)), (h0_game, .inr (15, f0_h0_game)), (h0_vars, .inl (tA 0, h0_vars_n, .inl h0_vars_c)), (h0_next, .inl (tA 0, h0_next_n, .inl h0_next_c))] H → va_D A [(h0, .inr (13, f_h0)), (h0_game, .inr (15, f0_h0_game)), (h0_vars, .inl (tA 0, h0_vars_n, .inl h0_vars_c)), (h0_next, .inl (tA 0, h0_next_n, .inl h0_next_c))] → va_S A s.heap H locs → lv_has ls 4 [(0, .ref h0), (1, .int l1), (2, .int l2), (3, .int l3)] → W p l e { frames := 0, cells := 0, slots := 0, locals := 0 } s m args below meth c H locs 0 0 (MQ below (va_Qi (fun (r9 : Int32) (u9 : List Value) => r9 = out.1 ∧ Fr [29] f0_h0 u9 ∧ u9[29]? = some (.int out.2.1)) (zPost D A (fun (u9 : List Value) => [(h0, .inr (13, u9)), (h0_game, .inr (15, f0_h0_game)), (h0_vars, .inl (tA 0, h0_vars_n, .inl out.2.2)), (h0_next, .inl (tA 0, h0_next_n, .inl h0_next_c))])) A) args s 0 0 A) (F0 m 14 ls [])) : ∀ (h0_many : Int32) (h0_vars_c : Nat → Int32) (l1 : Int32) (l2 : Int32) (l3 : Int32) (f_h0 : List Value) (H : Heap) (locs : List Loc) (ls : Array Slot), f_MM_stateOf h0_vars_n h0_next_n h0_game_vars h0_next_c (n + 1) 2 h0_many h0_vars_c l1 l2 l3 = some out → f_h0[9]? = some (.ref h0_game) → f_h0[31]? = some (.ref h0_vars) → f_h0[44]? = some (.ref h0_next) → f_h0[29]? = some (.int h0_many) → Fr [29] f0_h0 f_h0 → f0_h0_game[12]? = some (.int h0_game_vars) → va_P D vwCl [(h0, .inr (13, f_h0)), (h0_game, .inr (15, f0_h0_game)), (h0_vars, .inl (tA 0, h0_vars_n, .inl h0_vars_c)), (h0_next, .inl (tA 0, h0_next_n, .inl h0_next_c))] H → va_D A [(h0, .inr (13, f_h0)), (h0_game, .inr (15, f0_h0_game)), (h0_vars, .inl (tA 0, h0_vars_n, .inl h0_vars_c)), (h0_next, .inl (tA 0, h0_next_n, .inl h0_next_c))] → va_S A s.heap H locs → lv_has ls 4 [(0, .ref h0), (1, .int l1), (2, .int l2), (3, .int l3)] → W p l e { frames := 0, cells := 0, slots := 0, locals := 0 } s m args below meth c H locs 0 0 (MQ below (va_Qi (fun (r9 : Int32) (u9 : List Value) => r9 = out.1 ∧ Fr [29] f0_h0 u9 ∧ u9[29]? = some (.int out.2.1)) (zPost D A (fun (u9 : List Value) => [(h0, .inr (13, u9)), (h0_game, .inr (15, f0_h0_game)), (h0_vars, .inl (tA 0, h0_vars_n, .inl out.2.2)), (h0_next, .inl (tA 0, h0_next_n, .inl h0_next_c))])) A) args s 0 0 A) (F0 m 14 ls []) := by
  intro h0_many h0_vars_c l1 l2 l3  f_h0 H locs ls hF q_h0_game q_h0_vars q_h0_next q_h0_many r_h0 q_h0_game_vars hP hD hS hl
  rw [e_MM_stateOf_2] at hF
  refine lv_iload_n hx hb d_MM_stateOf_14 rfl (lv_at hl 3 rfl) ?_
  refine lv_aload_n hx hb d_MM_stateOf_15 rfl (lv_at hl 0 rfl) ?_
  refine va_get (D := D) (ci := 13) (v := .ref h0_game) (C := R_MM) (T := T_MM) (N := 49) hx hb hg i_MM hown hK hP 0 rfl rfl 9 (by decide) (hg _ k10_55) (fun _ h9 => h9) q_h0_game d_MM_stateOf_16 ?_
  refine va_getN (D := D) (ci := 15) (v := .int h0_game_vars) (C := R_MG) (T := T_MG) (N := 30) hx hb hg i_MG hown hK hP 1 rfl rfl 12 (by decide) (hg _ k9_14) (fun _ h9 => h9) q_h0_game_vars d_MM_stateOf_19 ?_
  refine lv_icmp_ge (tgt := 61) hx hb d_MM_stateOf_22 (by decide) (fun c9 => ?_) (fun c9 => ?_)
  · replace hF := ifp c9 hF
    refine lv_iload_n hx hb d_MM_stateOf_61 rfl (lv_at hl 2 rfl) ?_
    refine lv_if_eq (tgt := 67) hx hb d_MM_stateOf_62 (by decide) (fun c9 => ?_) (fun c9 => ?_)
    · replace hF := ifp c9 hF
      refine lv_iinc (v := (l1 + Int32.ofInt 1)) (lv' := [(1, .int (l1 + Int32.ofInt 1)), (0, .ref h0), (2, .int l2), (3, .int l3)]) hx hb d_MM_stateOf_67 hl (k := 1) rfl rfl (by decide) rfl (fun ls hl => ?_)
      refine lv_goto (tgt := 2) hx hb d_MM_stateOf_70 (by decide) ?_
      exact ih1 h0_many h0_vars_c (l1 + Int32.ofInt 1) 0 0  f_h0 _ _ _ hF q_h0_game q_h0_vars q_h0_next q_h0_many r_h0 q_h0_game_vars hP hD hS (lv_sub hl [1, 0] rfl)
    · replace hF := ifn c9 hF
      refine lv_iload_n hx hb d_MM_stateOf_65 rfl (lv_at hl 1 rfl) ?_
      replace hF := Option.some.inj hF
      subst hF
      exact zZret (post := (fun (r9 : Int32) (u9 : List Value) => r9 = (l1, h0_many, h0_vars_c).1 ∧ Fr [29] f0_h0 u9 ∧ u9[29]? = some (.int ((l1, h0_many, h0_vars_c).2.1)))) (W1 := (fun (u9 : List Value) => [(h0, .inr (13, u9)), (h0_game, .inr (15, f0_h0_game)), (h0_vars, .inl (tA 0, h0_vars_n, .inl ((l1, h0_many, h0_vars_c).2.2))), (h0_next, .inl (tA 0, h0_next_n, .inl h0_next_c))])) (v := l1) hx hb hr rfl hlocks hP hD hS (f_h0) ⟨rfl, r_h0, q_h0_many⟩ rfl d_MM_stateOf_66
  · replace hF := ifn c9 hF
    refine lv_iload_n hx hb d_MM_stateOf_25 rfl (lv_at hl 2 rfl) ?_
    refine lv_if_eq (tgt := 61) hx hb d_MM_stateOf_26 (by decide) (fun c9 => ?_) (fun c9 => ?_)
    · replace hF := ifp c9 hF
      refine lv_iload_n hx hb d_MM_stateOf_61 rfl (lv_at hl 2 rfl) ?_
      refine lv_if_eq (tgt := 67) hx hb d_MM_stateOf_62 (by decide) (fun c9 => ?_) (fun c9 => ?_)
      · replace hF := ifp c9 hF
        refine lv_iinc (v := (l1 + Int32.ofInt 1)) (lv' := [(1, .int (l1 + Int32.ofInt 1)), (0, .ref h0), (2, .int l2), (3, .int l3)]) hx hb d_MM_stateOf_67 hl (k := 1) rfl rfl (by decide) rfl (fun ls hl => ?_)
        refine lv_goto (tgt := 2) hx hb d_MM_stateOf_70 (by decide) ?_
        exact ih1 h0_many h0_vars_c (l1 + Int32.ofInt 1) 0 0  f_h0 _ _ _ hF q_h0_game q_h0_vars q_h0_next q_h0_many r_h0 q_h0_game_vars hP hD hS (lv_sub hl [1, 0] rfl)
      · replace hF := ifn c9 hF
        refine lv_iload_n hx hb d_MM_stateOf_65 rfl (lv_at hl 1 rfl) ?_
        replace hF := Option.some.inj hF
        subst hF
        exact zZret (post := (fun (r9 : Int32) (u9 : List Value) => r9 = (l1, h0_many, h0_vars_c).1 ∧ Fr [29] f0_h0 u9 ∧ u9[29]? = some (.int ((l1, h0_many, h0_vars_c).2.1)))) (W1 := (fun (u9 : List Value) => [(h0, .inr (13, u9)), (h0_game, .inr (15, f0_h0_game)), (h0_vars, .inl (tA 0, h0_vars_n, .inl ((l1, h0_many, h0_vars_c).2.2))), (h0_next, .inl (tA 0, h0_next_n, .inl h0_next_c))])) (v := l1) hx hb hr rfl hlocks hP hD hS (f_h0) ⟨rfl, r_h0, q_h0_many⟩ rfl d_MM_stateOf_66
    · replace hF := ifn c9 hF
      refine lv_aload_n hx hb d_MM_stateOf_29 rfl (lv_at hl 0 rfl) ?_
      refine va_get (D := D) (ci := 13) (v := .ref h0_vars) (C := R_MM) (T := T_MM) (N := 49) hx hb hg i_MM hown hK hP 0 rfl rfl 31 (by decide) (hg _ k10_77) (fun _ h9 => h9) q_h0_vars d_MM_stateOf_30 ?_
      refine lv_bipush (v := 12) hx hb d_MM_stateOf_33 (by decide) ?_
      refine lv_iload_n hx hb d_MM_stateOf_35 rfl (lv_at hl 1 rfl) ?_
      refine lv_imul hx hb d_MM_stateOf_36 ?_
      refine lv_iload_n hx hb d_MM_stateOf_37 rfl (lv_at hl 3 rfl) ?_
      refine lv_iadd hx hb d_MM_stateOf_38 ?_
      obtain ⟨h9, hF⟩ := chk_some hF
      refine va_iald hx hb hK hP 2 0 rfl rfl (vp_in_iff.mpr h9) d_MM_stateOf_39 ?_
      refine lv_aload_n hx hb d_MM_stateOf_40 rfl (lv_at hl 0 rfl) ?_
      refine va_get (D := D) (ci := 13) (v := .ref h0_next) (C := R_MM) (T := T_MM) (N := 49) hx hb hg i_MM hown hK hP 0 rfl rfl 44 (by decide) (hg _ k10_90) (fun _ h9 => h9) q_h0_next d_MM_stateOf_41 ?_
      refine lv_iload_n hx hb d_MM_stateOf_44 rfl (lv_at hl 3 rfl) ?_
      obtain ⟨h9, hF⟩ := chk_some hF
      refine va_iald hx hb hK hP 3 0 rfl rfl (vp_in_iff.mpr h9) d_MM_stateOf_45 ?_
      refine lv_icmp_ne (tgt := 53) hx hb d_MM_stateOf_46 (by decide) (fun c9 => ?_) (fun c9 => ?_)
      · replace hF := ifp c9 hF
        refine lv_iconst (v := 0) hx hb d_MM_stateOf_53 (by decide) ?_
        refine lv_istore_n (lv' := [(2, .int 0), (0, .ref h0), (1, .int l1), (3, .int l3)]) hx hb d_MM_stateOf_54 rfl hl (by decide) rfl (fun ls hl => ?_)
        refine lv_iinc (v := (l3 + Int32.ofInt 1)) (lv' := [(3, .int (l3 + Int32.ofInt 1)), (2, .int 0), (0, .ref h0), (1, .int l1)]) hx hb d_MM_stateOf_55 hl (k := 3) rfl rfl (by decide) rfl (fun ls hl => ?_)
        refine lv_goto (tgt := 14) hx hb d_MM_stateOf_58 (by decide) ?_
        exact ih2 h0_many h0_vars_c l1 0 (l3 + Int32.ofInt 1)  f_h0 _ _ _ hF q_h0_game q_h0_vars q_h0_next q_h0_many r_h0 q_h0_game_vars hP hD hS (lv_sub hl [2, 3, 1, 0] rfl)
      · replace hF := ifn (fun h9 => h9 c9) hF
        refine lv_iconst (v := 1) hx hb d_MM_stateOf_49 (by decide) ?_
        refine lv_goto (tgt := 54) hx hb d_MM_stateOf_50 (by decide) ?_
        refine lv_istore_n (lv' := [(2, .int 1), (0, .ref h0), (1, .int l1), (3, .int l3)]) hx hb d_MM_stateOf_54 rfl hl (by decide) rfl (fun ls hl => ?_)
        refine lv_iinc (v := (l3 + Int32.ofInt 1)) (lv' := [(3, .int (l3 + Int32.ofInt 1)), (2, .int 1), (0, .ref h0), (1, .int l1)]) hx hb d_MM_stateOf_55 hl (k := 3) rfl rfl (by decide) rfl (fun ls hl => ?_)
        refine lv_goto (tgt := 14) hx hb d_MM_stateOf_58 (by decide) ?_
        exact ih2 h0_many h0_vars_c l1 1 (l3 + Int32.ofInt 1)  f_h0 _ _ _ hF q_h0_game q_h0_vars q_h0_next q_h0_many r_h0 q_h0_game_vars hP hD hS (lv_sub hl [2, 3, 1, 0] rfl)
set_option maxHeartbeats 4000000 in
set_option maxRecDepth 100000 in
theorem b_MM_stateOf_3 {p : Program} {l : Launch} {e : Env} {s : State} {m : MethodId} {args : Array Value} {below : List Frame} {meth : Method} {c : Code} {D : va_G} {tA : Nat → ClassId} {A : Nat → Prop} {h0 h0_game h0_vars h0_next : Nat} {f0_h0 f0_h0_game : List Value} {h0_vars_n : Nat} {h0_next_n : Nat} {h0_game_vars : Int32} {h0_next_c : Nat → Int32} {out : Int32 × Int32 × (Nat → Int32)} (hx : p.tables.exec = Jvm.exec) (hb : c.code = prog_15_method_86_code) (hr : meth.sig.returnType = (Option.some Jvm.ClassFile.FieldType.int)) (hml : c.maxLocals = 4) (hh : zH s) (hg : ∀ w ∈ lw_R, w.before args s = true) (hown : s.vm.findClass "ChanceArenaModel" = some m.cls) (hlocks : meth.locks = false) (hK : va_K D vwCl (zT tA) s) (hA : ∀ q, s.heap.size ≤ q → A q) {n : Nat} (ih3 : ∀ (h0_many : Int32) (h0_vars_c : Nat → Int32) (l1 : Int32) (l2 : Int32) (l3 : Int32) (f_h0 : List Value) (H : Heap) (locs : List Loc) (ls : Array Slot), f_MM_stateOf h0_vars_n h0_next_n h0_game_vars h0_next_c n 3 h0_many h0_vars_c l1 l2 l3 = some out → f_h0[9]? = some (.ref h0_game) → f_h0[31]? = some (.ref h0_vars) → f_h0[44]? = some (.ref h0_next) → f_h0[29]? = some (.int h0_many) → Fr [29] f0_h0 f_h0 → f0_h0_game[12]? = some (.int h0_game_vars) → va_P D vwCl [(h0, .inr (13, f_h0)), (h0_game, .inr (15, f0_h0_game)), (h0_vars, .inl (tA 0, h0_vars_n, .inl h0_vars_c)), (h0_next, .inl (tA 0, h0_next_n, .inl h0_next_c))] H → va_D A [(h0, .inr (13, f_h0)), (h0_game, .inr (15, f0_h0_game)), (h0_vars, .inl (tA 0, h0_vars_n, .inl h0_vars_c)), (h0_next, .inl (tA 0, h0_next_n, .inl h0_next_c))] → va_S A s.heap H locs → lv_has ls 4 [(0, .ref h0), (1, .int l1)] → W p l e { frames := 0, cells := 0, slots := 0, locals := 0 } s m args below meth c H locs 0 0 (MQ below (va_Qi (fun (r9 : Int32) (u9 : List Value) => r9 = out.1 ∧ Fr [29] f0_h0 u9 ∧ u9[29]? = some (.int out.2.1)) (zPost D A (fun (u9 : List Value) => [(h0, .inr (13, u9)), (h0_game, .inr (15, f0_h0_game)), (h0_vars, .inl (tA 0, h0_vars_n, .inl out.2.2)), (h0_next, .inl (tA 0, h0_next_n, .inl h0_next_c))])) A) args s 0 0 A) (F0 m 87 ls [])) : ∀ (h0_many : Int32) (h0_vars_c : Nat → Int32) (l1 : Int32) (l2 : Int32) (l3 : Int32) (f_h0 : List Value) (H : Heap) (locs : List Loc) (ls : Array Slot), f_MM_stateOf h0_vars_n h0_next_n h0_game_vars h0_next_c (n + 1) 3 h0_many h0_vars_c l1 l2 l3 = some out → f_h0[9]? = some (.ref h0_game) → f_h0[31]? = some (.ref h0_vars) → f_h0[44]? = some (.ref h0_next) → f_h0[29]? = some (.int h0_many) → Fr [29] f0_h0 f_h0 → f0_h0_game[12]? = some (.int h0_game_vars) → va_P D vwCl [(h0, .inr (13, f_h0)), (h0_game, .inr (15, f0_h0_game)), (h0_vars, .inl (tA 0, h0_vars_n, .inl h0_vars_c)), (h0_next, .inl (tA 0, h0_next_n, .inl h0_next_c))] H → va_D A [(h0, .inr (13, f_h0)), (h0_game, .inr (15, f0_h0_game)), (h0_vars, .inl (tA 0, h0_vars_n, .inl h0_vars_c)), (h0_next, .inl (tA 0, h0_next_n, .inl h0_next_c))] → va_S A s.heap H locs → lv_has ls 4 [(0, .ref h0), (1, .int l1)] → W p l e { frames := 0, cells := 0, slots := 0, locals := 0 } s m args below meth c H locs 0 0 (MQ below (va_Qi (fun (r9 : Int32) (u9 : List Value) => r9 = out.1 ∧ Fr [29] f0_h0 u9 ∧ u9[29]? = some (.int out.2.1)) (zPost D A (fun (u9 : List Value) => [(h0, .inr (13, u9)), (h0_game, .inr (15, f0_h0_game)), (h0_vars, .inl (tA 0, h0_vars_n, .inl out.2.2)), (h0_next, .inl (tA 0, h0_next_n, .inl h0_next_c))])) A) args s 0 0 A) (F0 m 87 ls []) := by
  intro h0_many h0_vars_c l1 l2 l3  f_h0 H locs ls hF q_h0_game q_h0_vars q_h0_next q_h0_many r_h0 q_h0_game_vars hP hD hS hl
  rw [e_MM_stateOf_3] at hF
  refine lv_iload_n hx hb d_MM_stateOf_87 rfl (lv_at hl 1 rfl) ?_
  refine lv_aload_n hx hb d_MM_stateOf_88 rfl (lv_at hl 0 rfl) ?_
  refine va_get (D := D) (ci := 13) (v := .ref h0_game) (C := R_MM) (T := T_MM) (N := 49) hx hb hg i_MM hown hK hP 0 rfl rfl 9 (by decide) (hg _ k10_55) (fun _ h9 => h9) q_h0_game d_MM_stateOf_89 ?_
  refine va_getN (D := D) (ci := 15) (v := .int h0_game_vars) (C := R_MG) (T := T_MG) (N := 30) hx hb hg i_MG hown hK hP 1 rfl rfl 12 (by decide) (hg _ k9_14) (fun _ h9 => h9) q_h0_game_vars d_MM_stateOf_92 ?_
  refine lv_icmp_ge (tgt := 124) hx hb d_MM_stateOf_95 (by decide) (fun c9 => ?_) (fun c9 => ?_)
  · replace hF := ifp c9 hF
    refine lv_aload_n hx hb d_MM_stateOf_124 rfl (lv_at hl 0 rfl) ?_
    refine lv_aload_n hx hb d_MM_stateOf_125 rfl (lv_at hl 0 rfl) ?_
    refine va_get (D := D) (ci := 13) (v := .int h0_many) (C := R_MM) (T := T_MM) (N := 49) hx hb hg i_MM hown hK hP 0 rfl rfl 29 (by decide) (hg _ k10_75) (fun _ h9 => h9) q_h0_many d_MM_stateOf_126 ?_
    refine lv_iconst (v := 1) hx hb d_MM_stateOf_129 (by decide) ?_
    refine lv_iadd hx hb d_MM_stateOf_130 ?_
    refine va_put (D := D) (ci := 13) (v := .int (h0_many + 1)) (ty := .int) (C := R_MM) (T := T_MM) (N := 49) hx hb hg i_MM t_MM o_MM n_MM hown hK hP hD hS 0 rfl rfl 29 (by decide) (hg _ k10_75) (fun _ h9 => h9) rfl (by decide +kernel) rfl rfl (zLen q_h0_many) d_MM_stateOf_131 (fun H1 locs1 hP1 hD1 hS1 => ?_)
    clear hP hD hS
    replace hP1 : va_P D vwCl [(h0, .inr (13, f_h0.set 29 (.int (h0_many + 1)))), (h0_game, .inr (15, f0_h0_game)), (h0_vars, .inl (tA 0, h0_vars_n, .inl h0_vars_c)), (h0_next, .inl (tA 0, h0_next_n, .inl h0_next_c))] _ := hP1
    replace hD1 : va_D A [(h0, .inr (13, f_h0.set 29 (.int (h0_many + 1)))), (h0_game, .inr (15, f0_h0_game)), (h0_vars, .inl (tA 0, h0_vars_n, .inl h0_vars_c)), (h0_next, .inl (tA 0, h0_next_n, .inl h0_next_c))] := hD1
    refine lv_aload_n hx hb d_MM_stateOf_134 rfl (lv_at hl 0 rfl) ?_
    refine va_get (D := D) (ci := 13) (v := .int (h0_many + 1)) (C := R_MM) (T := T_MM) (N := 49) hx hb hg i_MM hown hK hP1 0 rfl rfl 29 (by decide) (hg _ k10_75) (fun _ h9 => h9) (zSetS q_h0_many) d_MM_stateOf_135 ?_
    refine lv_iconst (v := 1) hx hb d_MM_stateOf_138 (by decide) ?_
    refine lv_isub hx hb d_MM_stateOf_139 ?_
    replace hF := Option.some.inj hF
    subst hF
    exact zZret (post := (fun (r9 : Int32) (u9 : List Value) => r9 = (((h0_many + 1) - 1), (h0_many + 1), h0_vars_c).1 ∧ Fr [29] f0_h0 u9 ∧ u9[29]? = some (.int ((((h0_many + 1) - 1), (h0_many + 1), h0_vars_c).2.1)))) (W1 := (fun (u9 : List Value) => [(h0, .inr (13, u9)), (h0_game, .inr (15, f0_h0_game)), (h0_vars, .inl (tA 0, h0_vars_n, .inl ((((h0_many + 1) - 1), (h0_many + 1), h0_vars_c).2.2))), (h0_next, .inl (tA 0, h0_next_n, .inl h0_next_c))])) (v := ((h0_many + 1) - 1)) hx hb hr rfl hlocks hP1 hD1 hS1 (f_h0.set 29 (.int (h0_many + 1))) ⟨rfl, (Fr.set r_h0 (by decide)), (zSetS q_h0_many)⟩ rfl d_MM_stateOf_140
  · replace hF := ifn c9 hF
    refine lv_aload_n hx hb d_MM_stateOf_98 rfl (lv_at hl 0 rfl) ?_
    refine va_get (D := D) (ci := 13) (v := .ref h0_vars) (C := R_MM) (T := T_MM) (N := 49) hx hb hg i_MM hown hK hP 0 rfl rfl 31 (by decide) (hg _ k10_77) (fun _ h9 => h9) q_h0_vars d_MM_stateOf_99 ?_
    refine lv_bipush (v := 12) hx hb d_MM_stateOf_102 (by decide) ?_
    refine lv_aload_n hx hb d_MM_stateOf_104 rfl (lv_at hl 0 rfl) ?_
    refine va_get (D := D) (ci := 13) (v := .int h0_many) (C := R_MM) (T := T_MM) (N := 49) hx hb hg i_MM hown hK hP 0 rfl rfl 29 (by decide) (hg _ k10_75) (fun _ h9 => h9) q_h0_many d_MM_stateOf_105 ?_
    refine lv_imul hx hb d_MM_stateOf_108 ?_
    refine lv_iload_n hx hb d_MM_stateOf_109 rfl (lv_at hl 1 rfl) ?_
    refine lv_iadd hx hb d_MM_stateOf_110 ?_
    refine lv_aload_n hx hb d_MM_stateOf_111 rfl (lv_at hl 0 rfl) ?_
    refine va_get (D := D) (ci := 13) (v := .ref h0_next) (C := R_MM) (T := T_MM) (N := 49) hx hb hg i_MM hown hK hP 0 rfl rfl 44 (by decide) (hg _ k10_90) (fun _ h9 => h9) q_h0_next d_MM_stateOf_112 ?_
    refine lv_iload_n hx hb d_MM_stateOf_115 rfl (lv_at hl 1 rfl) ?_
    obtain ⟨h9, hF⟩ := chk_some hF
    refine va_iald hx hb hK hP 3 0 rfl rfl (vp_in_iff.mpr h9) d_MM_stateOf_116 ?_
    obtain ⟨h9, hF⟩ := chk_some hF
    refine va_iast hx hb hK hP hD hS 2 0 rfl rfl (vp_in_iff.mpr h9) d_MM_stateOf_117 (fun H1 locs1 hP1 hD1 hS1 => ?_)
    clear hP hD hS
    replace hP1 : va_P D vwCl [(h0, .inr (13, f_h0)), (h0_game, .inr (15, f0_h0_game)), (h0_vars, .inl (tA 0, h0_vars_n, .inl (upd h0_vars_c (((12 * h0_many) + l1) : Int32).toNatClampNeg (h0_next_c (l1 : Int32).toNatClampNeg)))), (h0_next, .inl (tA 0, h0_next_n, .inl h0_next_c))] _ := hP1
    replace hD1 : va_D A [(h0, .inr (13, f_h0)), (h0_game, .inr (15, f0_h0_game)), (h0_vars, .inl (tA 0, h0_vars_n, .inl (upd h0_vars_c (((12 * h0_many) + l1) : Int32).toNatClampNeg (h0_next_c (l1 : Int32).toNatClampNeg)))), (h0_next, .inl (tA 0, h0_next_n, .inl h0_next_c))] := hD1
    refine lv_iinc (v := (l1 + Int32.ofInt 1)) (lv' := [(1, .int (l1 + Int32.ofInt 1)), (0, .ref h0)]) hx hb d_MM_stateOf_118 hl (k := 1) rfl rfl (by decide) rfl (fun ls hl => ?_)
    refine lv_goto (tgt := 87) hx hb d_MM_stateOf_121 (by decide) ?_
    exact ih3 h0_many (upd h0_vars_c (((12 * h0_many) + l1) : Int32).toNatClampNeg (h0_next_c (l1 : Int32).toNatClampNeg)) (l1 + Int32.ofInt 1) 0 0  f_h0 _ _ _ hF q_h0_game q_h0_vars q_h0_next q_h0_many r_h0 q_h0_game_vars hP1 hD1 hS1 (lv_sub hl [1, 0] rfl)
set_option maxHeartbeats 4000000 in
set_option maxRecDepth 100000 in
theorem a_MM_stateOf {p : Program} {l : Launch} {e : Env} {s : State} {m : MethodId} {args : Array Value} {below : List Frame} {meth : Method} {c : Code} {D : va_G} {tA : Nat → ClassId} {A : Nat → Prop} {h0 h0_game h0_vars h0_next : Nat} {f0_h0 f0_h0_game : List Value} {h0_vars_n : Nat} {h0_next_n : Nat} {h0_game_vars : Int32} {h0_next_c : Nat → Int32} {out : Int32 × Int32 × (Nat → Int32)} (hx : p.tables.exec = Jvm.exec) (hb : c.code = prog_15_method_86_code) (hr : meth.sig.returnType = (Option.some Jvm.ClassFile.FieldType.int)) (hml : c.maxLocals = 4) (hh : zH s) (hg : ∀ w ∈ lw_R, w.before args s = true) (hown : s.vm.findClass "ChanceArenaModel" = some m.cls) (hlocks : meth.locks = false) (hK : va_K D vwCl (zT tA) s) (hA : ∀ q, s.heap.size ≤ q → A q) : ∀ n : Nat, (∀ (h0_many : Int32) (h0_vars_c : Nat → Int32) (l1 : Int32) (l2 : Int32) (l3 : Int32) (f_h0 : List Value) (H : Heap) (locs : List Loc) (ls : Array Slot), f_MM_stateOf h0_vars_n h0_next_n h0_game_vars h0_next_c n 0 h0_many h0_vars_c l1 l2 l3 = some out → f_h0[9]? = some (.ref h0_game) → f_h0[31]? = some (.ref h0_vars) → f_h0[44]? = some (.ref h0_next) → f_h0[29]? = some (.int h0_many) → Fr [29] f0_h0 f_h0 → f0_h0_game[12]? = some (.int h0_game_vars) → va_P D vwCl [(h0, .inr (13, f_h0)), (h0_game, .inr (15, f0_h0_game)), (h0_vars, .inl (tA 0, h0_vars_n, .inl h0_vars_c)), (h0_next, .inl (tA 0, h0_next_n, .inl h0_next_c))] H → va_D A [(h0, .inr (13, f_h0)), (h0_game, .inr (15, f0_h0_game)), (h0_vars, .inl (tA 0, h0_vars_n, .inl h0_vars_c)), (h0_next, .inl (tA 0, h0_next_n, .inl h0_next_c))] → va_S A s.heap H locs → lv_has ls 4 [(0, .ref h0)] → W p l e { frames := 0, cells := 0, slots := 0, locals := 0 } s m args below meth c H locs 0 0 (MQ below (va_Qi (fun (r9 : Int32) (u9 : List Value) => r9 = out.1 ∧ Fr [29] f0_h0 u9 ∧ u9[29]? = some (.int out.2.1)) (zPost D A (fun (u9 : List Value) => [(h0, .inr (13, u9)), (h0_game, .inr (15, f0_h0_game)), (h0_vars, .inl (tA 0, h0_vars_n, .inl out.2.2)), (h0_next, .inl (tA 0, h0_next_n, .inl h0_next_c))])) A) args s 0 0 A) (F0 m 0 ls [])) ∧ (∀ (h0_many : Int32) (h0_vars_c : Nat → Int32) (l1 : Int32) (l2 : Int32) (l3 : Int32) (f_h0 : List Value) (H : Heap) (locs : List Loc) (ls : Array Slot), f_MM_stateOf h0_vars_n h0_next_n h0_game_vars h0_next_c n 1 h0_many h0_vars_c l1 l2 l3 = some out → f_h0[9]? = some (.ref h0_game) → f_h0[31]? = some (.ref h0_vars) → f_h0[44]? = some (.ref h0_next) → f_h0[29]? = some (.int h0_many) → Fr [29] f0_h0 f_h0 → f0_h0_game[12]? = some (.int h0_game_vars) → va_P D vwCl [(h0, .inr (13, f_h0)), (h0_game, .inr (15, f0_h0_game)), (h0_vars, .inl (tA 0, h0_vars_n, .inl h0_vars_c)), (h0_next, .inl (tA 0, h0_next_n, .inl h0_next_c))] H → va_D A [(h0, .inr (13, f_h0)), (h0_game, .inr (15, f0_h0_game)), (h0_vars, .inl (tA 0, h0_vars_n, .inl h0_vars_c)), (h0_next, .inl (tA 0, h0_next_n, .inl h0_next_c))] → va_S A s.heap H locs → lv_has ls 4 [(0, .ref h0), (1, .int l1)] → W p l e { frames := 0, cells := 0, slots := 0, locals := 0 } s m args below meth c H locs 0 0 (MQ below (va_Qi (fun (r9 : Int32) (u9 : List Value) => r9 = out.1 ∧ Fr [29] f0_h0 u9 ∧ u9[29]? = some (.int out.2.1)) (zPost D A (fun (u9 : List Value) => [(h0, .inr (13, u9)), (h0_game, .inr (15, f0_h0_game)), (h0_vars, .inl (tA 0, h0_vars_n, .inl out.2.2)), (h0_next, .inl (tA 0, h0_next_n, .inl h0_next_c))])) A) args s 0 0 A) (F0 m 2 ls [])) ∧ (∀ (h0_many : Int32) (h0_vars_c : Nat → Int32) (l1 : Int32) (l2 : Int32) (l3 : Int32) (f_h0 : List Value) (H : Heap) (locs : List Loc) (ls : Array Slot), f_MM_stateOf h0_vars_n h0_next_n h0_game_vars h0_next_c n 2 h0_many h0_vars_c l1 l2 l3 = some out → f_h0[9]? = some (.ref h0_game) → f_h0[31]? = some (.ref h0_vars) → f_h0[44]? = some (.ref h0_next) → f_h0[29]? = some (.int h0_many) → Fr [29] f0_h0 f_h0 → f0_h0_game[12]? = some (.int h0_game_vars) → va_P D vwCl [(h0, .inr (13, f_h0)), (h0_game, .inr (15, f0_h0_game)), (h0_vars, .inl (tA 0, h0_vars_n, .inl h0_vars_c)), (h0_next, .inl (tA 0, h0_next_n, .inl h0_next_c))] H → va_D A [(h0, .inr (13, f_h0)), (h0_game, .inr (15, f0_h0_game)), (h0_vars, .inl (tA 0, h0_vars_n, .inl h0_vars_c)), (h0_next, .inl (tA 0, h0_next_n, .inl h0_next_c))] → va_S A s.heap H locs → lv_has ls 4 [(0, .ref h0), (1, .int l1), (2, .int l2), (3, .int l3)] → W p l e { frames := 0, cells := 0, slots := 0, locals := 0 } s m args below meth c H locs 0 0 (MQ below (va_Qi (fun (r9 : Int32) (u9 : List Value) => r9 = out.1 ∧ Fr [29] f0_h0 u9 ∧ u9[29]? = some (.int out.2.1)) (zPost D A (fun (u9 : List Value) => [(h0, .inr (13, u9)), (h0_game, .inr (15, f0_h0_game)), (h0_vars, .inl (tA 0, h0_vars_n, .inl out.2.2)), (h0_next, .inl (tA 0, h0_next_n, .inl h0_next_c))])) A) args s 0 0 A) (F0 m 14 ls [])) ∧ (∀ (h0_many : Int32) (h0_vars_c : Nat → Int32) (l1 : Int32) (l2 : Int32) (l3 : Int32) (f_h0 : List Value) (H : Heap) (locs : List Loc) (ls : Array Slot), f_MM_stateOf h0_vars_n h0_next_n h0_game_vars h0_next_c n 3 h0_many h0_vars_c l1 l2 l3 = some out → f_h0[9]? = some (.ref h0_game) → f_h0[31]? = some (.ref h0_vars) → f_h0[44]? = some (.ref h0_next) → f_h0[29]? = some (.int h0_many) → Fr [29] f0_h0 f_h0 → f0_h0_game[12]? = some (.int h0_game_vars) → va_P D vwCl [(h0, .inr (13, f_h0)), (h0_game, .inr (15, f0_h0_game)), (h0_vars, .inl (tA 0, h0_vars_n, .inl h0_vars_c)), (h0_next, .inl (tA 0, h0_next_n, .inl h0_next_c))] H → va_D A [(h0, .inr (13, f_h0)), (h0_game, .inr (15, f0_h0_game)), (h0_vars, .inl (tA 0, h0_vars_n, .inl h0_vars_c)), (h0_next, .inl (tA 0, h0_next_n, .inl h0_next_c))] → va_S A s.heap H locs → lv_has ls 4 [(0, .ref h0), (1, .int l1)] → W p l e { frames := 0, cells := 0, slots := 0, locals := 0 } s m args below meth c H locs 0 0 (MQ below (va_Qi (fun (r9 : Int32) (u9 : List Value) => r9 = out.1 ∧ Fr [29] f0_h0 u9 ∧ u9[29]? = some (.int out.2.1)) (zPost D A (fun (u9 : List Value) => [(h0, .inr (13, u9)), (h0_game, .inr (15, f0_h0_game)), (h0_vars, .inl (tA 0, h0_vars_n, .inl out.2.2)), (h0_next, .inl (tA 0, h0_next_n, .inl h0_next_c))])) A) args s 0 0 A) (F0 m 87 ls [])) := by
  intro n
  induction n with
  | zero => exact ⟨(fun _ _ _ _ _ _ _ _ _ hF => by rw [z_MM_stateOf] at hF; cases hF), (fun _ _ _ _ _ _ _ _ _ hF => by rw [z_MM_stateOf] at hF; cases hF), (fun _ _ _ _ _ _ _ _ _ hF => by rw [z_MM_stateOf] at hF; cases hF), (fun _ _ _ _ _ _ _ _ _ hF => by rw [z_MM_stateOf] at hF; cases hF)⟩
  | succ n ih =>
    obtain ⟨i0, i1, i2, i3⟩ := ih
    exact ⟨b_MM_stateOf_0 hx hb hr hml hh hg hown hlocks hK hA i1, b_MM_stateOf_1 hx hb hr hml hh hg hown hlocks hK hA i2 i3, b_MM_stateOf_2 hx hb hr hml hh hg hown hlocks hK hA i1 i2, b_MM_stateOf_3 hx hb hr hml hh hg hown hlocks hK hA i3⟩
set_option maxHeartbeats 4000000 in
set_option maxRecDepth 100000 in
theorem m_MM_stateOf (l : Launch) (D : va_G) (tA : Nat → ClassId) (sz : Nat) (h0 h0_game h0_vars h0_next : Nat) (f0_h0 f0_h0_game : List Value) (h0_vars_n : Nat) (h0_next_n : Nat) (h0_game_vars : Int32) (h0_next_c : Nat → Int32) (h0_many : Int32) (h0_vars_c : Nat → Int32) (q_h0_game : f0_h0[9]? = some (.ref h0_game)) (q_h0_vars : f0_h0[31]? = some (.ref h0_vars)) (q_h0_next : f0_h0[44]? = some (.ref h0_next)) (q_h0_many : f0_h0[29]? = some (.int h0_many)) (q_h0_game_vars : f0_h0_game[12]? = some (.int h0_game_vars)) (n : Nat) (out : Int32 × Int32 × (Nat → Int32)) (hF : f_MM_stateOf h0_vars_n h0_next_n h0_game_vars h0_next_c n 0 h0_many h0_vars_c 0 0 0 = some out) : zMi l ({ cls := "ChanceArenaModel", name := "stateOf", desc := "()I" } : Jvm.MethodName) (zW (Jvm.Cond.code ({ cls := "ChanceArenaModel", name := "stateOf", desc := "()I" } : Jvm.MethodName) prog_15_method_86_code (4 : Nat) (Option.some Jvm.ClassFile.FieldType.int))) { frames := 0, cells := 0, slots := 0, locals := 0 } [.ref h0] D tA [(h0, .inr (13, f0_h0)), (h0_game, .inr (15, f0_h0_game)), (h0_vars, .inl (tA 0, h0_vars_n, .inl h0_vars_c)), (h0_next, .inl (tA 0, h0_next_n, .inl h0_next_c))] sz (fun (r9 : Int32) (u9 : List Value) => r9 = out.1 ∧ Fr [29] f0_h0 u9 ∧ u9[29]? = some (.int out.2.1)) (fun (u9 : List Value) => [(h0, .inr (13, u9)), (h0_game, .inr (15, f0_h0_game)), (h0_vars, .inl (tA 0, h0_vars_n, .inl out.2.2)), (h0_next, .inl (tA 0, h0_next_n, .inl h0_next_c))]) 0 0 := by
  refine zOpen (l := l) (y := ({ cls := "ChanceArenaModel", name := "stateOf", desc := "()I" } : Jvm.MethodName)) (ws := zW (Jvm.Cond.code ({ cls := "ChanceArenaModel", name := "stateOf", desc := "()I" } : Jvm.MethodName) prog_15_method_86_code (4 : Nat) (Option.some Jvm.ClassFile.FieldType.int))) (rm := { frames := 0, cells := 0, slots := 0, locals := 0 }) (av := [.ref h0]) (D := D) (tA := tA) (W0 := [(h0, .inr (13, f0_h0)), (h0_game, .inr (15, f0_h0_game)), (h0_vars, .inl (tA 0, h0_vars_n, .inl h0_vars_c)), (h0_next, .inl (tA 0, h0_next_n, .inl h0_next_c))]) (Wm := [(h0, .inr (13, f0_h0)), (h0_game, .inr (15, f0_h0_game)), (h0_vars, .inl (tA 0, h0_vars_n, .inl h0_vars_c)), (h0_next, .inl (tA 0, h0_next_n, .inl h0_next_c))]) (sz := sz) (mc := 0) (ms := 0) (fun A => va_Qi (fun (r9 : Int32) (u9 : List Value) => r9 = out.1 ∧ Fr [29] f0_h0 u9 ∧ u9[29]? = some (.int out.2.1)) (zPost D A (fun (u9 : List Value) => [(h0, .inr (13, u9)), (h0_game, .inr (15, f0_h0_game)), (h0_vars, .inl (tA 0, h0_vars_n, .inl out.2.2)), (h0_next, .inl (tA 0, h0_next_n, .inl h0_next_c))])) A) (lv := [(0, .ref h0)]) (by decide) rfl (Nat.le_of_ble_eq_true rfl) rfl ?_
  intro p e s m below meth c A ls hx hb hr hml hh hg hown hlocks hnm hK hA hP hD0 hAw hS hl
  have hD := zD hD0 hAw
  exact (a_MM_stateOf hx hb hr hml hh hg hown hlocks hK hA n).1 h0_many h0_vars_c 0 0 0  f0_h0 _ _ _ hF q_h0_game q_h0_vars q_h0_next q_h0_many Fr.rfl q_h0_game_vars hP hD hS hl
def f_MM_state1 (h0_faultState : Int32) (h0_thrown : Int32) : Option (Int32 × Int32) := some (h0_faultState, 0)
set_option maxHeartbeats 4000000 in
set_option maxRecDepth 100000 in
theorem b_MM_state1_0 {p : Program} {l : Launch} {e : Env} {s : State} {m : MethodId} {args : Array Value} {below : List Frame} {meth : Method} {c : Code} {D : va_G} {tA : Nat → ClassId} {A : Nat → Prop} {h0 : Nat} {f0_h0 : List Value} {h0_faultState : Int32} {h0_thrown : Int32} {out : Int32 × Int32} (hx : p.tables.exec = Jvm.exec) (hb : c.code = prog_15_method_87_code) (hr : meth.sig.returnType = (Option.some Jvm.ClassFile.FieldType.int)) (hml : c.maxLocals = 1) (hh : zH s) (hg : ∀ w ∈ lw_R, w.before args s = true) (hown : s.vm.findClass "ChanceArenaModel" = some m.cls) (hlocks : meth.locks = false) (hK : va_K D vwCl (zT tA) s) (hA : ∀ q, s.heap.size ≤ q → A q)  : ∀ (f_h0 : List Value) (H : Heap) (locs : List Loc) (ls : Array Slot), f_MM_state1 h0_faultState h0_thrown = some out → f_h0[0]? = some (.int h0_thrown) → f_h0[30]? = some (.int h0_faultState) → Fr [0] f0_h0 f_h0 → va_P D vwCl [(h0, .inr (13, f_h0))] H → va_D A [(h0, .inr (13, f_h0))] → va_S A s.heap H locs → lv_has ls 1 [(0, .ref h0)] → W p l e { frames := 0, cells := 0, slots := 0, locals := 0 } s m args below meth c H locs 0 0 (MQ below (va_Qi (fun (r9 : Int32) (u9 : List Value) => r9 = out.1 ∧ Fr [0] f0_h0 u9 ∧ u9[0]? = some (.int out.2)) (zPost D A (fun (u9 : List Value) => [(h0, .inr (13, u9))])) A) args s 0 0 A) (F0 m 0 ls []) := by
  intro   f_h0 H locs ls hF q_h0_thrown q_h0_faultState r_h0 hP hD hS hl
  replace hF : ((some (h0_faultState, 0)) : Option (Int32 × Int32)) = some out := hF
  refine lv_aload_n hx hb d_MM_state1_0 rfl (lv_at hl 0 rfl) ?_
  refine lv_iconst (v := 0) hx hb d_MM_state1_1 (by decide) ?_
  refine va_put (D := D) (ci := 13) (v := .int 0) (ty := .int) (C := R_MM) (T := T_MM) (N := 49) hx hb hg i_MM t_MM o_MM n_MM hown hK hP hD hS 0 rfl rfl 0 (by decide) (hg _ k10_46) (fun _ h9 => h9) rfl (by decide +kernel) rfl rfl (zLen q_h0_thrown) d_MM_state1_2 (fun H1 locs1 hP1 hD1 hS1 => ?_)
  clear hP hD hS
  replace hP1 : va_P D vwCl [(h0, .inr (13, f_h0.set 0 (.int 0)))] _ := hP1
  replace hD1 : va_D A [(h0, .inr (13, f_h0.set 0 (.int 0)))] := hD1
  refine lv_aload_n hx hb d_MM_state1_5 rfl (lv_at hl 0 rfl) ?_
  refine va_get (D := D) (ci := 13) (v := .int h0_faultState) (C := R_MM) (T := T_MM) (N := 49) hx hb hg i_MM hown hK hP1 0 rfl rfl 30 (by decide) (hg _ k10_76) (fun _ h9 => h9) (zSetN (by decide) q_h0_faultState) d_MM_state1_6 ?_
  replace hF := Option.some.inj hF
  subst hF
  exact zZret (post := (fun (r9 : Int32) (u9 : List Value) => r9 = (h0_faultState, 0).1 ∧ Fr [0] f0_h0 u9 ∧ u9[0]? = some (.int ((h0_faultState, 0).2)))) (W1 := (fun (u9 : List Value) => [(h0, .inr (13, u9))])) (v := h0_faultState) hx hb hr rfl hlocks hP1 hD1 hS1 (f_h0.set 0 (.int 0)) ⟨rfl, (Fr.set r_h0 (by decide)), (zSetS q_h0_thrown)⟩ rfl d_MM_state1_9
set_option maxHeartbeats 4000000 in
set_option maxRecDepth 100000 in
theorem m_MM_state1 (l : Launch) (D : va_G) (tA : Nat → ClassId) (sz : Nat) (h0 : Nat) (f0_h0 : List Value) (h0_faultState : Int32) (h0_thrown : Int32) (q_h0_thrown : f0_h0[0]? = some (.int h0_thrown)) (q_h0_faultState : f0_h0[30]? = some (.int h0_faultState)) (out : Int32 × Int32) (hF : f_MM_state1 h0_faultState h0_thrown = some out) : zMi l ({ cls := "ChanceArenaModel", name := "state", desc := "()I" } : Jvm.MethodName) (zW (Jvm.Cond.code ({ cls := "ChanceArenaModel", name := "state", desc := "()I" } : Jvm.MethodName) prog_15_method_87_code (1 : Nat) (Option.some Jvm.ClassFile.FieldType.int))) { frames := 0, cells := 0, slots := 0, locals := 0 } [.ref h0] D tA [(h0, .inr (13, f0_h0))] sz (fun (r9 : Int32) (u9 : List Value) => r9 = out.1 ∧ Fr [0] f0_h0 u9 ∧ u9[0]? = some (.int out.2)) (fun (u9 : List Value) => [(h0, .inr (13, u9))]) 0 0 := by
  refine zOpen (l := l) (y := ({ cls := "ChanceArenaModel", name := "state", desc := "()I" } : Jvm.MethodName)) (ws := zW (Jvm.Cond.code ({ cls := "ChanceArenaModel", name := "state", desc := "()I" } : Jvm.MethodName) prog_15_method_87_code (1 : Nat) (Option.some Jvm.ClassFile.FieldType.int))) (rm := { frames := 0, cells := 0, slots := 0, locals := 0 }) (av := [.ref h0]) (D := D) (tA := tA) (W0 := [(h0, .inr (13, f0_h0))]) (Wm := [(h0, .inr (13, f0_h0))]) (sz := sz) (mc := 0) (ms := 0) (fun A => va_Qi (fun (r9 : Int32) (u9 : List Value) => r9 = out.1 ∧ Fr [0] f0_h0 u9 ∧ u9[0]? = some (.int out.2)) (zPost D A (fun (u9 : List Value) => [(h0, .inr (13, u9))])) A) (lv := [(0, .ref h0)]) (by decide) rfl (Nat.le_of_ble_eq_true rfl) rfl ?_
  intro p e s m below meth c A ls hx hb hr hml hh hg hown hlocks hnm hK hA hP hD0 hAw hS hl
  have hD := zD hD0 hAw
  exact b_MM_state1_0 hx hb hr hml hh hg hown hlocks hK hA   f0_h0 _ _ _ hF q_h0_thrown q_h0_faultState Fr.rfl hP hD hS hl
def f_MM_states (h0_many : Int32) (h0_thrown : Int32) : Option (Int32 × Int32) := some (h0_many, 0)
set_option maxHeartbeats 4000000 in
set_option maxRecDepth 100000 in
theorem b_MM_states_0 {p : Program} {l : Launch} {e : Env} {s : State} {m : MethodId} {args : Array Value} {below : List Frame} {meth : Method} {c : Code} {D : va_G} {tA : Nat → ClassId} {A : Nat → Prop} {h0 : Nat} {f0_h0 : List Value} {h0_many : Int32} {h0_thrown : Int32} {out : Int32 × Int32} (hx : p.tables.exec = Jvm.exec) (hb : c.code = prog_15_method_88_code) (hr : meth.sig.returnType = (Option.some Jvm.ClassFile.FieldType.int)) (hml : c.maxLocals = 1) (hh : zH s) (hg : ∀ w ∈ lw_R, w.before args s = true) (hown : s.vm.findClass "ChanceArenaModel" = some m.cls) (hlocks : meth.locks = false) (hK : va_K D vwCl (zT tA) s) (hA : ∀ q, s.heap.size ≤ q → A q)  : ∀ (f_h0 : List Value) (H : Heap) (locs : List Loc) (ls : Array Slot), f_MM_states h0_many h0_thrown = some out → f_h0[0]? = some (.int h0_thrown) → f_h0[29]? = some (.int h0_many) → Fr [0] f0_h0 f_h0 → va_P D vwCl [(h0, .inr (13, f_h0))] H → va_D A [(h0, .inr (13, f_h0))] → va_S A s.heap H locs → lv_has ls 1 [(0, .ref h0)] → W p l e { frames := 0, cells := 0, slots := 0, locals := 0 } s m args below meth c H locs 0 0 (MQ below (va_Qi (fun (r9 : Int32) (u9 : List Value) => r9 = out.1 ∧ Fr [0] f0_h0 u9 ∧ u9[0]? = some (.int out.2)) (zPost D A (fun (u9 : List Value) => [(h0, .inr (13, u9))])) A) args s 0 0 A) (F0 m 0 ls []) := by
  intro   f_h0 H locs ls hF q_h0_thrown q_h0_many r_h0 hP hD hS hl
  replace hF : ((some (h0_many, 0)) : Option (Int32 × Int32)) = some out := hF
  refine lv_aload_n hx hb d_MM_states_0 rfl (lv_at hl 0 rfl) ?_
  refine lv_iconst (v := 0) hx hb d_MM_states_1 (by decide) ?_
  refine va_put (D := D) (ci := 13) (v := .int 0) (ty := .int) (C := R_MM) (T := T_MM) (N := 49) hx hb hg i_MM t_MM o_MM n_MM hown hK hP hD hS 0 rfl rfl 0 (by decide) (hg _ k10_46) (fun _ h9 => h9) rfl (by decide +kernel) rfl rfl (zLen q_h0_thrown) d_MM_states_2 (fun H1 locs1 hP1 hD1 hS1 => ?_)
  clear hP hD hS
  replace hP1 : va_P D vwCl [(h0, .inr (13, f_h0.set 0 (.int 0)))] _ := hP1
  replace hD1 : va_D A [(h0, .inr (13, f_h0.set 0 (.int 0)))] := hD1
  refine lv_aload_n hx hb d_MM_states_5 rfl (lv_at hl 0 rfl) ?_
  refine va_get (D := D) (ci := 13) (v := .int h0_many) (C := R_MM) (T := T_MM) (N := 49) hx hb hg i_MM hown hK hP1 0 rfl rfl 29 (by decide) (hg _ k10_75) (fun _ h9 => h9) (zSetN (by decide) q_h0_many) d_MM_states_6 ?_
  replace hF := Option.some.inj hF
  subst hF
  exact zZret (post := (fun (r9 : Int32) (u9 : List Value) => r9 = (h0_many, 0).1 ∧ Fr [0] f0_h0 u9 ∧ u9[0]? = some (.int ((h0_many, 0).2)))) (W1 := (fun (u9 : List Value) => [(h0, .inr (13, u9))])) (v := h0_many) hx hb hr rfl hlocks hP1 hD1 hS1 (f_h0.set 0 (.int 0)) ⟨rfl, (Fr.set r_h0 (by decide)), (zSetS q_h0_thrown)⟩ rfl d_MM_states_9
set_option maxHeartbeats 4000000 in
set_option maxRecDepth 100000 in
theorem m_MM_states (l : Launch) (D : va_G) (tA : Nat → ClassId) (sz : Nat) (h0 : Nat) (f0_h0 : List Value) (h0_many : Int32) (h0_thrown : Int32) (q_h0_thrown : f0_h0[0]? = some (.int h0_thrown)) (q_h0_many : f0_h0[29]? = some (.int h0_many)) (out : Int32 × Int32) (hF : f_MM_states h0_many h0_thrown = some out) : zMi l ({ cls := "ChanceArenaModel", name := "states", desc := "()I" } : Jvm.MethodName) (zW (Jvm.Cond.code ({ cls := "ChanceArenaModel", name := "states", desc := "()I" } : Jvm.MethodName) prog_15_method_88_code (1 : Nat) (Option.some Jvm.ClassFile.FieldType.int))) { frames := 0, cells := 0, slots := 0, locals := 0 } [.ref h0] D tA [(h0, .inr (13, f0_h0))] sz (fun (r9 : Int32) (u9 : List Value) => r9 = out.1 ∧ Fr [0] f0_h0 u9 ∧ u9[0]? = some (.int out.2)) (fun (u9 : List Value) => [(h0, .inr (13, u9))]) 0 0 := by
  refine zOpen (l := l) (y := ({ cls := "ChanceArenaModel", name := "states", desc := "()I" } : Jvm.MethodName)) (ws := zW (Jvm.Cond.code ({ cls := "ChanceArenaModel", name := "states", desc := "()I" } : Jvm.MethodName) prog_15_method_88_code (1 : Nat) (Option.some Jvm.ClassFile.FieldType.int))) (rm := { frames := 0, cells := 0, slots := 0, locals := 0 }) (av := [.ref h0]) (D := D) (tA := tA) (W0 := [(h0, .inr (13, f0_h0))]) (Wm := [(h0, .inr (13, f0_h0))]) (sz := sz) (mc := 0) (ms := 0) (fun A => va_Qi (fun (r9 : Int32) (u9 : List Value) => r9 = out.1 ∧ Fr [0] f0_h0 u9 ∧ u9[0]? = some (.int out.2)) (zPost D A (fun (u9 : List Value) => [(h0, .inr (13, u9))])) A) (lv := [(0, .ref h0)]) (by decide) rfl (Nat.le_of_ble_eq_true rfl) rfl ?_
  intro p e s m below meth c A ls hx hb hr hml hh hg hown hlocks hnm hK hA hP hD0 hAw hS hl
  have hD := zD hD0 hAw
  exact b_MM_states_0 hx hb hr hml hh hg hown hlocks hK hA   f0_h0 _ _ _ hF q_h0_thrown q_h0_many Fr.rfl hP hD hS hl
def f_MM_variable (h0_vars_n : Nat) (l1 : Int32) (l2 : Int32) (h0_many : Int32) (h0_vars_c : Nat → Int32) (h0_game_vars : Int32) (h0_thrown : Int32) : Option (Int32 × Int32) := if (l1 : Int32) < 0 then some (0, 1) else if (h0_many : Int32) ≤ l1 then some (0, 1) else if (l2 : Int32) < 0 then some (0, 1) else if (l2 : Int32) < h0_game_vars then chk (0 ≤ (((12 * l1) + l2) : Int32).toInt ∧ (((12 * l1) + l2) : Int32).toInt < h0_vars_n) (some ((h0_vars_c (((12 * l1) + l2) : Int32).toNatClampNeg), 0)) else some (0, 1)
set_option maxHeartbeats 4000000 in
set_option maxRecDepth 100000 in
theorem b_MM_variable_0 {p : Program} {l : Launch} {e : Env} {s : State} {m : MethodId} {args : Array Value} {below : List Frame} {meth : Method} {c : Code} {D : va_G} {tA : Nat → ClassId} {A : Nat → Prop} {h0 h0_vars h0_game : Nat} {f0_h0 f0_h0_game : List Value} {h0_vars_n : Nat} {l1 : Int32} {l2 : Int32} {h0_many : Int32} {h0_vars_c : Nat → Int32} {h0_game_vars : Int32} {h0_thrown : Int32} {out : Int32 × Int32} (hx : p.tables.exec = Jvm.exec) (hb : c.code = prog_15_method_89_code) (hr : meth.sig.returnType = (Option.some Jvm.ClassFile.FieldType.int)) (hml : c.maxLocals = 3) (hh : zH s) (hg : ∀ w ∈ lw_R, w.before args s = true) (hown : s.vm.findClass "ChanceArenaModel" = some m.cls) (hlocks : meth.locks = false) (hK : va_K D vwCl (zT tA) s) (hA : ∀ q, s.heap.size ≤ q → A q)  : ∀ (f_h0 : List Value) (H : Heap) (locs : List Loc) (ls : Array Slot), f_MM_variable h0_vars_n l1 l2 h0_many h0_vars_c h0_game_vars h0_thrown = some out → f_h0[31]? = some (.ref h0_vars) → f_h0[9]? = some (.ref h0_game) → f_h0[0]? = some (.int h0_thrown) → f_h0[29]? = some (.int h0_many) → Fr [0] f0_h0 f_h0 → f0_h0_game[12]? = some (.int h0_game_vars) → va_P D vwCl [(h0, .inr (13, f_h0)), (h0_vars, .inl (tA 0, h0_vars_n, .inl h0_vars_c)), (h0_game, .inr (15, f0_h0_game))] H → va_D A [(h0, .inr (13, f_h0)), (h0_vars, .inl (tA 0, h0_vars_n, .inl h0_vars_c)), (h0_game, .inr (15, f0_h0_game))] → va_S A s.heap H locs → lv_has ls 3 [(0, .ref h0), (1, .int l1), (2, .int l2)] → W p l e { frames := 0, cells := 0, slots := 0, locals := 0 } s m args below meth c H locs 0 0 (MQ below (va_Qi (fun (r9 : Int32) (u9 : List Value) => r9 = out.1 ∧ Fr [0] f0_h0 u9 ∧ u9[0]? = some (.int out.2)) (zPost D A (fun (u9 : List Value) => [(h0, .inr (13, u9)), (h0_vars, .inl (tA 0, h0_vars_n, .inl h0_vars_c)), (h0_game, .inr (15, f0_h0_game))])) A) args s 0 0 A) (F0 m 0 ls []) := by
  intro   f_h0 H locs ls hF q_h0_vars q_h0_game q_h0_thrown q_h0_many r_h0 q_h0_game_vars hP hD hS hl
  replace hF : ((if (l1 : Int32) < 0 then some (0, 1) else if (h0_many : Int32) ≤ l1 then some (0, 1) else if (l2 : Int32) < 0 then some (0, 1) else if (l2 : Int32) < h0_game_vars then chk (0 ≤ (((12 * l1) + l2) : Int32).toInt ∧ (((12 * l1) + l2) : Int32).toInt < h0_vars_n) (some ((h0_vars_c (((12 * l1) + l2) : Int32).toNatClampNeg), 0)) else some (0, 1)) : Option (Int32 × Int32)) = some out := hF
  refine lv_aload_n hx hb d_MM_variable_0 rfl (lv_at hl 0 rfl) ?_
  refine lv_iload_n hx hb d_MM_variable_1 rfl (lv_at hl 1 rfl) ?_
  refine lv_if_lt (tgt := 28) hx hb d_MM_variable_2 (by decide) (fun c9 => ?_) (fun c9 => ?_)
  · replace hF := ifp c9 hF
    refine lv_iconst (v := 1) hx hb d_MM_variable_28 (by decide) ?_
    refine lv_goto (tgt := 33) hx hb d_MM_variable_29 (by decide) ?_
    refine va_put (D := D) (ci := 13) (v := .int 1) (ty := .int) (C := R_MM) (T := T_MM) (N := 49) hx hb hg i_MM t_MM o_MM n_MM hown hK hP hD hS 0 rfl rfl 0 (by decide) (hg _ k10_46) (fun _ h9 => h9) rfl (by decide +kernel) rfl rfl (zLen q_h0_thrown) d_MM_variable_33 (fun H1 locs1 hP1 hD1 hS1 => ?_)
    clear hP hD hS
    replace hP1 : va_P D vwCl [(h0, .inr (13, f_h0.set 0 (.int 1))), (h0_vars, .inl (tA 0, h0_vars_n, .inl h0_vars_c)), (h0_game, .inr (15, f0_h0_game))] _ := hP1
    replace hD1 : va_D A [(h0, .inr (13, f_h0.set 0 (.int 1))), (h0_vars, .inl (tA 0, h0_vars_n, .inl h0_vars_c)), (h0_game, .inr (15, f0_h0_game))] := hD1
    refine lv_aload_n hx hb d_MM_variable_36 rfl (lv_at hl 0 rfl) ?_
    refine va_get (D := D) (ci := 13) (v := .int 1) (C := R_MM) (T := T_MM) (N := 49) hx hb hg i_MM hown hK hP1 0 rfl rfl 0 (by decide) (hg _ k10_46) (fun _ h9 => h9) (zSetS q_h0_thrown) d_MM_variable_37 ?_
    refine lv_if_le (tgt := 47) hx hb d_MM_variable_40 (by decide) (fun c9 => absurd c9 (by decide)) (fun _ => ?_)
    refine lv_iconst (v := 0) hx hb d_MM_variable_43 (by decide) ?_
    refine lv_goto (tgt := 58) hx hb d_MM_variable_44 (by decide) ?_
    replace hF := Option.some.inj hF
    subst hF
    exact zZret (post := (fun (r9 : Int32) (u9 : List Value) => r9 = (0, 1).1 ∧ Fr [0] f0_h0 u9 ∧ u9[0]? = some (.int ((0, 1).2)))) (W1 := (fun (u9 : List Value) => [(h0, .inr (13, u9)), (h0_vars, .inl (tA 0, h0_vars_n, .inl h0_vars_c)), (h0_game, .inr (15, f0_h0_game))])) (v := 0) hx hb hr rfl hlocks hP1 hD1 hS1 (f_h0.set 0 (.int 1)) ⟨rfl, (Fr.set r_h0 (by decide)), (zSetS q_h0_thrown)⟩ rfl d_MM_variable_58
  · replace hF := ifn c9 hF
    refine lv_iload_n hx hb d_MM_variable_5 rfl (lv_at hl 1 rfl) ?_
    refine lv_aload_n hx hb d_MM_variable_6 rfl (lv_at hl 0 rfl) ?_
    refine va_get (D := D) (ci := 13) (v := .int h0_many) (C := R_MM) (T := T_MM) (N := 49) hx hb hg i_MM hown hK hP 0 rfl rfl 29 (by decide) (hg _ k10_75) (fun _ h9 => h9) q_h0_many d_MM_variable_7 ?_
    refine lv_icmp_ge (tgt := 28) hx hb d_MM_variable_10 (by decide) (fun c9 => ?_) (fun c9 => ?_)
    · replace hF := ifp c9 hF
      refine lv_iconst (v := 1) hx hb d_MM_variable_28 (by decide) ?_
      refine lv_goto (tgt := 33) hx hb d_MM_variable_29 (by decide) ?_
      refine va_put (D := D) (ci := 13) (v := .int 1) (ty := .int) (C := R_MM) (T := T_MM) (N := 49) hx hb hg i_MM t_MM o_MM n_MM hown hK hP hD hS 0 rfl rfl 0 (by decide) (hg _ k10_46) (fun _ h9 => h9) rfl (by decide +kernel) rfl rfl (zLen q_h0_thrown) d_MM_variable_33 (fun H1 locs1 hP1 hD1 hS1 => ?_)
      clear hP hD hS
      replace hP1 : va_P D vwCl [(h0, .inr (13, f_h0.set 0 (.int 1))), (h0_vars, .inl (tA 0, h0_vars_n, .inl h0_vars_c)), (h0_game, .inr (15, f0_h0_game))] _ := hP1
      replace hD1 : va_D A [(h0, .inr (13, f_h0.set 0 (.int 1))), (h0_vars, .inl (tA 0, h0_vars_n, .inl h0_vars_c)), (h0_game, .inr (15, f0_h0_game))] := hD1
      refine lv_aload_n hx hb d_MM_variable_36 rfl (lv_at hl 0 rfl) ?_
      refine va_get (D := D) (ci := 13) (v := .int 1) (C := R_MM) (T := T_MM) (N := 49) hx hb hg i_MM hown hK hP1 0 rfl rfl 0 (by decide) (hg _ k10_46) (fun _ h9 => h9) (zSetS q_h0_thrown) d_MM_variable_37 ?_
      refine lv_if_le (tgt := 47) hx hb d_MM_variable_40 (by decide) (fun c9 => absurd c9 (by decide)) (fun _ => ?_)
      refine lv_iconst (v := 0) hx hb d_MM_variable_43 (by decide) ?_
      refine lv_goto (tgt := 58) hx hb d_MM_variable_44 (by decide) ?_
      replace hF := Option.some.inj hF
      subst hF
      exact zZret (post := (fun (r9 : Int32) (u9 : List Value) => r9 = (0, 1).1 ∧ Fr [0] f0_h0 u9 ∧ u9[0]? = some (.int ((0, 1).2)))) (W1 := (fun (u9 : List Value) => [(h0, .inr (13, u9)), (h0_vars, .inl (tA 0, h0_vars_n, .inl h0_vars_c)), (h0_game, .inr (15, f0_h0_game))])) (v := 0) hx hb hr rfl hlocks hP1 hD1 hS1 (f_h0.set 0 (.int 1)) ⟨rfl, (Fr.set r_h0 (by decide)), (zSetS q_h0_thrown)⟩ rfl d_MM_variable_58
    · replace hF := ifn c9 hF
      refine lv_iload_n hx hb d_MM_variable_13 rfl (lv_at hl 2 rfl) ?_
      refine lv_if_lt (tgt := 28) hx hb d_MM_variable_14 (by decide) (fun c9 => ?_) (fun c9 => ?_)
      · replace hF := ifp c9 hF
        refine lv_iconst (v := 1) hx hb d_MM_variable_28 (by decide) ?_
        refine lv_goto (tgt := 33) hx hb d_MM_variable_29 (by decide) ?_
        refine va_put (D := D) (ci := 13) (v := .int 1) (ty := .int) (C := R_MM) (T := T_MM) (N := 49) hx hb hg i_MM t_MM o_MM n_MM hown hK hP hD hS 0 rfl rfl 0 (by decide) (hg _ k10_46) (fun _ h9 => h9) rfl (by decide +kernel) rfl rfl (zLen q_h0_thrown) d_MM_variable_33 (fun H1 locs1 hP1 hD1 hS1 => ?_)
        clear hP hD hS
        replace hP1 : va_P D vwCl [(h0, .inr (13, f_h0.set 0 (.int 1))), (h0_vars, .inl (tA 0, h0_vars_n, .inl h0_vars_c)), (h0_game, .inr (15, f0_h0_game))] _ := hP1
        replace hD1 : va_D A [(h0, .inr (13, f_h0.set 0 (.int 1))), (h0_vars, .inl (tA 0, h0_vars_n, .inl h0_vars_c)), (h0_game, .inr (15, f0_h0_game))] := hD1
        refine lv_aload_n hx hb d_MM_variable_36 rfl (lv_at hl 0 rfl) ?_
        refine va_get (D := D) (ci := 13) (v := .int 1) (C := R_MM) (T := T_MM) (N := 49) hx hb hg i_MM hown hK hP1 0 rfl rfl 0 (by decide) (hg _ k10_46) (fun _ h9 => h9) (zSetS q_h0_thrown) d_MM_variable_37 ?_
        refine lv_if_le (tgt := 47) hx hb d_MM_variable_40 (by decide) (fun c9 => absurd c9 (by decide)) (fun _ => ?_)
        refine lv_iconst (v := 0) hx hb d_MM_variable_43 (by decide) ?_
        refine lv_goto (tgt := 58) hx hb d_MM_variable_44 (by decide) ?_
        replace hF := Option.some.inj hF
        subst hF
        exact zZret (post := (fun (r9 : Int32) (u9 : List Value) => r9 = (0, 1).1 ∧ Fr [0] f0_h0 u9 ∧ u9[0]? = some (.int ((0, 1).2)))) (W1 := (fun (u9 : List Value) => [(h0, .inr (13, u9)), (h0_vars, .inl (tA 0, h0_vars_n, .inl h0_vars_c)), (h0_game, .inr (15, f0_h0_game))])) (v := 0) hx hb hr rfl hlocks hP1 hD1 hS1 (f_h0.set 0 (.int 1)) ⟨rfl, (Fr.set r_h0 (by decide)), (zSetS q_h0_thrown)⟩ rfl d_MM_variable_58
      · replace hF := ifn c9 hF
        refine lv_iload_n hx hb d_MM_variable_17 rfl (lv_at hl 2 rfl) ?_
        refine lv_aload_n hx hb d_MM_variable_18 rfl (lv_at hl 0 rfl) ?_
        refine va_get (D := D) (ci := 13) (v := .ref h0_game) (C := R_MM) (T := T_MM) (N := 49) hx hb hg i_MM hown hK hP 0 rfl rfl 9 (by decide) (hg _ k10_55) (fun _ h9 => h9) q_h0_game d_MM_variable_19 ?_
        refine va_getN (D := D) (ci := 15) (v := .int h0_game_vars) (C := R_MG) (T := T_MG) (N := 30) hx hb hg i_MG hown hK hP 2 rfl rfl 12 (by decide) (hg _ k9_14) (fun _ h9 => h9) q_h0_game_vars d_MM_variable_22 ?_
        refine lv_icmp_lt (tgt := 32) hx hb d_MM_variable_25 (by decide) (fun c9 => ?_) (fun c9 => ?_)
        · replace hF := ifp c9 hF
          refine lv_iconst (v := 0) hx hb d_MM_variable_32 (by decide) ?_
          refine va_put (D := D) (ci := 13) (v := .int 0) (ty := .int) (C := R_MM) (T := T_MM) (N := 49) hx hb hg i_MM t_MM o_MM n_MM hown hK hP hD hS 0 rfl rfl 0 (by decide) (hg _ k10_46) (fun _ h9 => h9) rfl (by decide +kernel) rfl rfl (zLen q_h0_thrown) d_MM_variable_33 (fun H1 locs1 hP1 hD1 hS1 => ?_)
          clear hP hD hS
          replace hP1 : va_P D vwCl [(h0, .inr (13, f_h0.set 0 (.int 0))), (h0_vars, .inl (tA 0, h0_vars_n, .inl h0_vars_c)), (h0_game, .inr (15, f0_h0_game))] _ := hP1
          replace hD1 : va_D A [(h0, .inr (13, f_h0.set 0 (.int 0))), (h0_vars, .inl (tA 0, h0_vars_n, .inl h0_vars_c)), (h0_game, .inr (15, f0_h0_game))] := hD1
          refine lv_aload_n hx hb d_MM_variable_36 rfl (lv_at hl 0 rfl) ?_
          refine va_get (D := D) (ci := 13) (v := .int 0) (C := R_MM) (T := T_MM) (N := 49) hx hb hg i_MM hown hK hP1 0 rfl rfl 0 (by decide) (hg _ k10_46) (fun _ h9 => h9) (zSetS q_h0_thrown) d_MM_variable_37 ?_
          refine lv_if_le (tgt := 47) hx hb d_MM_variable_40 (by decide) (fun _ => ?_) (fun c9 => absurd (by decide) c9)
          refine lv_aload_n hx hb d_MM_variable_47 rfl (lv_at hl 0 rfl) ?_
          refine va_get (D := D) (ci := 13) (v := .ref h0_vars) (C := R_MM) (T := T_MM) (N := 49) hx hb hg i_MM hown hK hP1 0 rfl rfl 31 (by decide) (hg _ k10_77) (fun _ h9 => h9) (zSetN (by decide) q_h0_vars) d_MM_variable_48 ?_
          refine lv_bipush (v := 12) hx hb d_MM_variable_51 (by decide) ?_
          refine lv_iload_n hx hb d_MM_variable_53 rfl (lv_at hl 1 rfl) ?_
          refine lv_imul hx hb d_MM_variable_54 ?_
          refine lv_iload_n hx hb d_MM_variable_55 rfl (lv_at hl 2 rfl) ?_
          refine lv_iadd hx hb d_MM_variable_56 ?_
          obtain ⟨h9, hF⟩ := chk_some hF
          refine va_iald hx hb hK hP1 1 0 rfl rfl (vp_in_iff.mpr h9) d_MM_variable_57 ?_
          replace hF := Option.some.inj hF
          subst hF
          exact zZret (post := (fun (r9 : Int32) (u9 : List Value) => r9 = ((h0_vars_c (((12 * l1) + l2) : Int32).toNatClampNeg), 0).1 ∧ Fr [0] f0_h0 u9 ∧ u9[0]? = some (.int (((h0_vars_c (((12 * l1) + l2) : Int32).toNatClampNeg), 0).2)))) (W1 := (fun (u9 : List Value) => [(h0, .inr (13, u9)), (h0_vars, .inl (tA 0, h0_vars_n, .inl h0_vars_c)), (h0_game, .inr (15, f0_h0_game))])) (v := (h0_vars_c (((12 * l1) + l2) : Int32).toNatClampNeg)) hx hb hr rfl hlocks hP1 hD1 hS1 (f_h0.set 0 (.int 0)) ⟨rfl, (Fr.set r_h0 (by decide)), (zSetS q_h0_thrown)⟩ rfl d_MM_variable_58
        · replace hF := ifn c9 hF
          refine lv_iconst (v := 1) hx hb d_MM_variable_28 (by decide) ?_
          refine lv_goto (tgt := 33) hx hb d_MM_variable_29 (by decide) ?_
          refine va_put (D := D) (ci := 13) (v := .int 1) (ty := .int) (C := R_MM) (T := T_MM) (N := 49) hx hb hg i_MM t_MM o_MM n_MM hown hK hP hD hS 0 rfl rfl 0 (by decide) (hg _ k10_46) (fun _ h9 => h9) rfl (by decide +kernel) rfl rfl (zLen q_h0_thrown) d_MM_variable_33 (fun H1 locs1 hP1 hD1 hS1 => ?_)
          clear hP hD hS
          replace hP1 : va_P D vwCl [(h0, .inr (13, f_h0.set 0 (.int 1))), (h0_vars, .inl (tA 0, h0_vars_n, .inl h0_vars_c)), (h0_game, .inr (15, f0_h0_game))] _ := hP1
          replace hD1 : va_D A [(h0, .inr (13, f_h0.set 0 (.int 1))), (h0_vars, .inl (tA 0, h0_vars_n, .inl h0_vars_c)), (h0_game, .inr (15, f0_h0_game))] := hD1
          refine lv_aload_n hx hb d_MM_variable_36 rfl (lv_at hl 0 rfl) ?_
          refine va_get (D := D) (ci := 13) (v := .int 1) (C := R_MM) (T := T_MM) (N := 49) hx hb hg i_MM hown hK hP1 0 rfl rfl 0 (by decide) (hg _ k10_46) (fun _ h9 => h9) (zSetS q_h0_thrown) d_MM_variable_37 ?_
          refine lv_if_le (tgt := 47) hx hb d_MM_variable_40 (by decide) (fun c9 => absurd c9 (by decide)) (fun _ => ?_)
          refine lv_iconst (v := 0) hx hb d_MM_variable_43 (by decide) ?_
          refine lv_goto (tgt := 58) hx hb d_MM_variable_44 (by decide) ?_
          replace hF := Option.some.inj hF
          subst hF
          exact zZret (post := (fun (r9 : Int32) (u9 : List Value) => r9 = (0, 1).1 ∧ Fr [0] f0_h0 u9 ∧ u9[0]? = some (.int ((0, 1).2)))) (W1 := (fun (u9 : List Value) => [(h0, .inr (13, u9)), (h0_vars, .inl (tA 0, h0_vars_n, .inl h0_vars_c)), (h0_game, .inr (15, f0_h0_game))])) (v := 0) hx hb hr rfl hlocks hP1 hD1 hS1 (f_h0.set 0 (.int 1)) ⟨rfl, (Fr.set r_h0 (by decide)), (zSetS q_h0_thrown)⟩ rfl d_MM_variable_58
set_option maxHeartbeats 4000000 in
set_option maxRecDepth 100000 in
theorem m_MM_variable (l : Launch) (D : va_G) (tA : Nat → ClassId) (sz : Nat) (h0 h0_vars h0_game : Nat) (f0_h0 f0_h0_game : List Value) (h0_vars_n : Nat) (l1 : Int32) (l2 : Int32) (h0_many : Int32) (h0_vars_c : Nat → Int32) (h0_game_vars : Int32) (h0_thrown : Int32) (q_h0_vars : f0_h0[31]? = some (.ref h0_vars)) (q_h0_game : f0_h0[9]? = some (.ref h0_game)) (q_h0_thrown : f0_h0[0]? = some (.int h0_thrown)) (q_h0_many : f0_h0[29]? = some (.int h0_many)) (q_h0_game_vars : f0_h0_game[12]? = some (.int h0_game_vars)) (out : Int32 × Int32) (hF : f_MM_variable h0_vars_n l1 l2 h0_many h0_vars_c h0_game_vars h0_thrown = some out) : zMi l ({ cls := "ChanceArenaModel", name := "variable", desc := "(II)I" } : Jvm.MethodName) (zW (Jvm.Cond.code ({ cls := "ChanceArenaModel", name := "variable", desc := "(II)I" } : Jvm.MethodName) prog_15_method_89_code (3 : Nat) (Option.some Jvm.ClassFile.FieldType.int))) { frames := 0, cells := 0, slots := 0, locals := 0 } [.ref h0, .int l1, .int l2] D tA [(h0, .inr (13, f0_h0)), (h0_vars, .inl (tA 0, h0_vars_n, .inl h0_vars_c)), (h0_game, .inr (15, f0_h0_game))] sz (fun (r9 : Int32) (u9 : List Value) => r9 = out.1 ∧ Fr [0] f0_h0 u9 ∧ u9[0]? = some (.int out.2)) (fun (u9 : List Value) => [(h0, .inr (13, u9)), (h0_vars, .inl (tA 0, h0_vars_n, .inl h0_vars_c)), (h0_game, .inr (15, f0_h0_game))]) 0 0 := by
  refine zOpen (l := l) (y := ({ cls := "ChanceArenaModel", name := "variable", desc := "(II)I" } : Jvm.MethodName)) (ws := zW (Jvm.Cond.code ({ cls := "ChanceArenaModel", name := "variable", desc := "(II)I" } : Jvm.MethodName) prog_15_method_89_code (3 : Nat) (Option.some Jvm.ClassFile.FieldType.int))) (rm := { frames := 0, cells := 0, slots := 0, locals := 0 }) (av := [.ref h0, .int l1, .int l2]) (D := D) (tA := tA) (W0 := [(h0, .inr (13, f0_h0)), (h0_vars, .inl (tA 0, h0_vars_n, .inl h0_vars_c)), (h0_game, .inr (15, f0_h0_game))]) (Wm := [(h0, .inr (13, f0_h0)), (h0_vars, .inl (tA 0, h0_vars_n, .inl h0_vars_c)), (h0_game, .inr (15, f0_h0_game))]) (sz := sz) (mc := 0) (ms := 0) (fun A => va_Qi (fun (r9 : Int32) (u9 : List Value) => r9 = out.1 ∧ Fr [0] f0_h0 u9 ∧ u9[0]? = some (.int out.2)) (zPost D A (fun (u9 : List Value) => [(h0, .inr (13, u9)), (h0_vars, .inl (tA 0, h0_vars_n, .inl h0_vars_c)), (h0_game, .inr (15, f0_h0_game))])) A) (lv := [(0, .ref h0), (1, .int l1), (2, .int l2)]) (by decide) rfl (Nat.le_of_ble_eq_true rfl) rfl ?_
  intro p e s m below meth c A ls hx hb hr hml hh hg hown hlocks hnm hK hA hP hD0 hAw hS hl
  have hD := zD hD0 hAw
  exact b_MM_variable_0 hx hb hr hml hh hg hown hlocks hK hA   f0_h0 _ _ _ hF q_h0_vars q_h0_game q_h0_thrown q_h0_many Fr.rfl q_h0_game_vars hP hD hS hl
def f_MM_isState (l1 : Int32) (h0_many : Int32) (h0_thrown : Int32) : Option (Int32 × Int32) := if (l1 : Int32) < 0 then some (0, 0) else if (h0_many : Int32) ≤ l1 then some (0, 0) else some (1, 0)
set_option maxHeartbeats 4000000 in
set_option maxRecDepth 100000 in
theorem b_MM_isState_0 {p : Program} {l : Launch} {e : Env} {s : State} {m : MethodId} {args : Array Value} {below : List Frame} {meth : Method} {c : Code} {D : va_G} {tA : Nat → ClassId} {A : Nat → Prop} {h0 : Nat} {f0_h0 : List Value} {l1 : Int32} {h0_many : Int32} {h0_thrown : Int32} {out : Int32 × Int32} (hx : p.tables.exec = Jvm.exec) (hb : c.code = prog_15_method_90_code) (hr : meth.sig.returnType = (Option.some Jvm.ClassFile.FieldType.boolean)) (hml : c.maxLocals = 2) (hh : zH s) (hg : ∀ w ∈ lw_R, w.before args s = true) (hown : s.vm.findClass "ChanceArenaModel" = some m.cls) (hlocks : meth.locks = false) (hK : va_K D vwCl (zT tA) s) (hA : ∀ q, s.heap.size ≤ q → A q)  : ∀ (f_h0 : List Value) (H : Heap) (locs : List Loc) (ls : Array Slot), f_MM_isState l1 h0_many h0_thrown = some out → f_h0[0]? = some (.int h0_thrown) → f_h0[29]? = some (.int h0_many) → Fr [0] f0_h0 f_h0 → va_P D vwCl [(h0, .inr (13, f_h0))] H → va_D A [(h0, .inr (13, f_h0))] → va_S A s.heap H locs → lv_has ls 2 [(0, .ref h0), (1, .int l1)] → W p l e { frames := 0, cells := 0, slots := 0, locals := 0 } s m args below meth c H locs 0 0 (MQ below (va_Qi (fun (r9 : Int32) (u9 : List Value) => r9 = out.1 ∧ Fr [0] f0_h0 u9 ∧ u9[0]? = some (.int out.2)) (zPost D A (fun (u9 : List Value) => [(h0, .inr (13, u9))])) A) args s 0 0 A) (F0 m 0 ls []) := by
  intro   f_h0 H locs ls hF q_h0_thrown q_h0_many r_h0 hP hD hS hl
  replace hF : ((if (l1 : Int32) < 0 then some (0, 0) else if (h0_many : Int32) ≤ l1 then some (0, 0) else some (1, 0)) : Option (Int32 × Int32)) = some out := hF
  refine lv_aload_n hx hb d_MM_isState_0 rfl (lv_at hl 0 rfl) ?_
  refine lv_iconst (v := 0) hx hb d_MM_isState_1 (by decide) ?_
  refine va_put (D := D) (ci := 13) (v := .int 0) (ty := .int) (C := R_MM) (T := T_MM) (N := 49) hx hb hg i_MM t_MM o_MM n_MM hown hK hP hD hS 0 rfl rfl 0 (by decide) (hg _ k10_46) (fun _ h9 => h9) rfl (by decide +kernel) rfl rfl (zLen q_h0_thrown) d_MM_isState_2 (fun H1 locs1 hP1 hD1 hS1 => ?_)
  clear hP hD hS
  replace hP1 : va_P D vwCl [(h0, .inr (13, f_h0.set 0 (.int 0)))] _ := hP1
  replace hD1 : va_D A [(h0, .inr (13, f_h0.set 0 (.int 0)))] := hD1
  refine lv_iload_n hx hb d_MM_isState_5 rfl (lv_at hl 1 rfl) ?_
  refine lv_if_lt (tgt := 21) hx hb d_MM_isState_6 (by decide) (fun c9 => ?_) (fun c9 => ?_)
  · replace hF := ifp c9 hF
    refine lv_iconst (v := 0) hx hb d_MM_isState_21 (by decide) ?_
    replace hF := Option.some.inj hF
    subst hF
    exact zZret (post := (fun (r9 : Int32) (u9 : List Value) => r9 = (0, 0).1 ∧ Fr [0] f0_h0 u9 ∧ u9[0]? = some (.int ((0, 0).2)))) (W1 := (fun (u9 : List Value) => [(h0, .inr (13, u9))])) (v := 0) hx hb hr rfl hlocks hP1 hD1 hS1 (f_h0.set 0 (.int 0)) ⟨rfl, (Fr.set r_h0 (by decide)), (zSetS q_h0_thrown)⟩ rfl d_MM_isState_22
  · replace hF := ifn c9 hF
    refine lv_iload_n hx hb d_MM_isState_9 rfl (lv_at hl 1 rfl) ?_
    refine lv_aload_n hx hb d_MM_isState_10 rfl (lv_at hl 0 rfl) ?_
    refine va_get (D := D) (ci := 13) (v := .int h0_many) (C := R_MM) (T := T_MM) (N := 49) hx hb hg i_MM hown hK hP1 0 rfl rfl 29 (by decide) (hg _ k10_75) (fun _ h9 => h9) (zSetN (by decide) q_h0_many) d_MM_isState_11 ?_
    refine lv_icmp_ge (tgt := 21) hx hb d_MM_isState_14 (by decide) (fun c9 => ?_) (fun c9 => ?_)
    · replace hF := ifp c9 hF
      refine lv_iconst (v := 0) hx hb d_MM_isState_21 (by decide) ?_
      replace hF := Option.some.inj hF
      subst hF
      exact zZret (post := (fun (r9 : Int32) (u9 : List Value) => r9 = (0, 0).1 ∧ Fr [0] f0_h0 u9 ∧ u9[0]? = some (.int ((0, 0).2)))) (W1 := (fun (u9 : List Value) => [(h0, .inr (13, u9))])) (v := 0) hx hb hr rfl hlocks hP1 hD1 hS1 (f_h0.set 0 (.int 0)) ⟨rfl, (Fr.set r_h0 (by decide)), (zSetS q_h0_thrown)⟩ rfl d_MM_isState_22
    · replace hF := ifn c9 hF
      refine lv_iconst (v := 1) hx hb d_MM_isState_17 (by decide) ?_
      refine lv_goto (tgt := 22) hx hb d_MM_isState_18 (by decide) ?_
      replace hF := Option.some.inj hF
      subst hF
      exact zZret (post := (fun (r9 : Int32) (u9 : List Value) => r9 = (1, 0).1 ∧ Fr [0] f0_h0 u9 ∧ u9[0]? = some (.int ((1, 0).2)))) (W1 := (fun (u9 : List Value) => [(h0, .inr (13, u9))])) (v := 1) hx hb hr rfl hlocks hP1 hD1 hS1 (f_h0.set 0 (.int 0)) ⟨rfl, (Fr.set r_h0 (by decide)), (zSetS q_h0_thrown)⟩ rfl d_MM_isState_22
set_option maxHeartbeats 4000000 in
set_option maxRecDepth 100000 in
theorem m_MM_isState (l : Launch) (D : va_G) (tA : Nat → ClassId) (sz : Nat) (h0 : Nat) (f0_h0 : List Value) (l1 : Int32) (h0_many : Int32) (h0_thrown : Int32) (q_h0_thrown : f0_h0[0]? = some (.int h0_thrown)) (q_h0_many : f0_h0[29]? = some (.int h0_many)) (out : Int32 × Int32) (hF : f_MM_isState l1 h0_many h0_thrown = some out) : zMi l ({ cls := "ChanceArenaModel", name := "isState", desc := "(I)Z" } : Jvm.MethodName) (zW (Jvm.Cond.code ({ cls := "ChanceArenaModel", name := "isState", desc := "(I)Z" } : Jvm.MethodName) prog_15_method_90_code (2 : Nat) (Option.some Jvm.ClassFile.FieldType.boolean))) { frames := 0, cells := 0, slots := 0, locals := 0 } [.ref h0, .int l1] D tA [(h0, .inr (13, f0_h0))] sz (fun (r9 : Int32) (u9 : List Value) => r9 = out.1 ∧ Fr [0] f0_h0 u9 ∧ u9[0]? = some (.int out.2)) (fun (u9 : List Value) => [(h0, .inr (13, u9))]) 0 0 := by
  refine zOpen (l := l) (y := ({ cls := "ChanceArenaModel", name := "isState", desc := "(I)Z" } : Jvm.MethodName)) (ws := zW (Jvm.Cond.code ({ cls := "ChanceArenaModel", name := "isState", desc := "(I)Z" } : Jvm.MethodName) prog_15_method_90_code (2 : Nat) (Option.some Jvm.ClassFile.FieldType.boolean))) (rm := { frames := 0, cells := 0, slots := 0, locals := 0 }) (av := [.ref h0, .int l1]) (D := D) (tA := tA) (W0 := [(h0, .inr (13, f0_h0))]) (Wm := [(h0, .inr (13, f0_h0))]) (sz := sz) (mc := 0) (ms := 0) (fun A => va_Qi (fun (r9 : Int32) (u9 : List Value) => r9 = out.1 ∧ Fr [0] f0_h0 u9 ∧ u9[0]? = some (.int out.2)) (zPost D A (fun (u9 : List Value) => [(h0, .inr (13, u9))])) A) (lv := [(0, .ref h0), (1, .int l1)]) (by decide) rfl (Nat.le_of_ble_eq_true rfl) rfl ?_
  intro p e s m below meth c A ls hx hb hr hml hh hg hown hlocks hnm hK hA hP hD0 hAw hS hl
  have hD := zD hD0 hAw
  exact b_MM_isState_0 hx hb hr hml hh hg hown hlocks hK hA   f0_h0 _ _ _ hF q_h0_thrown q_h0_many Fr.rfl hP hD hS hl
def f_MM_kind (h0_kindOf_n : Nat) (l1 : Int32) (h0_many : Int32) (h0_kindOf_c : Nat → Int32) (h0_thrown : Int32) : Option (Int32 × Int32) := Option.bind (f_MM_isState l1 h0_many h0_thrown) (fun o1 => if (o1.1 : Int32) = 0 then some ((-1), o1.2) else chk (0 ≤ (l1 : Int32).toInt ∧ (l1 : Int32).toInt < h0_kindOf_n) (some ((h0_kindOf_c (l1 : Int32).toNatClampNeg), o1.2)))
set_option maxHeartbeats 4000000 in
set_option maxRecDepth 100000 in
theorem b_MM_kind_0 {p : Program} {l : Launch} {e : Env} {s : State} {m : MethodId} {args : Array Value} {below : List Frame} {meth : Method} {c : Code} {D : va_G} {tA : Nat → ClassId} {A : Nat → Prop} {h0 h0_kindOf : Nat} {f0_h0 : List Value} {h0_kindOf_n : Nat} {l1 : Int32} {h0_many : Int32} {h0_kindOf_c : Nat → Int32} {h0_thrown : Int32} {out : Int32 × Int32} (hx : p.tables.exec = Jvm.exec) (hb : c.code = prog_15_method_91_code) (hr : meth.sig.returnType = (Option.some Jvm.ClassFile.FieldType.int)) (hml : c.maxLocals = 2) (hh : zH s) (hg : ∀ w ∈ lw_R, w.before args s = true) (hown : s.vm.findClass "ChanceArenaModel" = some m.cls) (hlocks : meth.locks = false) (hK : va_K D vwCl (zT tA) s) (hA : ∀ q, s.heap.size ≤ q → A q)  : ∀ (f_h0 : List Value) (H : Heap) (locs : List Loc) (ls : Array Slot), f_MM_kind h0_kindOf_n l1 h0_many h0_kindOf_c h0_thrown = some out → f_h0[32]? = some (.ref h0_kindOf) → f_h0[0]? = some (.int h0_thrown) → f_h0[29]? = some (.int h0_many) → Fr [0] f0_h0 f_h0 → va_P D vwCl [(h0, .inr (13, f_h0)), (h0_kindOf, .inl (tA 0, h0_kindOf_n, .inl h0_kindOf_c))] H → va_D A [(h0, .inr (13, f_h0)), (h0_kindOf, .inl (tA 0, h0_kindOf_n, .inl h0_kindOf_c))] → va_S A s.heap H locs → lv_has ls 2 [(0, .ref h0), (1, .int l1)] → W p l e { frames := 1, cells := 0, slots := 0, locals := 21 } s m args below meth c H locs 0 0 (MQ below (va_Qi (fun (r9 : Int32) (u9 : List Value) => r9 = out.1 ∧ Fr [0] f0_h0 u9 ∧ u9[0]? = some (.int out.2)) (zPost D A (fun (u9 : List Value) => [(h0, .inr (13, u9)), (h0_kindOf, .inl (tA 0, h0_kindOf_n, .inl h0_kindOf_c))])) A) args s 0 0 A) (F0 m 0 ls []) := by
  intro   f_h0 H locs ls hF q_h0_kindOf q_h0_thrown q_h0_many r_h0 hP hD hS hl
  replace hF : ((Option.bind (f_MM_isState l1 h0_many h0_thrown) (fun o1 => if (o1.1 : Int32) = 0 then some ((-1), o1.2) else chk (0 ≤ (l1 : Int32).toInt ∧ (l1 : Int32).toInt < h0_kindOf_n) (some ((h0_kindOf_c (l1 : Int32).toNatClampNeg), o1.2)))) : Option (Int32 × Int32)) = some out := hF
  refine lv_aload_n hx hb d_MM_kind_0 rfl (lv_at hl 0 rfl) ?_
  refine lv_iload_n hx hb d_MM_kind_1 rfl (lv_at hl 1 rfl) ?_
  obtain ⟨o1, h1, hF⟩ := bsome hF
  refine zCalli (wc := [(h0, .inr (13, f_h0))]) (wr := [(h0_kindOf, .inl (tA 0, h0_kindOf_n, .inl h0_kindOf_c))]) hP hD hS hA [0] [1] rfl rfl (by decide) (by decide) (va_runV (As := [.int l1]) (rest := []) ⟨hx, hb, hml, hown, hg⟩ (m_MM_isState l D tA _ h0 f_h0 l1 h0_many h0_thrown q_h0_thrown q_h0_many o1 h1) (zV 1 hg k12_122 k12_124 ks_MM_isState k1_14 k12_125 rfl rfl (by decide +kernel) ⟨(Nat.le_of_ble_eq_true rfl), (Nat.le_of_ble_eq_true rfl)⟩) (zPreV hh hK hP hD [0] (by decide) rfl (ci := 13) rfl 0 rfl) rfl rfl hl.1 rfl (lv_room (Nat.le_of_ble_eq_true rfl)) d_MM_kind_2 ⟨(Nat.le_of_ble_eq_true rfl), (Nat.le_of_ble_eq_true rfl)⟩) (fun r1 v1_h0 H1 locs1 e1 hP1 hD1 hS1 => ?_)
  clear hP hD hS
  refine W.cs (cells' := 0) (slots' := 0) rfl rfl ?_
  obtain ⟨x1, r1_h0, q1_h0_thrown⟩ := e1
  rw [x1]
  replace hP1 : va_P D vwCl [(h0_kindOf, .inl (tA 0, h0_kindOf_n, .inl h0_kindOf_c)), (h0, .inr (13, v1_h0))] _ := hP1
  replace hD1 : va_D A [(h0_kindOf, .inl (tA 0, h0_kindOf_n, .inl h0_kindOf_c)), (h0, .inr (13, v1_h0))] := hD1
  refine lv_if_eq (tgt := 17) hx hb d_MM_kind_5 (by decide) (fun c9 => ?_) (fun c9 => ?_)
  · replace hF := ifp c9 hF
    refine lv_iconst (v := (-1)) hx hb d_MM_kind_17 (by decide) ?_
    replace hF := Option.some.inj hF
    subst hF
    exact zZret (post := (fun (r9 : Int32) (u9 : List Value) => r9 = ((-1), o1.2).1 ∧ Fr [0] f0_h0 u9 ∧ u9[0]? = some (.int (((-1), o1.2).2)))) (W1 := (fun (u9 : List Value) => [(h0, .inr (13, u9)), (h0_kindOf, .inl (tA 0, h0_kindOf_n, .inl h0_kindOf_c))])) (v := (-1)) hx hb hr rfl hlocks (zPc (wc := [(h0, .inr (13, v1_h0)), (h0_kindOf, .inl (tA 0, h0_kindOf_n, .inl h0_kindOf_c))]) hP1 [1, 0] rfl) (va_D.sub (ws' := [(h0, .inr (13, v1_h0)), (h0_kindOf, .inl (tA 0, h0_kindOf_n, .inl h0_kindOf_c))]) hD1 [1, 0] (by decide) rfl) hS1 (v1_h0) ⟨rfl, (Fr.trans r_h0 (Fr.sub r1_h0 (by decide))), q1_h0_thrown⟩ rfl d_MM_kind_18
  · replace hF := ifn c9 hF
    refine lv_aload_n hx hb d_MM_kind_8 rfl (lv_at hl 0 rfl) ?_
    refine va_get (D := D) (ci := 13) (v := .ref h0_kindOf) (C := R_MM) (T := T_MM) (N := 49) hx hb hg i_MM hown hK hP1 1 rfl rfl 32 (by decide) (hg _ k10_78) (fun _ h9 => h9) (Fr.get r1_h0 (by decide) q_h0_kindOf) d_MM_kind_9 ?_
    refine lv_iload_n hx hb d_MM_kind_12 rfl (lv_at hl 1 rfl) ?_
    obtain ⟨h9, hF⟩ := chk_some hF
    refine va_iald hx hb hK hP1 0 0 rfl rfl (vp_in_iff.mpr h9) d_MM_kind_13 ?_
    refine lv_goto (tgt := 18) hx hb d_MM_kind_14 (by decide) ?_
    replace hF := Option.some.inj hF
    subst hF
    exact zZret (post := (fun (r9 : Int32) (u9 : List Value) => r9 = ((h0_kindOf_c (l1 : Int32).toNatClampNeg), o1.2).1 ∧ Fr [0] f0_h0 u9 ∧ u9[0]? = some (.int (((h0_kindOf_c (l1 : Int32).toNatClampNeg), o1.2).2)))) (W1 := (fun (u9 : List Value) => [(h0, .inr (13, u9)), (h0_kindOf, .inl (tA 0, h0_kindOf_n, .inl h0_kindOf_c))])) (v := (h0_kindOf_c (l1 : Int32).toNatClampNeg)) hx hb hr rfl hlocks (zPc (wc := [(h0, .inr (13, v1_h0)), (h0_kindOf, .inl (tA 0, h0_kindOf_n, .inl h0_kindOf_c))]) hP1 [1, 0] rfl) (va_D.sub (ws' := [(h0, .inr (13, v1_h0)), (h0_kindOf, .inl (tA 0, h0_kindOf_n, .inl h0_kindOf_c))]) hD1 [1, 0] (by decide) rfl) hS1 (v1_h0) ⟨rfl, (Fr.trans r_h0 (Fr.sub r1_h0 (by decide))), q1_h0_thrown⟩ rfl d_MM_kind_18
set_option maxHeartbeats 4000000 in
set_option maxRecDepth 100000 in
theorem m_MM_kind (l : Launch) (D : va_G) (tA : Nat → ClassId) (sz : Nat) (h0 h0_kindOf : Nat) (f0_h0 : List Value) (h0_kindOf_n : Nat) (l1 : Int32) (h0_many : Int32) (h0_kindOf_c : Nat → Int32) (h0_thrown : Int32) (q_h0_kindOf : f0_h0[32]? = some (.ref h0_kindOf)) (q_h0_thrown : f0_h0[0]? = some (.int h0_thrown)) (q_h0_many : f0_h0[29]? = some (.int h0_many)) (out : Int32 × Int32) (hF : f_MM_kind h0_kindOf_n l1 h0_many h0_kindOf_c h0_thrown = some out) : zMi l ({ cls := "ChanceArenaModel", name := "kind", desc := "(I)I" } : Jvm.MethodName) (zW (Jvm.Cond.code ({ cls := "ChanceArenaModel", name := "kind", desc := "(I)I" } : Jvm.MethodName) prog_15_method_91_code (2 : Nat) (Option.some Jvm.ClassFile.FieldType.int))) { frames := 1, cells := 0, slots := 0, locals := 21 } [.ref h0, .int l1] D tA [(h0, .inr (13, f0_h0)), (h0_kindOf, .inl (tA 0, h0_kindOf_n, .inl h0_kindOf_c))] sz (fun (r9 : Int32) (u9 : List Value) => r9 = out.1 ∧ Fr [0] f0_h0 u9 ∧ u9[0]? = some (.int out.2)) (fun (u9 : List Value) => [(h0, .inr (13, u9)), (h0_kindOf, .inl (tA 0, h0_kindOf_n, .inl h0_kindOf_c))]) 0 0 := by
  refine zOpen (l := l) (y := ({ cls := "ChanceArenaModel", name := "kind", desc := "(I)I" } : Jvm.MethodName)) (ws := zW (Jvm.Cond.code ({ cls := "ChanceArenaModel", name := "kind", desc := "(I)I" } : Jvm.MethodName) prog_15_method_91_code (2 : Nat) (Option.some Jvm.ClassFile.FieldType.int))) (rm := { frames := 1, cells := 0, slots := 0, locals := 21 }) (av := [.ref h0, .int l1]) (D := D) (tA := tA) (W0 := [(h0, .inr (13, f0_h0)), (h0_kindOf, .inl (tA 0, h0_kindOf_n, .inl h0_kindOf_c))]) (Wm := [(h0, .inr (13, f0_h0)), (h0_kindOf, .inl (tA 0, h0_kindOf_n, .inl h0_kindOf_c))]) (sz := sz) (mc := 0) (ms := 0) (fun A => va_Qi (fun (r9 : Int32) (u9 : List Value) => r9 = out.1 ∧ Fr [0] f0_h0 u9 ∧ u9[0]? = some (.int out.2)) (zPost D A (fun (u9 : List Value) => [(h0, .inr (13, u9)), (h0_kindOf, .inl (tA 0, h0_kindOf_n, .inl h0_kindOf_c))])) A) (lv := [(0, .ref h0), (1, .int l1)]) (by decide) rfl (Nat.le_of_ble_eq_true rfl) rfl ?_
  intro p e s m below meth c A ls hx hb hr hml hh hg hown hlocks hnm hK hA hP hD0 hAw hS hl
  have hD := zD hD0 hAw
  exact b_MM_kind_0 hx hb hr hml hh hg hown hlocks hK hA   f0_h0 _ _ _ hF q_h0_kindOf q_h0_thrown q_h0_many Fr.rfl hP hD hS hl
def f_MM_commands (h0_manyCommands_n : Nat) (l1 : Int32) (h0_many : Int32) (h0_manyCommands_c : Nat → Int32) (h0_thrown : Int32) : Option (Int32 × Int32) := Option.bind (f_MM_isState l1 h0_many h0_thrown) (fun o1 => if (o1.1 : Int32) = 0 then some ((-1), o1.2) else chk (0 ≤ (l1 : Int32).toInt ∧ (l1 : Int32).toInt < h0_manyCommands_n) (some ((h0_manyCommands_c (l1 : Int32).toNatClampNeg), o1.2)))
set_option maxHeartbeats 4000000 in
set_option maxRecDepth 100000 in
theorem b_MM_commands_0 {p : Program} {l : Launch} {e : Env} {s : State} {m : MethodId} {args : Array Value} {below : List Frame} {meth : Method} {c : Code} {D : va_G} {tA : Nat → ClassId} {A : Nat → Prop} {h0 h0_manyCommands : Nat} {f0_h0 : List Value} {h0_manyCommands_n : Nat} {l1 : Int32} {h0_many : Int32} {h0_manyCommands_c : Nat → Int32} {h0_thrown : Int32} {out : Int32 × Int32} (hx : p.tables.exec = Jvm.exec) (hb : c.code = prog_15_method_92_code) (hr : meth.sig.returnType = (Option.some Jvm.ClassFile.FieldType.int)) (hml : c.maxLocals = 2) (hh : zH s) (hg : ∀ w ∈ lw_R, w.before args s = true) (hown : s.vm.findClass "ChanceArenaModel" = some m.cls) (hlocks : meth.locks = false) (hK : va_K D vwCl (zT tA) s) (hA : ∀ q, s.heap.size ≤ q → A q)  : ∀ (f_h0 : List Value) (H : Heap) (locs : List Loc) (ls : Array Slot), f_MM_commands h0_manyCommands_n l1 h0_many h0_manyCommands_c h0_thrown = some out → f_h0[34]? = some (.ref h0_manyCommands) → f_h0[0]? = some (.int h0_thrown) → f_h0[29]? = some (.int h0_many) → Fr [0] f0_h0 f_h0 → va_P D vwCl [(h0, .inr (13, f_h0)), (h0_manyCommands, .inl (tA 0, h0_manyCommands_n, .inl h0_manyCommands_c))] H → va_D A [(h0, .inr (13, f_h0)), (h0_manyCommands, .inl (tA 0, h0_manyCommands_n, .inl h0_manyCommands_c))] → va_S A s.heap H locs → lv_has ls 2 [(0, .ref h0), (1, .int l1)] → W p l e { frames := 1, cells := 0, slots := 0, locals := 21 } s m args below meth c H locs 0 0 (MQ below (va_Qi (fun (r9 : Int32) (u9 : List Value) => r9 = out.1 ∧ Fr [0] f0_h0 u9 ∧ u9[0]? = some (.int out.2)) (zPost D A (fun (u9 : List Value) => [(h0, .inr (13, u9)), (h0_manyCommands, .inl (tA 0, h0_manyCommands_n, .inl h0_manyCommands_c))])) A) args s 0 0 A) (F0 m 0 ls []) := by
  intro   f_h0 H locs ls hF q_h0_manyCommands q_h0_thrown q_h0_many r_h0 hP hD hS hl
  replace hF : ((Option.bind (f_MM_isState l1 h0_many h0_thrown) (fun o1 => if (o1.1 : Int32) = 0 then some ((-1), o1.2) else chk (0 ≤ (l1 : Int32).toInt ∧ (l1 : Int32).toInt < h0_manyCommands_n) (some ((h0_manyCommands_c (l1 : Int32).toNatClampNeg), o1.2)))) : Option (Int32 × Int32)) = some out := hF
  refine lv_aload_n hx hb d_MM_commands_0 rfl (lv_at hl 0 rfl) ?_
  refine lv_iload_n hx hb d_MM_commands_1 rfl (lv_at hl 1 rfl) ?_
  obtain ⟨o1, h1, hF⟩ := bsome hF
  refine zCalli (wc := [(h0, .inr (13, f_h0))]) (wr := [(h0_manyCommands, .inl (tA 0, h0_manyCommands_n, .inl h0_manyCommands_c))]) hP hD hS hA [0] [1] rfl rfl (by decide) (by decide) (va_runV (As := [.int l1]) (rest := []) ⟨hx, hb, hml, hown, hg⟩ (m_MM_isState l D tA _ h0 f_h0 l1 h0_many h0_thrown q_h0_thrown q_h0_many o1 h1) (zV 1 hg k12_122 k12_124 ks_MM_isState k1_14 k12_125 rfl rfl (by decide +kernel) ⟨(Nat.le_of_ble_eq_true rfl), (Nat.le_of_ble_eq_true rfl)⟩) (zPreV hh hK hP hD [0] (by decide) rfl (ci := 13) rfl 0 rfl) rfl rfl hl.1 rfl (lv_room (Nat.le_of_ble_eq_true rfl)) d_MM_commands_2 ⟨(Nat.le_of_ble_eq_true rfl), (Nat.le_of_ble_eq_true rfl)⟩) (fun r1 v1_h0 H1 locs1 e1 hP1 hD1 hS1 => ?_)
  clear hP hD hS
  refine W.cs (cells' := 0) (slots' := 0) rfl rfl ?_
  obtain ⟨x1, r1_h0, q1_h0_thrown⟩ := e1
  rw [x1]
  replace hP1 : va_P D vwCl [(h0_manyCommands, .inl (tA 0, h0_manyCommands_n, .inl h0_manyCommands_c)), (h0, .inr (13, v1_h0))] _ := hP1
  replace hD1 : va_D A [(h0_manyCommands, .inl (tA 0, h0_manyCommands_n, .inl h0_manyCommands_c)), (h0, .inr (13, v1_h0))] := hD1
  refine lv_if_eq (tgt := 17) hx hb d_MM_commands_5 (by decide) (fun c9 => ?_) (fun c9 => ?_)
  · replace hF := ifp c9 hF
    refine lv_iconst (v := (-1)) hx hb d_MM_commands_17 (by decide) ?_
    replace hF := Option.some.inj hF
    subst hF
    exact zZret (post := (fun (r9 : Int32) (u9 : List Value) => r9 = ((-1), o1.2).1 ∧ Fr [0] f0_h0 u9 ∧ u9[0]? = some (.int (((-1), o1.2).2)))) (W1 := (fun (u9 : List Value) => [(h0, .inr (13, u9)), (h0_manyCommands, .inl (tA 0, h0_manyCommands_n, .inl h0_manyCommands_c))])) (v := (-1)) hx hb hr rfl hlocks (zPc (wc := [(h0, .inr (13, v1_h0)), (h0_manyCommands, .inl (tA 0, h0_manyCommands_n, .inl h0_manyCommands_c))]) hP1 [1, 0] rfl) (va_D.sub (ws' := [(h0, .inr (13, v1_h0)), (h0_manyCommands, .inl (tA 0, h0_manyCommands_n, .inl h0_manyCommands_c))]) hD1 [1, 0] (by decide) rfl) hS1 (v1_h0) ⟨rfl, (Fr.trans r_h0 (Fr.sub r1_h0 (by decide))), q1_h0_thrown⟩ rfl d_MM_commands_18
  · replace hF := ifn c9 hF
    refine lv_aload_n hx hb d_MM_commands_8 rfl (lv_at hl 0 rfl) ?_
    refine va_get (D := D) (ci := 13) (v := .ref h0_manyCommands) (C := R_MM) (T := T_MM) (N := 49) hx hb hg i_MM hown hK hP1 1 rfl rfl 34 (by decide) (hg _ k10_80) (fun _ h9 => h9) (Fr.get r1_h0 (by decide) q_h0_manyCommands) d_MM_commands_9 ?_
    refine lv_iload_n hx hb d_MM_commands_12 rfl (lv_at hl 1 rfl) ?_
    obtain ⟨h9, hF⟩ := chk_some hF
    refine va_iald hx hb hK hP1 0 0 rfl rfl (vp_in_iff.mpr h9) d_MM_commands_13 ?_
    refine lv_goto (tgt := 18) hx hb d_MM_commands_14 (by decide) ?_
    replace hF := Option.some.inj hF
    subst hF
    exact zZret (post := (fun (r9 : Int32) (u9 : List Value) => r9 = ((h0_manyCommands_c (l1 : Int32).toNatClampNeg), o1.2).1 ∧ Fr [0] f0_h0 u9 ∧ u9[0]? = some (.int (((h0_manyCommands_c (l1 : Int32).toNatClampNeg), o1.2).2)))) (W1 := (fun (u9 : List Value) => [(h0, .inr (13, u9)), (h0_manyCommands, .inl (tA 0, h0_manyCommands_n, .inl h0_manyCommands_c))])) (v := (h0_manyCommands_c (l1 : Int32).toNatClampNeg)) hx hb hr rfl hlocks (zPc (wc := [(h0, .inr (13, v1_h0)), (h0_manyCommands, .inl (tA 0, h0_manyCommands_n, .inl h0_manyCommands_c))]) hP1 [1, 0] rfl) (va_D.sub (ws' := [(h0, .inr (13, v1_h0)), (h0_manyCommands, .inl (tA 0, h0_manyCommands_n, .inl h0_manyCommands_c))]) hD1 [1, 0] (by decide) rfl) hS1 (v1_h0) ⟨rfl, (Fr.trans r_h0 (Fr.sub r1_h0 (by decide))), q1_h0_thrown⟩ rfl d_MM_commands_18
set_option maxHeartbeats 4000000 in
set_option maxRecDepth 100000 in
theorem m_MM_commands (l : Launch) (D : va_G) (tA : Nat → ClassId) (sz : Nat) (h0 h0_manyCommands : Nat) (f0_h0 : List Value) (h0_manyCommands_n : Nat) (l1 : Int32) (h0_many : Int32) (h0_manyCommands_c : Nat → Int32) (h0_thrown : Int32) (q_h0_manyCommands : f0_h0[34]? = some (.ref h0_manyCommands)) (q_h0_thrown : f0_h0[0]? = some (.int h0_thrown)) (q_h0_many : f0_h0[29]? = some (.int h0_many)) (out : Int32 × Int32) (hF : f_MM_commands h0_manyCommands_n l1 h0_many h0_manyCommands_c h0_thrown = some out) : zMi l ({ cls := "ChanceArenaModel", name := "commands", desc := "(I)I" } : Jvm.MethodName) (zW (Jvm.Cond.code ({ cls := "ChanceArenaModel", name := "commands", desc := "(I)I" } : Jvm.MethodName) prog_15_method_92_code (2 : Nat) (Option.some Jvm.ClassFile.FieldType.int))) { frames := 1, cells := 0, slots := 0, locals := 21 } [.ref h0, .int l1] D tA [(h0, .inr (13, f0_h0)), (h0_manyCommands, .inl (tA 0, h0_manyCommands_n, .inl h0_manyCommands_c))] sz (fun (r9 : Int32) (u9 : List Value) => r9 = out.1 ∧ Fr [0] f0_h0 u9 ∧ u9[0]? = some (.int out.2)) (fun (u9 : List Value) => [(h0, .inr (13, u9)), (h0_manyCommands, .inl (tA 0, h0_manyCommands_n, .inl h0_manyCommands_c))]) 0 0 := by
  refine zOpen (l := l) (y := ({ cls := "ChanceArenaModel", name := "commands", desc := "(I)I" } : Jvm.MethodName)) (ws := zW (Jvm.Cond.code ({ cls := "ChanceArenaModel", name := "commands", desc := "(I)I" } : Jvm.MethodName) prog_15_method_92_code (2 : Nat) (Option.some Jvm.ClassFile.FieldType.int))) (rm := { frames := 1, cells := 0, slots := 0, locals := 21 }) (av := [.ref h0, .int l1]) (D := D) (tA := tA) (W0 := [(h0, .inr (13, f0_h0)), (h0_manyCommands, .inl (tA 0, h0_manyCommands_n, .inl h0_manyCommands_c))]) (Wm := [(h0, .inr (13, f0_h0)), (h0_manyCommands, .inl (tA 0, h0_manyCommands_n, .inl h0_manyCommands_c))]) (sz := sz) (mc := 0) (ms := 0) (fun A => va_Qi (fun (r9 : Int32) (u9 : List Value) => r9 = out.1 ∧ Fr [0] f0_h0 u9 ∧ u9[0]? = some (.int out.2)) (zPost D A (fun (u9 : List Value) => [(h0, .inr (13, u9)), (h0_manyCommands, .inl (tA 0, h0_manyCommands_n, .inl h0_manyCommands_c))])) A) (lv := [(0, .ref h0), (1, .int l1)]) (by decide) rfl (Nat.le_of_ble_eq_true rfl) rfl ?_
  intro p e s m below meth c A ls hx hb hr hml hh hg hown hlocks hnm hK hA hP hD0 hAw hS hl
  have hD := zD hD0 hAw
  exact b_MM_commands_0 hx hb hr hml hh hg hown hlocks hK hA   f0_h0 _ _ _ hF q_h0_manyCommands q_h0_thrown q_h0_many Fr.rfl hP hD hS hl
def f_MM_isCommand (h0_manyCommands_n : Nat) (l1 : Int32) (l2 : Int32) (h0_many : Int32) (h0_manyCommands_c : Nat → Int32) (h0_thrown : Int32) : Option (Int32 × Int32) := Option.bind (f_MM_isState l1 h0_many h0_thrown) (fun o1 => if (o1.1 : Int32) = 0 then some (0, o1.2) else if (l2 : Int32) < 0 then some (0, o1.2) else chk (0 ≤ (l1 : Int32).toInt ∧ (l1 : Int32).toInt < h0_manyCommands_n) (if ((h0_manyCommands_c (l1 : Int32).toNatClampNeg) : Int32) ≤ l2 then some (0, o1.2) else some (1, o1.2)))
set_option maxHeartbeats 4000000 in
set_option maxRecDepth 100000 in
theorem b_MM_isCommand_0 {p : Program} {l : Launch} {e : Env} {s : State} {m : MethodId} {args : Array Value} {below : List Frame} {meth : Method} {c : Code} {D : va_G} {tA : Nat → ClassId} {A : Nat → Prop} {h0 h0_manyCommands : Nat} {f0_h0 : List Value} {h0_manyCommands_n : Nat} {l1 : Int32} {l2 : Int32} {h0_many : Int32} {h0_manyCommands_c : Nat → Int32} {h0_thrown : Int32} {out : Int32 × Int32} (hx : p.tables.exec = Jvm.exec) (hb : c.code = prog_15_method_93_code) (hr : meth.sig.returnType = (Option.some Jvm.ClassFile.FieldType.boolean)) (hml : c.maxLocals = 3) (hh : zH s) (hg : ∀ w ∈ lw_R, w.before args s = true) (hown : s.vm.findClass "ChanceArenaModel" = some m.cls) (hlocks : meth.locks = false) (hK : va_K D vwCl (zT tA) s) (hA : ∀ q, s.heap.size ≤ q → A q)  : ∀ (f_h0 : List Value) (H : Heap) (locs : List Loc) (ls : Array Slot), f_MM_isCommand h0_manyCommands_n l1 l2 h0_many h0_manyCommands_c h0_thrown = some out → f_h0[34]? = some (.ref h0_manyCommands) → f_h0[0]? = some (.int h0_thrown) → f_h0[29]? = some (.int h0_many) → Fr [0] f0_h0 f_h0 → va_P D vwCl [(h0, .inr (13, f_h0)), (h0_manyCommands, .inl (tA 0, h0_manyCommands_n, .inl h0_manyCommands_c))] H → va_D A [(h0, .inr (13, f_h0)), (h0_manyCommands, .inl (tA 0, h0_manyCommands_n, .inl h0_manyCommands_c))] → va_S A s.heap H locs → lv_has ls 3 [(0, .ref h0), (1, .int l1), (2, .int l2)] → W p l e { frames := 1, cells := 0, slots := 0, locals := 21 } s m args below meth c H locs 0 0 (MQ below (va_Qi (fun (r9 : Int32) (u9 : List Value) => r9 = out.1 ∧ Fr [0] f0_h0 u9 ∧ u9[0]? = some (.int out.2)) (zPost D A (fun (u9 : List Value) => [(h0, .inr (13, u9)), (h0_manyCommands, .inl (tA 0, h0_manyCommands_n, .inl h0_manyCommands_c))])) A) args s 0 0 A) (F0 m 0 ls []) := by
  intro   f_h0 H locs ls hF q_h0_manyCommands q_h0_thrown q_h0_many r_h0 hP hD hS hl
  replace hF : ((Option.bind (f_MM_isState l1 h0_many h0_thrown) (fun o1 => if (o1.1 : Int32) = 0 then some (0, o1.2) else if (l2 : Int32) < 0 then some (0, o1.2) else chk (0 ≤ (l1 : Int32).toInt ∧ (l1 : Int32).toInt < h0_manyCommands_n) (if ((h0_manyCommands_c (l1 : Int32).toNatClampNeg) : Int32) ≤ l2 then some (0, o1.2) else some (1, o1.2)))) : Option (Int32 × Int32)) = some out := hF
  refine lv_aload_n hx hb d_MM_isCommand_0 rfl (lv_at hl 0 rfl) ?_
  refine lv_iload_n hx hb d_MM_isCommand_1 rfl (lv_at hl 1 rfl) ?_
  obtain ⟨o1, h1, hF⟩ := bsome hF
  refine zCalli (wc := [(h0, .inr (13, f_h0))]) (wr := [(h0_manyCommands, .inl (tA 0, h0_manyCommands_n, .inl h0_manyCommands_c))]) hP hD hS hA [0] [1] rfl rfl (by decide) (by decide) (va_runV (As := [.int l1]) (rest := []) ⟨hx, hb, hml, hown, hg⟩ (m_MM_isState l D tA _ h0 f_h0 l1 h0_many h0_thrown q_h0_thrown q_h0_many o1 h1) (zV 1 hg k12_122 k12_124 ks_MM_isState k1_14 k12_125 rfl rfl (by decide +kernel) ⟨(Nat.le_of_ble_eq_true rfl), (Nat.le_of_ble_eq_true rfl)⟩) (zPreV hh hK hP hD [0] (by decide) rfl (ci := 13) rfl 0 rfl) rfl rfl hl.1 rfl (lv_room (Nat.le_of_ble_eq_true rfl)) d_MM_isCommand_2 ⟨(Nat.le_of_ble_eq_true rfl), (Nat.le_of_ble_eq_true rfl)⟩) (fun r1 v1_h0 H1 locs1 e1 hP1 hD1 hS1 => ?_)
  clear hP hD hS
  refine W.cs (cells' := 0) (slots' := 0) rfl rfl ?_
  obtain ⟨x1, r1_h0, q1_h0_thrown⟩ := e1
  rw [x1]
  replace hP1 : va_P D vwCl [(h0_manyCommands, .inl (tA 0, h0_manyCommands_n, .inl h0_manyCommands_c)), (h0, .inr (13, v1_h0))] _ := hP1
  replace hD1 : va_D A [(h0_manyCommands, .inl (tA 0, h0_manyCommands_n, .inl h0_manyCommands_c)), (h0, .inr (13, v1_h0))] := hD1
  refine lv_if_eq (tgt := 26) hx hb d_MM_isCommand_5 (by decide) (fun c9 => ?_) (fun c9 => ?_)
  · replace hF := ifp c9 hF
    refine lv_iconst (v := 0) hx hb d_MM_isCommand_26 (by decide) ?_
    replace hF := Option.some.inj hF
    subst hF
    exact zZret (post := (fun (r9 : Int32) (u9 : List Value) => r9 = (0, o1.2).1 ∧ Fr [0] f0_h0 u9 ∧ u9[0]? = some (.int ((0, o1.2).2)))) (W1 := (fun (u9 : List Value) => [(h0, .inr (13, u9)), (h0_manyCommands, .inl (tA 0, h0_manyCommands_n, .inl h0_manyCommands_c))])) (v := 0) hx hb hr rfl hlocks (zPc (wc := [(h0, .inr (13, v1_h0)), (h0_manyCommands, .inl (tA 0, h0_manyCommands_n, .inl h0_manyCommands_c))]) hP1 [1, 0] rfl) (va_D.sub (ws' := [(h0, .inr (13, v1_h0)), (h0_manyCommands, .inl (tA 0, h0_manyCommands_n, .inl h0_manyCommands_c))]) hD1 [1, 0] (by decide) rfl) hS1 (v1_h0) ⟨rfl, (Fr.trans r_h0 (Fr.sub r1_h0 (by decide))), q1_h0_thrown⟩ rfl d_MM_isCommand_27
  · replace hF := ifn c9 hF
    refine lv_iload_n hx hb d_MM_isCommand_8 rfl (lv_at hl 2 rfl) ?_
    refine lv_if_lt (tgt := 26) hx hb d_MM_isCommand_9 (by decide) (fun c9 => ?_) (fun c9 => ?_)
    · replace hF := ifp c9 hF
      refine lv_iconst (v := 0) hx hb d_MM_isCommand_26 (by decide) ?_
      replace hF := Option.some.inj hF
      subst hF
      exact zZret (post := (fun (r9 : Int32) (u9 : List Value) => r9 = (0, o1.2).1 ∧ Fr [0] f0_h0 u9 ∧ u9[0]? = some (.int ((0, o1.2).2)))) (W1 := (fun (u9 : List Value) => [(h0, .inr (13, u9)), (h0_manyCommands, .inl (tA 0, h0_manyCommands_n, .inl h0_manyCommands_c))])) (v := 0) hx hb hr rfl hlocks (zPc (wc := [(h0, .inr (13, v1_h0)), (h0_manyCommands, .inl (tA 0, h0_manyCommands_n, .inl h0_manyCommands_c))]) hP1 [1, 0] rfl) (va_D.sub (ws' := [(h0, .inr (13, v1_h0)), (h0_manyCommands, .inl (tA 0, h0_manyCommands_n, .inl h0_manyCommands_c))]) hD1 [1, 0] (by decide) rfl) hS1 (v1_h0) ⟨rfl, (Fr.trans r_h0 (Fr.sub r1_h0 (by decide))), q1_h0_thrown⟩ rfl d_MM_isCommand_27
    · replace hF := ifn c9 hF
      refine lv_iload_n hx hb d_MM_isCommand_12 rfl (lv_at hl 2 rfl) ?_
      refine lv_aload_n hx hb d_MM_isCommand_13 rfl (lv_at hl 0 rfl) ?_
      refine va_get (D := D) (ci := 13) (v := .ref h0_manyCommands) (C := R_MM) (T := T_MM) (N := 49) hx hb hg i_MM hown hK hP1 1 rfl rfl 34 (by decide) (hg _ k10_80) (fun _ h9 => h9) (Fr.get r1_h0 (by decide) q_h0_manyCommands) d_MM_isCommand_14 ?_
      refine lv_iload_n hx hb d_MM_isCommand_17 rfl (lv_at hl 1 rfl) ?_
      obtain ⟨h9, hF⟩ := chk_some hF
      refine va_iald hx hb hK hP1 0 0 rfl rfl (vp_in_iff.mpr h9) d_MM_isCommand_18 ?_
      refine lv_icmp_ge (tgt := 26) hx hb d_MM_isCommand_19 (by decide) (fun c9 => ?_) (fun c9 => ?_)
      · replace hF := ifp c9 hF
        refine lv_iconst (v := 0) hx hb d_MM_isCommand_26 (by decide) ?_
        replace hF := Option.some.inj hF
        subst hF
        exact zZret (post := (fun (r9 : Int32) (u9 : List Value) => r9 = (0, o1.2).1 ∧ Fr [0] f0_h0 u9 ∧ u9[0]? = some (.int ((0, o1.2).2)))) (W1 := (fun (u9 : List Value) => [(h0, .inr (13, u9)), (h0_manyCommands, .inl (tA 0, h0_manyCommands_n, .inl h0_manyCommands_c))])) (v := 0) hx hb hr rfl hlocks (zPc (wc := [(h0, .inr (13, v1_h0)), (h0_manyCommands, .inl (tA 0, h0_manyCommands_n, .inl h0_manyCommands_c))]) hP1 [1, 0] rfl) (va_D.sub (ws' := [(h0, .inr (13, v1_h0)), (h0_manyCommands, .inl (tA 0, h0_manyCommands_n, .inl h0_manyCommands_c))]) hD1 [1, 0] (by decide) rfl) hS1 (v1_h0) ⟨rfl, (Fr.trans r_h0 (Fr.sub r1_h0 (by decide))), q1_h0_thrown⟩ rfl d_MM_isCommand_27
      · replace hF := ifn c9 hF
        refine lv_iconst (v := 1) hx hb d_MM_isCommand_22 (by decide) ?_
        refine lv_goto (tgt := 27) hx hb d_MM_isCommand_23 (by decide) ?_
        replace hF := Option.some.inj hF
        subst hF
        exact zZret (post := (fun (r9 : Int32) (u9 : List Value) => r9 = (1, o1.2).1 ∧ Fr [0] f0_h0 u9 ∧ u9[0]? = some (.int ((1, o1.2).2)))) (W1 := (fun (u9 : List Value) => [(h0, .inr (13, u9)), (h0_manyCommands, .inl (tA 0, h0_manyCommands_n, .inl h0_manyCommands_c))])) (v := 1) hx hb hr rfl hlocks (zPc (wc := [(h0, .inr (13, v1_h0)), (h0_manyCommands, .inl (tA 0, h0_manyCommands_n, .inl h0_manyCommands_c))]) hP1 [1, 0] rfl) (va_D.sub (ws' := [(h0, .inr (13, v1_h0)), (h0_manyCommands, .inl (tA 0, h0_manyCommands_n, .inl h0_manyCommands_c))]) hD1 [1, 0] (by decide) rfl) hS1 (v1_h0) ⟨rfl, (Fr.trans r_h0 (Fr.sub r1_h0 (by decide))), q1_h0_thrown⟩ rfl d_MM_isCommand_27
set_option maxHeartbeats 4000000 in
set_option maxRecDepth 100000 in
theorem m_MM_isCommand (l : Launch) (D : va_G) (tA : Nat → ClassId) (sz : Nat) (h0 h0_manyCommands : Nat) (f0_h0 : List Value) (h0_manyCommands_n : Nat) (l1 : Int32) (l2 : Int32) (h0_many : Int32) (h0_manyCommands_c : Nat → Int32) (h0_thrown : Int32) (q_h0_manyCommands : f0_h0[34]? = some (.ref h0_manyCommands)) (q_h0_thrown : f0_h0[0]? = some (.int h0_thrown)) (q_h0_many : f0_h0[29]? = some (.int h0_many)) (out : Int32 × Int32) (hF : f_MM_isCommand h0_manyCommands_n l1 l2 h0_many h0_manyCommands_c h0_thrown = some out) : zMi l ({ cls := "ChanceArenaModel", name := "isCommand", desc := "(II)Z" } : Jvm.MethodName) (zW (Jvm.Cond.code ({ cls := "ChanceArenaModel", name := "isCommand", desc := "(II)Z" } : Jvm.MethodName) prog_15_method_93_code (3 : Nat) (Option.some Jvm.ClassFile.FieldType.boolean))) { frames := 1, cells := 0, slots := 0, locals := 21 } [.ref h0, .int l1, .int l2] D tA [(h0, .inr (13, f0_h0)), (h0_manyCommands, .inl (tA 0, h0_manyCommands_n, .inl h0_manyCommands_c))] sz (fun (r9 : Int32) (u9 : List Value) => r9 = out.1 ∧ Fr [0] f0_h0 u9 ∧ u9[0]? = some (.int out.2)) (fun (u9 : List Value) => [(h0, .inr (13, u9)), (h0_manyCommands, .inl (tA 0, h0_manyCommands_n, .inl h0_manyCommands_c))]) 0 0 := by
  refine zOpen (l := l) (y := ({ cls := "ChanceArenaModel", name := "isCommand", desc := "(II)Z" } : Jvm.MethodName)) (ws := zW (Jvm.Cond.code ({ cls := "ChanceArenaModel", name := "isCommand", desc := "(II)Z" } : Jvm.MethodName) prog_15_method_93_code (3 : Nat) (Option.some Jvm.ClassFile.FieldType.boolean))) (rm := { frames := 1, cells := 0, slots := 0, locals := 21 }) (av := [.ref h0, .int l1, .int l2]) (D := D) (tA := tA) (W0 := [(h0, .inr (13, f0_h0)), (h0_manyCommands, .inl (tA 0, h0_manyCommands_n, .inl h0_manyCommands_c))]) (Wm := [(h0, .inr (13, f0_h0)), (h0_manyCommands, .inl (tA 0, h0_manyCommands_n, .inl h0_manyCommands_c))]) (sz := sz) (mc := 0) (ms := 0) (fun A => va_Qi (fun (r9 : Int32) (u9 : List Value) => r9 = out.1 ∧ Fr [0] f0_h0 u9 ∧ u9[0]? = some (.int out.2)) (zPost D A (fun (u9 : List Value) => [(h0, .inr (13, u9)), (h0_manyCommands, .inl (tA 0, h0_manyCommands_n, .inl h0_manyCommands_c))])) A) (lv := [(0, .ref h0), (1, .int l1), (2, .int l2)]) (by decide) rfl (Nat.le_of_ble_eq_true rfl) rfl ?_
  intro p e s m below meth c A ls hx hb hr hml hh hg hown hlocks hnm hK hA hP hD0 hAw hS hl
  have hD := zD hD0 hAw
  exact b_MM_isCommand_0 hx hb hr hml hh hg hown hlocks hK hA   f0_h0 _ _ _ hF q_h0_manyCommands q_h0_thrown q_h0_many Fr.rfl hP hD hS hl
