theorem an_RX10_9 : AL9 RX10 9 5 1 := ⟨by decide, tb_mem 149 (by decide +kernel) (by decide +kernel)⟩
theorem il_RX10_22 : IL RX10 22 yX6_init cX6_init 1 0 := ⟨Or.inr ⟨RX10, by decide +kernel⟩, tb_mem 122 (by decide +kernel) (by decide +kernel), tb_mem 256 (by decide +kernel) (by decide +kernel), tb_mem 255 (by decide +kernel) (by decide +kernel), rfl, by decide +kernel⟩
theorem il_RX10_29 : IL RX10 29 yX4_init cX4_init 1 0 := ⟨Or.inr ⟨RX10, by decide +kernel⟩, tb_mem 124 (by decide +kernel) (by decide +kernel), tb_mem 348 (by decide +kernel) (by decide +kernel), tb_mem 347 (by decide +kernel) (by decide +kernel), rfl, by decide +kernel⟩
theorem il_RX10_43 : IL RX10 43 yX3_init cX3_init 2 1 := ⟨Or.inl (tb_mem 363 (by decide +kernel) (by decide +kernel)), tb_mem 125 (by decide +kernel) (by decide +kernel), tb_mem 365 (by decide +kernel) (by decide +kernel), tb_mem 364 (by decide +kernel) (by decide +kernel), rfl, by decide +kernel⟩
theorem il_RX10_48 : IL RX10 48 yX2_init cX2_init 4 3 := ⟨Or.inl (tb_mem 396 (by decide +kernel) (by decide +kernel)), tb_mem 127 (by decide +kernel) (by decide +kernel), tb_mem 398 (by decide +kernel) (by decide +kernel), tb_mem 397 (by decide +kernel) (by decide +kernel), rfl, by decide +kernel⟩
theorem il_RX10_53 : IL RX10 53 yX5_init cX5_init 3 2 := ⟨Or.inl (tb_mem 412 (by decide +kernel) (by decide +kernel)), tb_mem 128 (by decide +kernel) (by decide +kernel), tb_mem 414 (by decide +kernel) (by decide +kernel), tb_mem 413 (by decide +kernel) (by decide +kernel), rfl, by decide +kernel⟩
theorem il_RX10_72 : IL RX10 72 yX7_init cX7_init 3 2 := ⟨Or.inl (tb_mem 474 (by decide +kernel) (by decide +kernel)), tb_mem 129 (by decide +kernel) (by decide +kernel), tb_mem 476 (by decide +kernel) (by decide +kernel), tb_mem 475 (by decide +kernel) (by decide +kernel), rfl, by decide +kernel⟩
theorem il_RX10_85 : IL RX10 85 yX8_init cX8_init 2 1 := ⟨Or.inl (tb_mem 496 (by decide +kernel) (by decide +kernel)), tb_mem 130 (by decide +kernel) (by decide +kernel), tb_mem 498 (by decide +kernel) (by decide +kernel), tb_mem 497 (by decide +kernel) (by decide +kernel), rfl, by decide +kernel⟩
theorem nw_RX10_20 : NL RX10 20 6 := ⟨by decide, tb_mem 252 (by decide +kernel) (by decide +kernel), tb_mem 253 (by decide +kernel) (by decide +kernel), tb_mem 122 (by decide +kernel) (by decide +kernel)⟩
theorem nw_RX10_27 : NL RX10 27 4 := ⟨by decide, tb_mem 344 (by decide +kernel) (by decide +kernel), tb_mem 345 (by decide +kernel) (by decide +kernel), tb_mem 124 (by decide +kernel) (by decide +kernel)⟩
theorem nw_RX10_41 : NL RX10 41 3 := ⟨by decide, tb_mem 361 (by decide +kernel) (by decide +kernel), tb_mem 362 (by decide +kernel) (by decide +kernel), tb_mem 125 (by decide +kernel) (by decide +kernel)⟩
theorem nw_RX10_46 : NL RX10 46 2 := ⟨by decide, tb_mem 394 (by decide +kernel) (by decide +kernel), tb_mem 395 (by decide +kernel) (by decide +kernel), tb_mem 127 (by decide +kernel) (by decide +kernel)⟩
theorem nw_RX10_51 : NL RX10 51 5 := ⟨by decide, tb_mem 410 (by decide +kernel) (by decide +kernel), tb_mem 411 (by decide +kernel) (by decide +kernel), tb_mem 128 (by decide +kernel) (by decide +kernel)⟩
theorem nw_RX10_70 : NL RX10 70 7 := ⟨by decide, tb_mem 472 (by decide +kernel) (by decide +kernel), tb_mem 473 (by decide +kernel) (by decide +kernel), tb_mem 129 (by decide +kernel) (by decide +kernel)⟩
theorem nw_RX10_83 : NL RX10 83 8 := ⟨by decide, tb_mem 494 (by decide +kernel) (by decide +kernel), tb_mem 495 (by decide +kernel) (by decide +kernel), tb_mem 130 (by decide +kernel) (by decide +kernel)⟩
theorem ol_RX10_3 : OL RX10 3 := ⟨tb_mem 146 (by decide +kernel) (by decide +kernel), tb_mem 147 (by decide +kernel) (by decide +kernel), tb_mem 148 (by decide +kernel) (by decide +kernel)⟩
theorem ol_RX11_18 : OL RX11 18 := ⟨tb_mem 1332 (by decide +kernel) (by decide +kernel), tb_mem 147 (by decide +kernel) (by decide +kernel), tb_mem 148 (by decide +kernel) (by decide +kernel)⟩
-- LitStrangers.<init>()V
theorem dX10_init_0 : decode cX10_init 0 = .ok (.aload_n 0, 1) := by decide +kernel
theorem dX10_init_1 : decode cX10_init 1 = .ok (.invokespecial 3, 3) := by decide +kernel
theorem dX10_init_4 : decode cX10_init 4 = .ok (.aload_n 0, 1) := by decide +kernel
theorem dX10_init_5 : decode cX10_init 5 = .ok (.new 9, 3) := by decide +kernel
theorem dX10_init_8 : decode cX10_init 8 = .ok (.dup, 1) := by decide +kernel
theorem dX10_init_9 : decode cX10_init 9 = .ok (.invokespecial 11, 3) := by decide +kernel
theorem dX10_init_12 : decode cX10_init 12 = .ok (.putfield 12, 3) := by decide +kernel
theorem dX10_init_15 : decode cX10_init 15 = .ok (.aload_n 0, 1) := by decide +kernel
theorem dX10_init_16 : decode cX10_init 16 = .ok (.iconst 2, 1) := by decide +kernel
theorem dX10_init_17 : decode cX10_init 17 = .ok (.anewarray 9, 3) := by decide +kernel
theorem dX10_init_20 : decode cX10_init 20 = .ok (.putfield 16, 3) := by decide +kernel
theorem dX10_init_23 : decode cX10_init 23 = .ok (.aload_n 0, 1) := by decide +kernel
theorem dX10_init_24 : decode cX10_init 24 = .ok (.new 20, 3) := by decide +kernel
theorem dX10_init_27 : decode cX10_init 27 = .ok (.dup, 1) := by decide +kernel
theorem dX10_init_28 : decode cX10_init 28 = .ok (.invokespecial 22, 3) := by decide +kernel
theorem dX10_init_31 : decode cX10_init 31 = .ok (.putfield 23, 3) := by decide +kernel
theorem dX10_init_34 : decode cX10_init 34 = .ok (.aload_n 0, 1) := by decide +kernel
theorem dX10_init_35 : decode cX10_init 35 = .ok (.new 27, 3) := by decide +kernel
theorem dX10_init_38 : decode cX10_init 38 = .ok (.dup, 1) := by decide +kernel
theorem dX10_init_39 : decode cX10_init 39 = .ok (.invokespecial 29, 3) := by decide +kernel
theorem dX10_init_42 : decode cX10_init 42 = .ok (.putfield 30, 3) := by decide +kernel
theorem dX10_init_45 : decode cX10_init 45 = .ok (.aload_n 0, 1) := by decide +kernel
theorem dX10_init_46 : decode cX10_init 46 = .ok (.bipush 60, 2) := by decide +kernel
theorem dX10_init_48 : decode cX10_init 48 = .ok (.newarray .int, 2) := by decide +kernel
theorem dX10_init_50 : decode cX10_init 50 = .ok (.putfield 34, 3) := by decide +kernel
theorem dX10_init_53 : decode cX10_init 53 = .ok (.aload_n 0, 1) := by decide +kernel
theorem dX10_init_54 : decode cX10_init 54 = .ok (.bipush 7, 2) := by decide +kernel
theorem dX10_init_56 : decode cX10_init 56 = .ok (.newarray .int, 2) := by decide +kernel
theorem dX10_init_58 : decode cX10_init 58 = .ok (.putfield 38, 3) := by decide +kernel
theorem dX10_init_61 : decode cX10_init 61 = .ok (.new 9, 3) := by decide +kernel
theorem dX10_init_64 : decode cX10_init 64 = .ok (.dup, 1) := by decide +kernel
theorem dX10_init_65 : decode cX10_init 65 = .ok (.invokespecial 11, 3) := by decide +kernel
theorem dX10_init_68 : decode cX10_init 68 = .ok (.astore_n 1, 1) := by decide +kernel
theorem dX10_init_69 : decode cX10_init 69 = .ok (.new 41, 3) := by decide +kernel
theorem dX10_init_72 : decode cX10_init 72 = .ok (.dup, 1) := by decide +kernel
theorem dX10_init_73 : decode cX10_init 73 = .ok (.aload_n 1, 1) := by decide +kernel
theorem dX10_init_74 : decode cX10_init 74 = .ok (.invokespecial 43, 3) := by decide +kernel
theorem dX10_init_77 : decode cX10_init 77 = .ok (.astore_n 2, 1) := by decide +kernel
theorem dX10_init_78 : decode cX10_init 78 = .ok (.new 27, 3) := by decide +kernel
theorem dX10_init_81 : decode cX10_init 81 = .ok (.dup, 1) := by decide +kernel
theorem dX10_init_82 : decode cX10_init 82 = .ok (.invokespecial 29, 3) := by decide +kernel
theorem dX10_init_85 : decode cX10_init 85 = .ok (.astore_n 3, 1) := by decide +kernel
theorem dX10_init_86 : decode cX10_init 86 = .ok (.new 46, 3) := by decide +kernel
theorem dX10_init_89 : decode cX10_init 89 = .ok (.dup, 1) := by decide +kernel
theorem dX10_init_90 : decode cX10_init 90 = .ok (.aload_n 1, 1) := by decide +kernel
theorem dX10_init_91 : decode cX10_init 91 = .ok (.aload_n 2, 1) := by decide +kernel
theorem dX10_init_92 : decode cX10_init 92 = .ok (.aload_n 3, 1) := by decide +kernel
theorem dX10_init_93 : decode cX10_init 93 = .ok (.invokespecial 48, 3) := by decide +kernel
theorem dX10_init_96 : decode cX10_init 96 = .ok (.astore 4, 2) := by decide +kernel
theorem dX10_init_98 : decode cX10_init 98 = .ok (.new 51, 3) := by decide +kernel
theorem dX10_init_101 : decode cX10_init 101 = .ok (.dup, 1) := by decide +kernel
theorem dX10_init_102 : decode cX10_init 102 = .ok (.aload_n 1, 1) := by decide +kernel
theorem dX10_init_103 : decode cX10_init 103 = .ok (.aload_n 2, 1) := by decide +kernel
theorem dX10_init_104 : decode cX10_init 104 = .ok (.invokespecial 53, 3) := by decide +kernel
theorem dX10_init_107 : decode cX10_init 107 = .ok (.astore 5, 2) := by decide +kernel
theorem dX10_init_109 : decode cX10_init 109 = .ok (.aload_n 0, 1) := by decide +kernel
theorem dX10_init_110 : decode cX10_init 110 = .ok (.aload_n 1, 1) := by decide +kernel
theorem dX10_init_111 : decode cX10_init 111 = .ok (.putfield 56, 3) := by decide +kernel
theorem dX10_init_114 : decode cX10_init 114 = .ok (.aload_n 0, 1) := by decide +kernel
theorem dX10_init_115 : decode cX10_init 115 = .ok (.aload_n 2, 1) := by decide +kernel
theorem dX10_init_116 : decode cX10_init 116 = .ok (.putfield 59, 3) := by decide +kernel
theorem dX10_init_119 : decode cX10_init 119 = .ok (.aload_n 0, 1) := by decide +kernel
theorem dX10_init_120 : decode cX10_init 120 = .ok (.aload_n 3, 1) := by decide +kernel
theorem dX10_init_121 : decode cX10_init 121 = .ok (.putfield 63, 3) := by decide +kernel
theorem dX10_init_124 : decode cX10_init 124 = .ok (.aload_n 0, 1) := by decide +kernel
theorem dX10_init_125 : decode cX10_init 125 = .ok (.aload 4, 2) := by decide +kernel
theorem dX10_init_127 : decode cX10_init 127 = .ok (.putfield 66, 3) := by decide +kernel
theorem dX10_init_130 : decode cX10_init 130 = .ok (.aload_n 0, 1) := by decide +kernel
theorem dX10_init_131 : decode cX10_init 131 = .ok (.new 70, 3) := by decide +kernel
theorem dX10_init_134 : decode cX10_init 134 = .ok (.dup, 1) := by decide +kernel
theorem dX10_init_135 : decode cX10_init 135 = .ok (.aload_n 1, 1) := by decide +kernel
theorem dX10_init_136 : decode cX10_init 136 = .ok (.aload 4, 2) := by decide +kernel
theorem dX10_init_138 : decode cX10_init 138 = .ok (.invokespecial 72, 3) := by decide +kernel
theorem dX10_init_141 : decode cX10_init 141 = .ok (.putfield 75, 3) := by decide +kernel
theorem dX10_init_144 : decode cX10_init 144 = .ok (.aload_n 0, 1) := by decide +kernel
theorem dX10_init_145 : decode cX10_init 145 = .ok (.aload 5, 2) := by decide +kernel
theorem dX10_init_147 : decode cX10_init 147 = .ok (.putfield 79, 3) := by decide +kernel
theorem dX10_init_150 : decode cX10_init 150 = .ok (.aload_n 0, 1) := by decide +kernel
theorem dX10_init_151 : decode cX10_init 151 = .ok (.new 83, 3) := by decide +kernel
theorem dX10_init_154 : decode cX10_init 154 = .ok (.dup, 1) := by decide +kernel
theorem dX10_init_155 : decode cX10_init 155 = .ok (.aload 5, 2) := by decide +kernel
theorem dX10_init_157 : decode cX10_init 157 = .ok (.invokespecial 85, 3) := by decide +kernel
theorem dX10_init_160 : decode cX10_init 160 = .ok (.putfield 88, 3) := by decide +kernel
theorem dX10_init_163 : decode cX10_init 163 = .ok (.return_, 1) := by decide +kernel
def wp_X10_init (t : Nat) (σ : st_S) (Q : st_S → Prop) : Prop := ∀ (t98 : Nat) (s99 : st_S), t98 = gN σ → s99 = sA σ (32 + 1) 0 → wp_X1_init t98 s99 (fun s100 => Fin1 s100 t98 1 ∧ skNo 0 t98 ∧ ∀ s101 : st_S, s101 = sK s100 t98 (16 + 1) → gK s101 t = 32 + 10 ∧ ∀ s104 : st_S, s104 = sR s101 t 1 (some t98) → ∀ (t106 : Nat) (s107 : st_S), t106 = gN s104 → s107 = sA s104 5 2 → gK s107 t = 32 + 10 ∧ ∀ s109 : st_S, s109 = sR s107 t 2 (some t106) → ∀ (t112 : Nat) (s113 : st_S), t112 = gN s109 → s113 = sA s109 (32 + 6) 0 → wp_X6_init t112 s113 (fun s114 => Fin1 s114 t112 6 ∧ skNo 0 t112 ∧ ∀ s115 : st_S, s115 = sK s114 t112 (16 + 6) → gK s115 t = 32 + 10 ∧ ∀ s118 : st_S, s118 = sR s115 t 3 (some t112) → ∀ (t120 : Nat) (s121 : st_S), t120 = gN s118 → s121 = sA s118 (32 + 4) 0 → wp_X4_init t120 s121 (fun s122 => Fin1 s122 t120 4 ∧ skNo 0 t120 ∧ ∀ s123 : st_S, s123 = sK s122 t120 (16 + 4) → gK s123 t = 32 + 10 ∧ ∀ s126 : st_S, s126 = sR s123 t 6 (some t120) → ∀ (t128 : Nat) (s129 : st_S), t128 = gN s126 → s129 = sA s126 0 60 → gK s129 t = 32 + 10 ∧ ∀ s131 : st_S, s131 = sR s129 t 11 (some t128) → ∀ (t134 : Nat) (s135 : st_S), t134 = gN s131 → s135 = sA s131 0 7 → gK s135 t = 32 + 10 ∧ ∀ s137 : st_S, s137 = sR s135 t 15 (some t134) → ∀ (t140 : Nat) (s141 : st_S), t140 = gN s137 → s141 = sA s137 (32 + 1) 0 → wp_X1_init t140 s141 (fun s142 => Fin1 s142 t140 1 ∧ skNo 0 t140 ∧ ∀ s143 : st_S, s143 = sK s142 t140 (16 + 1) → ∀ (t145 : Nat) (s146 : st_S), t145 = gN s143 → s146 = sA s143 (32 + 3) 0 → wp_X3_init t145 t140 s146 (fun s147 => Fin1 s147 t145 3 ∧ skNo 0 t145 ∧ ∀ s148 : st_S, s148 = sK s147 t145 (16 + 3) → ∀ (t150 : Nat) (s151 : st_S), t150 = gN s148 → s151 = sA s148 (32 + 4) 0 → wp_X4_init t150 s151 (fun s152 => Fin1 s152 t150 4 ∧ skNo 0 t150 ∧ ∀ s153 : st_S, s153 = sK s152 t150 (16 + 4) → ∀ (t155 : Nat) (s156 : st_S), t155 = gN s153 → s156 = sA s153 (32 + 2) 0 → wp_X2_init t155 t140 t145 t150 s156 (fun s157 => Fin1 s157 t155 2 ∧ skNo 0 t155 ∧ ∀ s158 : st_S, s158 = sK s157 t155 (16 + 2) → ∀ (t160 : Nat) (s161 : st_S), t160 = gN s158 → s161 = sA s158 (32 + 5) 0 → wp_X5_init t160 t140 t145 s161 (fun s162 => Fin1 s162 t160 5 ∧ skNo 0 t160 ∧ ∀ s163 : st_S, s163 = sK s162 t160 (16 + 5) → gK s163 t = 32 + 10 ∧ ∀ s166 : st_S, s166 = sR s163 t 0 (some t140) → ∀ s168 : st_S, s168 = sR s166 t 4 (some t145) → ∀ s170 : st_S, s170 = sR s168 t 5 (some t150) → ∀ s172 : st_S, s172 = sR s170 t 7 (some t155) → ∀ (t174 : Nat) (s175 : st_S), t174 = gN s172 → s175 = sA s172 (32 + 7) 0 → wp_X7_init t174 t140 t155 s175 (fun s176 => Fin1 s176 t174 7 ∧ skNo 0 t174 ∧ ∀ s177 : st_S, s177 = sK s176 t174 (16 + 7) → gK s177 t = 32 + 10 ∧ ∀ s180 : st_S, s180 = sR s177 t 8 (some t174) → ∀ s182 : st_S, s182 = sR s180 t 9 (some t160) → ∀ (t184 : Nat) (s185 : st_S), t184 = gN s182 → s185 = sA s182 (32 + 8) 0 → wp_X8_init t184 t160 s185 (fun s186 => Fin1 s186 t184 8 ∧ skNo 0 t184 ∧ ∀ s187 : st_S, s187 = sK s186 t184 (16 + 8) → gK s187 t = 32 + 10 ∧ ∀ s190 : st_S, s190 = sR s187 t 10 (some t184) → Q s190))))))))))
set_option maxRecDepth 20000 in
set_option maxHeartbeats 8000000 in
theorem c_X10_init {l : Launch} {E : ev_E} (hE : Eok E) (hm : eM E = 0) {σ : st_S} (hM : MkE E (gN σ)) {t : Nat} {Q : st_S → Prop} (h : wp_X10_init t σ Q) : cM l yX10_init cX10_init 6 none E 3 64 14094 [vR E t] σ (qV E (gN σ + 64) Q) := by
  refine cM_of (lv := [(0, vR E t)]) (by decide) hE (Nat.le_of_ble_eq_true rfl) rfl ?_
  intro X hX hc hcl hsl hr hnm _
  subst hX
  have hh : 3 ≤ 3 := Nat.le_refl _
  have hh1 : 1 ≤ 3 := by omega
  replace h : ∀ (t98 : Nat) (s99 : st_S), t98 = gN σ → s99 = sA σ (32 + 1) 0 → wp_X1_init t98 s99 (fun s100 => Fin1 s100 t98 1 ∧ skNo 0 t98 ∧ ∀ s101 : st_S, s101 = sK s100 t98 (16 + 1) → gK s101 t = 32 + 10 ∧ ∀ s104 : st_S, s104 = sR s101 t 1 (some t98) → ∀ (t106 : Nat) (s107 : st_S), t106 = gN s104 → s107 = sA s104 5 2 → gK s107 t = 32 + 10 ∧ ∀ s109 : st_S, s109 = sR s107 t 2 (some t106) → ∀ (t112 : Nat) (s113 : st_S), t112 = gN s109 → s113 = sA s109 (32 + 6) 0 → wp_X6_init t112 s113 (fun s114 => Fin1 s114 t112 6 ∧ skNo 0 t112 ∧ ∀ s115 : st_S, s115 = sK s114 t112 (16 + 6) → gK s115 t = 32 + 10 ∧ ∀ s118 : st_S, s118 = sR s115 t 3 (some t112) → ∀ (t120 : Nat) (s121 : st_S), t120 = gN s118 → s121 = sA s118 (32 + 4) 0 → wp_X4_init t120 s121 (fun s122 => Fin1 s122 t120 4 ∧ skNo 0 t120 ∧ ∀ s123 : st_S, s123 = sK s122 t120 (16 + 4) → gK s123 t = 32 + 10 ∧ ∀ s126 : st_S, s126 = sR s123 t 6 (some t120) → ∀ (t128 : Nat) (s129 : st_S), t128 = gN s126 → s129 = sA s126 0 60 → gK s129 t = 32 + 10 ∧ ∀ s131 : st_S, s131 = sR s129 t 11 (some t128) → ∀ (t134 : Nat) (s135 : st_S), t134 = gN s131 → s135 = sA s131 0 7 → gK s135 t = 32 + 10 ∧ ∀ s137 : st_S, s137 = sR s135 t 15 (some t134) → ∀ (t140 : Nat) (s141 : st_S), t140 = gN s137 → s141 = sA s137 (32 + 1) 0 → wp_X1_init t140 s141 (fun s142 => Fin1 s142 t140 1 ∧ skNo 0 t140 ∧ ∀ s143 : st_S, s143 = sK s142 t140 (16 + 1) → ∀ (t145 : Nat) (s146 : st_S), t145 = gN s143 → s146 = sA s143 (32 + 3) 0 → wp_X3_init t145 t140 s146 (fun s147 => Fin1 s147 t145 3 ∧ skNo 0 t145 ∧ ∀ s148 : st_S, s148 = sK s147 t145 (16 + 3) → ∀ (t150 : Nat) (s151 : st_S), t150 = gN s148 → s151 = sA s148 (32 + 4) 0 → wp_X4_init t150 s151 (fun s152 => Fin1 s152 t150 4 ∧ skNo 0 t150 ∧ ∀ s153 : st_S, s153 = sK s152 t150 (16 + 4) → ∀ (t155 : Nat) (s156 : st_S), t155 = gN s153 → s156 = sA s153 (32 + 2) 0 → wp_X2_init t155 t140 t145 t150 s156 (fun s157 => Fin1 s157 t155 2 ∧ skNo 0 t155 ∧ ∀ s158 : st_S, s158 = sK s157 t155 (16 + 2) → ∀ (t160 : Nat) (s161 : st_S), t160 = gN s158 → s161 = sA s158 (32 + 5) 0 → wp_X5_init t160 t140 t145 s161 (fun s162 => Fin1 s162 t160 5 ∧ skNo 0 t160 ∧ ∀ s163 : st_S, s163 = sK s162 t160 (16 + 5) → gK s163 t = 32 + 10 ∧ ∀ s166 : st_S, s166 = sR s163 t 0 (some t140) → ∀ s168 : st_S, s168 = sR s166 t 4 (some t145) → ∀ s170 : st_S, s170 = sR s168 t 5 (some t150) → ∀ s172 : st_S, s172 = sR s170 t 7 (some t155) → ∀ (t174 : Nat) (s175 : st_S), t174 = gN s172 → s175 = sA s172 (32 + 7) 0 → wp_X7_init t174 t140 t155 s175 (fun s176 => Fin1 s176 t174 7 ∧ skNo 0 t174 ∧ ∀ s177 : st_S, s177 = sK s176 t174 (16 + 7) → gK s177 t = 32 + 10 ∧ ∀ s180 : st_S, s180 = sR s177 t 8 (some t174) → ∀ s182 : st_S, s182 = sR s180 t 9 (some t160) → ∀ (t184 : Nat) (s185 : st_S), t184 = gN s182 → s185 = sA s182 (32 + 8) 0 → wp_X8_init t184 t160 s185 (fun s186 => Fin1 s186 t184 8 ∧ skNo 0 t184 ∧ ∀ s187 : st_S, s187 = sK s186 t184 (16 + 8) → gK s187 t = 32 + 10 ∧ ∀ s190 : st_S, s190 = sR s187 t 10 (some t184) → Q s190)))))))))) := h
  refine j_aload_nR hc 0 dX10_init_0 rfl rfl ?_
  refine j_obj hc ol_RX10_3 hh1 (Nat.le_of_ble_eq_true rfl) dX10_init_1 ?_
  refine j_aload_nR hc 0 dX10_init_4 rfl rfl ?_
  refine j_newN (N := 15) hc (hM.at hc) nw_RX10_9 rfl (by constructor <;> omega) dX10_init_5 (fun t98 s99 et98 es99 => ?_)
  replace h := h t98 s99 et98 es99
  refine j_dup hc dX10_init_8 rfl ?_
  refine j_ini (mc := 9) (ms := 169) (As := []) hc il_RX10_11 (fun hn0 => c_X1_init (cx_E hc) (hM.up hn0) h) rfl (by omega) (by decide) (by constructor <;> omega) (Nat.le_of_ble_eq_true rfl) rfl dX10_init_9 (fun s100 h => ?_)
  refine j_fin (by decide) hm h.2.1 h.1 (fun s101 es101 => ?_)
  replace h := h.2.2 s101 es101
  obtain ⟨f103, h⟩ := h
  refine j_putR hc fl_RX10_12 rfl (Or.inr ⟨rfl, hnm, rfl⟩) (fun _ => Or.inr f103) (fun _ => Or.inl f103) dX10_init_12 (fun s104 es104 => ?_)
  replace h := h s104 es104
  have f105 := kI (Or.inr ⟨_, _, _, es104⟩) f103
  refine j_aload_nR hc 0 dX10_init_15 rfl rfl ?_
  refine j_iconst hc dX10_init_16 ?_
  refine j_anew (N := 2) hc (hM.at hc) an_RX10_9 (by decide) (by decide) (by constructor <;> omega) dX10_init_17 (fun t106 s107 et106 es107 => ?_)
  replace h := h t106 s107 et106 es107
  obtain ⟨f108, h⟩ := h
  refine j_putR hc fl_RX10_16 rfl (Or.inr ⟨rfl, hnm, rfl⟩) (fun _ => Or.inr f108) (fun _ => Or.inl f108) dX10_init_20 (fun s109 es109 => ?_)
  replace h := h s109 es109
  have f110 := kI (Or.inr ⟨_, _, _, es109⟩) (kNew et106 es107)
  have f111 := kI (Or.inr ⟨_, _, _, es109⟩) f108
  refine j_aload_nR hc 0 dX10_init_23 rfl rfl ?_
  refine j_newN (N := 10) hc (hM.at hc) nw_RX10_20 rfl (by constructor <;> omega) dX10_init_24 (fun t112 s113 et112 es113 => ?_)
  replace h := h t112 s113 et112 es113
  refine j_dup hc dX10_init_27 rfl ?_
  refine j_ini (mc := 8) (ms := 868) (As := []) hc il_RX10_22 (fun hn0 => c_X6_init (cx_E hc) hm (hM.up hn0) h) rfl (by omega) (by decide) (by constructor <;> omega) (Nat.le_of_ble_eq_true rfl) rfl dX10_init_28 (fun s114 h => ?_)
  refine j_fin (by decide) hm h.2.1 h.1 (fun s115 es115 => ?_)
  replace h := h.2.2 s115 es115
  obtain ⟨f117, h⟩ := h
  refine j_putR hc fl_RX10_23 rfl (Or.inr ⟨rfl, hnm, rfl⟩) (fun _ => Or.inr f117) (fun _ => Or.inl f117) dX10_init_31 (fun s118 es118 => ?_)
  replace h := h s118 es118
  have f119 := kI (Or.inr ⟨_, _, _, es118⟩) f117
  refine j_aload_nR hc 0 dX10_init_34 rfl rfl ?_
  refine j_newN (N := 3) hc (hM.at hc) nw_RX10_27 rfl (by constructor <;> omega) dX10_init_35 (fun t120 s121 et120 es121 => ?_)
  replace h := h t120 s121 et120 es121
  refine j_dup hc dX10_init_38 rfl ?_
  refine j_ini (mc := 1) (ms := 560) (As := []) hc il_RX10_29 (fun hn0 => c_X4_init (cx_E hc) (hM.up hn0) h) rfl (by omega) (by decide) (by constructor <;> omega) (Nat.le_of_ble_eq_true rfl) rfl dX10_init_39 (fun s122 h => ?_)
  refine j_fin (by decide) hm h.2.1 h.1 (fun s123 es123 => ?_)
  replace h := h.2.2 s123 es123
  obtain ⟨f125, h⟩ := h
  refine j_putR hc fl_RX10_30 rfl (Or.inr ⟨rfl, hnm, rfl⟩) (fun _ => Or.inr f125) (fun _ => Or.inl f125) dX10_init_42 (fun s126 es126 => ?_)
  replace h := h s126 es126
  have f127 := kI (Or.inr ⟨_, _, _, es126⟩) f125
  refine j_aload_nR hc 0 dX10_init_45 rfl rfl ?_
  refine j_bipush hc dX10_init_46 (by decide) ?_
  refine j_newa (N := 60) hc (hM.at hc) nk_0 (by decide) (by decide) (by constructor <;> omega) dX10_init_48 (fun t128 s129 et128 es129 => ?_)
  replace h := h t128 s129 et128 es129
  obtain ⟨f130, h⟩ := h
  refine j_putR hc fl_RX10_34 rfl (Or.inr ⟨rfl, hnm, rfl⟩) (fun _ => Or.inr f130) (fun _ => Or.inl f130) dX10_init_50 (fun s131 es131 => ?_)
  replace h := h s131 es131
  have f132 := kI (Or.inr ⟨_, _, _, es131⟩) (kNew et128 es129)
  have f133 := kI (Or.inr ⟨_, _, _, es131⟩) f130
  refine j_aload_nR hc 0 dX10_init_53 rfl rfl ?_
  refine j_bipush hc dX10_init_54 (by decide) ?_
  refine j_newa (N := 7) hc (hM.at hc) nk_0 (by decide) (by decide) (by constructor <;> omega) dX10_init_56 (fun t134 s135 et134 es135 => ?_)
  replace h := h t134 s135 et134 es135
  obtain ⟨f136, h⟩ := h
  refine j_putR hc fl_RX10_38 rfl (Or.inr ⟨rfl, hnm, rfl⟩) (fun _ => Or.inr f136) (fun _ => Or.inl f136) dX10_init_58 (fun s137 es137 => ?_)
  replace h := h s137 es137
  have f138 := kI (Or.inr ⟨_, _, _, es137⟩) (kNew et134 es135)
  have f139 := kI (Or.inr ⟨_, _, _, es137⟩) f136
  refine j_newN (N := 15) hc (hM.at hc) nw_RX10_9 rfl (by constructor <;> omega) dX10_init_61 (fun t140 s141 et140 es141 => ?_)
  replace h := h t140 s141 et140 es141
  refine j_dup hc dX10_init_64 rfl ?_
  refine j_ini (mc := 9) (ms := 169) (As := []) hc il_RX10_11 (fun hn0 => c_X1_init (cx_E hc) (hM.up hn0) h) rfl (by omega) (by decide) (by constructor <;> omega) (Nat.le_of_ble_eq_true rfl) rfl dX10_init_65 (fun s142 h => ?_)
  refine j_fin (by decide) hm h.2.1 h.1 (fun s143 es143 => ?_)
  replace h := h.2.2 s143 es143
  refine j_astore_nR (lv' := [(1, vR E t140), (0, vR E t)]) hc dX10_init_68 rfl (by decide) rfl ?_
  refine j_newN (N := 2) hc (hM.at hc) nw_RX10_41 rfl (by constructor <;> omega) dX10_init_69 (fun t145 s146 et145 es146 => ?_)
  replace h := h t145 s146 et145 es146
  refine j_dup hc dX10_init_72 rfl ?_
  refine j_aload_nR hc 0 dX10_init_73 rfl rfl ?_
  refine j_ini (mc := 3) (ms := 92) (As := [vR E t140]) hc il_RX10_43 (fun hn0 => c_X3_init (cx_E hc) hm (hM.up hn0) h) rfl (by omega) (by decide) (by constructor <;> omega) (Nat.le_of_ble_eq_true rfl) rfl dX10_init_74 (fun s147 h => ?_)
  refine j_fin (by decide) hm h.2.1 h.1 (fun s148 es148 => ?_)
  replace h := h.2.2 s148 es148
  refine j_astore_nR (lv' := [(2, vR E t145), (1, vR E t140), (0, vR E t)]) hc dX10_init_77 rfl (by decide) rfl ?_
  refine j_newN (N := 3) hc (hM.at hc) nw_RX10_27 rfl (by constructor <;> omega) dX10_init_78 (fun t150 s151 et150 es151 => ?_)
  replace h := h t150 s151 et150 es151
  refine j_dup hc dX10_init_81 rfl ?_
  refine j_ini (mc := 1) (ms := 560) (As := []) hc il_RX10_29 (fun hn0 => c_X4_init (cx_E hc) (hM.up hn0) h) rfl (by omega) (by decide) (by constructor <;> omega) (Nat.le_of_ble_eq_true rfl) rfl dX10_init_82 (fun s152 h => ?_)
  refine j_fin (by decide) hm h.2.1 h.1 (fun s153 es153 => ?_)
  replace h := h.2.2 s153 es153
  refine j_astore_nR (lv' := [(3, vR E t150), (2, vR E t145), (1, vR E t140), (0, vR E t)]) hc dX10_init_85 rfl (by decide) rfl ?_
  refine j_newN (N := 3) hc (hM.at hc) nw_RX10_46 rfl (by constructor <;> omega) dX10_init_86 (fun t155 s156 et155 es156 => ?_)
  replace h := h t155 s156 et155 es156
  refine j_dup hc dX10_init_89 rfl ?_
  refine j_aload_nR hc 2 dX10_init_90 rfl rfl ?_
  refine j_aload_nR hc 1 dX10_init_91 rfl rfl ?_
  refine j_aload_nR hc 0 dX10_init_92 rfl rfl ?_
  refine j_ini (mc := 0) (ms := 0) (As := [vR E t140, vR E t145, vR E t150]) hc il_RX10_48 (fun hn0 => c_X2_init (cx_E hc) (hM.up hn0) h) rfl (by omega) (by decide) (by constructor <;> omega) (Nat.le_of_ble_eq_true rfl) rfl dX10_init_93 (fun s157 h => ?_)
  refine j_fin (by decide) hm h.2.1 h.1 (fun s158 es158 => ?_)
  replace h := h.2.2 s158 es158
  refine j_astoreR (lv' := [(4, vR E t155), (3, vR E t150), (2, vR E t145), (1, vR E t140), (0, vR E t)]) hc dX10_init_96 (by decide) rfl ?_
  refine j_newN (N := 17) hc (hM.at hc) nw_RX10_51 rfl (by constructor <;> omega) dX10_init_98 (fun t160 s161 et160 es161 => ?_)
  replace h := h t160 s161 et160 es161
  refine j_dup hc dX10_init_101 rfl ?_
  refine j_aload_nR hc 3 dX10_init_102 rfl rfl ?_
  refine j_aload_nR hc 2 dX10_init_103 rfl rfl ?_
  refine j_ini (mc := 9) (ms := 2180) (As := [vR E t140, vR E t145]) hc il_RX10_53 (fun hn0 => c_X5_init (cx_E hc) (hM.up hn0) h) rfl (by omega) (by decide) (by constructor <;> omega) (Nat.le_of_ble_eq_true rfl) rfl dX10_init_104 (fun s162 h => ?_)
  refine j_fin (by decide) hm h.2.1 h.1 (fun s163 es163 => ?_)
  replace h := h.2.2 s163 es163
  refine j_astoreR (lv' := [(5, vR E t160), (4, vR E t155), (3, vR E t150), (2, vR E t145), (1, vR E t140), (0, vR E t)]) hc dX10_init_107 (by decide) rfl ?_
  refine j_aload_nR hc 5 dX10_init_109 rfl rfl ?_
  refine j_aload_nR hc 4 dX10_init_110 rfl rfl ?_
  obtain ⟨f165, h⟩ := h
  refine j_putR hc fl_RX10_56 rfl (Or.inr ⟨rfl, hnm, rfl⟩) (fun _ => Or.inr f165) (fun _ => Or.inl f165) dX10_init_111 (fun s166 es166 => ?_)
  replace h := h s166 es166
  have f167 := kI (Or.inr ⟨_, _, _, es166⟩) f165
  refine j_aload_nR hc 5 dX10_init_114 rfl rfl ?_
  refine j_aload_nR hc 3 dX10_init_115 rfl rfl ?_
  refine j_putR hc fl_RX10_59 rfl (Or.inr ⟨rfl, hnm, rfl⟩) (fun _ => Or.inr f167) (fun _ => Or.inl f167) dX10_init_116 (fun s168 es168 => ?_)
  replace h := h s168 es168
  have f169 := kI (Or.inr ⟨_, _, _, es168⟩) f167
  refine j_aload_nR hc 5 dX10_init_119 rfl rfl ?_
  refine j_aload_nR hc 2 dX10_init_120 rfl rfl ?_
  refine j_putR hc fl_RX10_63 rfl (Or.inr ⟨rfl, hnm, rfl⟩) (fun _ => Or.inr f169) (fun _ => Or.inl f169) dX10_init_121 (fun s170 es170 => ?_)
  replace h := h s170 es170
  have f171 := kI (Or.inr ⟨_, _, _, es170⟩) f169
  refine j_aload_nR hc 5 dX10_init_124 rfl rfl ?_
  refine j_aloadR hc 1 dX10_init_125 rfl ?_
  refine j_putR hc fl_RX10_66 rfl (Or.inr ⟨rfl, hnm, rfl⟩) (fun _ => Or.inr f171) (fun _ => Or.inl f171) dX10_init_127 (fun s172 es172 => ?_)
  replace h := h s172 es172
  have f173 := kI (Or.inr ⟨_, _, _, es172⟩) f171
  refine j_aload_nR hc 5 dX10_init_130 rfl rfl ?_
  refine j_newN (N := 4) hc (hM.at hc) nw_RX10_70 rfl (by constructor <;> omega) dX10_init_131 (fun t174 s175 et174 es175 => ?_)
  replace h := h t174 s175 et174 es175
  refine j_dup hc dX10_init_134 rfl ?_
  refine j_aload_nR hc 4 dX10_init_135 rfl rfl ?_
  refine j_aloadR hc 1 dX10_init_136 rfl ?_
  refine j_ini (mc := 3) (ms := 92) (As := [vR E t140, vR E t155]) hc il_RX10_72 (fun hn0 => c_X7_init (cx_E hc) hm (hM.up hn0) h) rfl (by omega) (by decide) (by constructor <;> omega) (Nat.le_of_ble_eq_true rfl) rfl dX10_init_138 (fun s176 h => ?_)
  refine j_fin (by decide) hm h.2.1 h.1 (fun s177 es177 => ?_)
  replace h := h.2.2 s177 es177
  obtain ⟨f179, h⟩ := h
  refine j_putR hc fl_RX10_75 rfl (Or.inr ⟨rfl, hnm, rfl⟩) (fun _ => Or.inr f179) (fun _ => Or.inl f179) dX10_init_141 (fun s180 es180 => ?_)
  replace h := h s180 es180
  have f181 := kI (Or.inr ⟨_, _, _, es180⟩) f179
  refine j_aload_nR hc 5 dX10_init_144 rfl rfl ?_
  refine j_aloadR hc 0 dX10_init_145 rfl ?_
  refine j_putR hc fl_RX10_79 rfl (Or.inr ⟨rfl, hnm, rfl⟩) (fun _ => Or.inr f181) (fun _ => Or.inl f181) dX10_init_147 (fun s182 es182 => ?_)
  replace h := h s182 es182
  have f183 := kI (Or.inr ⟨_, _, _, es182⟩) f181
  refine j_aload_nR hc 5 dX10_init_150 rfl rfl ?_
  refine j_newN (N := 17) hc (hM.at hc) nw_RX10_83 rfl (by constructor <;> omega) dX10_init_151 (fun t184 s185 et184 es185 => ?_)
  replace h := h t184 s185 et184 es185
  refine j_dup hc dX10_init_154 rfl ?_
  refine j_aloadR hc 0 dX10_init_155 rfl ?_
  refine j_ini (mc := 8) (ms := 9246) (As := [vR E t160]) hc il_RX10_85 (fun hn0 => c_X8_init (cx_E hc) (hM.up hn0) h) rfl (by omega) (by decide) (by constructor <;> omega) (Nat.le_of_ble_eq_true rfl) rfl dX10_init_157 (fun s186 h => ?_)
  refine j_fin (by decide) hm h.2.1 h.1 (fun s187 es187 => ?_)
  replace h := h.2.2 s187 es187
  obtain ⟨f189, h⟩ := h
  refine j_putR hc fl_RX10_88 rfl (Or.inr ⟨rfl, hnm, rfl⟩) (fun _ => Or.inr f189) (fun _ => Or.inl f189) dX10_init_160 (fun s190 es190 => ?_)
  replace h := h s190 es190
  have f191 := kI (Or.inr ⟨_, _, _, es190⟩) f189
  refine j_wide (slots' := 14094) (by omega) ?_
  exact j_vret hc hr h dX10_init_163
-- LitStrangersModel.<init>()V
theorem dX11_init_0 : decode cX11_init 0 = .ok (.aload_n 0, 1) := by decide +kernel
theorem dX11_init_1 : decode cX11_init 1 = .ok (.invokespecial 18, 3) := by decide +kernel
theorem dX11_init_4 : decode cX11_init 4 = .ok (.aload_n 0, 1) := by decide +kernel
theorem dX11_init_5 : decode cX11_init 5 = .ok (.bipush 7, 2) := by decide +kernel
theorem dX11_init_7 : decode cX11_init 7 = .ok (.newarray .int, 2) := by decide +kernel
theorem dX11_init_9 : decode cX11_init 9 = .ok (.putfield 7, 3) := by decide +kernel
theorem dX11_init_12 : decode cX11_init 12 = .ok (.aload_n 0, 1) := by decide +kernel
theorem dX11_init_13 : decode cX11_init 13 = .ok (.sipush 5866, 3) := by decide +kernel
theorem dX11_init_16 : decode cX11_init 16 = .ok (.newarray .int, 2) := by decide +kernel
theorem dX11_init_18 : decode cX11_init 18 = .ok (.putfield 24, 3) := by decide +kernel
theorem dX11_init_21 : decode cX11_init 21 = .ok (.aload_n 0, 1) := by decide +kernel
theorem dX11_init_22 : decode cX11_init 22 = .ok (.sipush 11732, 3) := by decide +kernel
theorem dX11_init_25 : decode cX11_init 25 = .ok (.newarray .int, 2) := by decide +kernel
theorem dX11_init_27 : decode cX11_init 27 = .ok (.putfield 27, 3) := by decide +kernel
theorem dX11_init_30 : decode cX11_init 30 = .ok (.aload_n 0, 1) := by decide +kernel
theorem dX11_init_31 : decode cX11_init 31 = .ok (.iconst 2, 1) := by decide +kernel
theorem dX11_init_32 : decode cX11_init 32 = .ok (.newarray .boolean, 2) := by decide +kernel
theorem dX11_init_34 : decode cX11_init 34 = .ok (.putfield 30, 3) := by decide +kernel
theorem dX11_init_37 : decode cX11_init 37 = .ok (.aload_n 0, 1) := by decide +kernel
theorem dX11_init_38 : decode cX11_init 38 = .ok (.bipush 34, 2) := by decide +kernel
theorem dX11_init_40 : decode cX11_init 40 = .ok (.newarray .int, 2) := by decide +kernel
theorem dX11_init_42 : decode cX11_init 42 = .ok (.putfield 34, 3) := by decide +kernel
theorem dX11_init_45 : decode cX11_init 45 = .ok (.aload_n 0, 1) := by decide +kernel
theorem dX11_init_46 : decode cX11_init 46 = .ok (.sipush 153, 3) := by decide +kernel
theorem dX11_init_49 : decode cX11_init 49 = .ok (.newarray .byte, 2) := by decide +kernel
theorem dX11_init_51 : decode cX11_init 51 = .ok (.dup, 1) := by decide +kernel
theorem dX11_init_52 : decode cX11_init 52 = .ok (.iconst 0, 1) := by decide +kernel
theorem dX11_init_53 : decode cX11_init 53 = .ok (.bipush 116, 2) := by decide +kernel
theorem dX11_init_55 : decode cX11_init 55 = .ok (.bastore, 1) := by decide +kernel
theorem dX11_init_56 : decode cX11_init 56 = .ok (.dup, 1) := by decide +kernel
theorem dX11_init_57 : decode cX11_init 57 = .ok (.iconst 1, 1) := by decide +kernel
theorem dX11_init_58 : decode cX11_init 58 = .ok (.bipush 97, 2) := by decide +kernel
theorem dX11_init_60 : decode cX11_init 60 = .ok (.bastore, 1) := by decide +kernel
theorem dX11_init_61 : decode cX11_init 61 = .ok (.dup, 1) := by decide +kernel
theorem dX11_init_62 : decode cX11_init 62 = .ok (.iconst 2, 1) := by decide +kernel
theorem dX11_init_63 : decode cX11_init 63 = .ok (.bipush 107, 2) := by decide +kernel
theorem dX11_init_65 : decode cX11_init 65 = .ok (.bastore, 1) := by decide +kernel
theorem dX11_init_66 : decode cX11_init 66 = .ok (.dup, 1) := by decide +kernel
theorem dX11_init_67 : decode cX11_init 67 = .ok (.iconst 3, 1) := by decide +kernel
theorem dX11_init_68 : decode cX11_init 68 = .ok (.bipush 101, 2) := by decide +kernel
theorem dX11_init_70 : decode cX11_init 70 = .ok (.bastore, 1) := by decide +kernel
theorem dX11_init_71 : decode cX11_init 71 = .ok (.dup, 1) := by decide +kernel
theorem dX11_init_72 : decode cX11_init 72 = .ok (.iconst 4, 1) := by decide +kernel
theorem dX11_init_73 : decode cX11_init 73 = .ok (.bipush 115, 2) := by decide +kernel
theorem dX11_init_75 : decode cX11_init 75 = .ok (.bastore, 1) := by decide +kernel
theorem dX11_init_76 : decode cX11_init 76 = .ok (.dup, 1) := by decide +kernel
theorem dX11_init_77 : decode cX11_init 77 = .ok (.iconst 5, 1) := by decide +kernel
theorem dX11_init_78 : decode cX11_init 78 = .ok (.bipush 32, 2) := by decide +kernel
theorem dX11_init_80 : decode cX11_init 80 = .ok (.bastore, 1) := by decide +kernel
theorem dX11_init_81 : decode cX11_init 81 = .ok (.dup, 1) := by decide +kernel
theorem dX11_init_82 : decode cX11_init 82 = .ok (.bipush 6, 2) := by decide +kernel
theorem dX11_init_84 : decode cX11_init 84 = .ok (.bipush 99, 2) := by decide +kernel
theorem dX11_init_86 : decode cX11_init 86 = .ok (.bastore, 1) := by decide +kernel
theorem dX11_init_87 : decode cX11_init 87 = .ok (.dup, 1) := by decide +kernel
theorem dX11_init_88 : decode cX11_init 88 = .ok (.bipush 7, 2) := by decide +kernel
theorem dX11_init_90 : decode cX11_init 90 = .ok (.bipush 111, 2) := by decide +kernel
theorem dX11_init_92 : decode cX11_init 92 = .ok (.bastore, 1) := by decide +kernel
theorem dX11_init_93 : decode cX11_init 93 = .ok (.dup, 1) := by decide +kernel
theorem dX11_init_94 : decode cX11_init 94 = .ok (.bipush 8, 2) := by decide +kernel
theorem dX11_init_96 : decode cX11_init 96 = .ok (.bipush 115, 2) := by decide +kernel
theorem dX11_init_98 : decode cX11_init 98 = .ok (.bastore, 1) := by decide +kernel
theorem dX11_init_99 : decode cX11_init 99 = .ok (.dup, 1) := by decide +kernel
theorem dX11_init_100 : decode cX11_init 100 = .ok (.bipush 9, 2) := by decide +kernel
theorem dX11_init_102 : decode cX11_init 102 = .ok (.bipush 116, 2) := by decide +kernel
theorem dX11_init_104 : decode cX11_init 104 = .ok (.bastore, 1) := by decide +kernel
theorem dX11_init_105 : decode cX11_init 105 = .ok (.dup, 1) := by decide +kernel
theorem dX11_init_106 : decode cX11_init 106 = .ok (.bipush 10, 2) := by decide +kernel
theorem dX11_init_108 : decode cX11_init 108 = .ok (.bipush 115, 2) := by decide +kernel
theorem dX11_init_110 : decode cX11_init 110 = .ok (.bastore, 1) := by decide +kernel
theorem dX11_init_111 : decode cX11_init 111 = .ok (.dup, 1) := by decide +kernel
theorem dX11_init_112 : decode cX11_init 112 = .ok (.bipush 11, 2) := by decide +kernel
theorem dX11_init_114 : decode cX11_init 114 = .ok (.bipush 32, 2) := by decide +kernel
theorem dX11_init_116 : decode cX11_init 116 = .ok (.bastore, 1) := by decide +kernel
theorem dX11_init_117 : decode cX11_init 117 = .ok (.dup, 1) := by decide +kernel
theorem dX11_init_118 : decode cX11_init 118 = .ok (.bipush 12, 2) := by decide +kernel
theorem dX11_init_120 : decode cX11_init 120 = .ok (.bipush 108, 2) := by decide +kernel
theorem dX11_init_122 : decode cX11_init 122 = .ok (.bastore, 1) := by decide +kernel
theorem dX11_init_123 : decode cX11_init 123 = .ok (.dup, 1) := by decide +kernel
theorem dX11_init_124 : decode cX11_init 124 = .ok (.bipush 13, 2) := by decide +kernel
theorem dX11_init_126 : decode cX11_init 126 = .ok (.bipush 111, 2) := by decide +kernel
theorem dX11_init_128 : decode cX11_init 128 = .ok (.bastore, 1) := by decide +kernel
theorem dX11_init_129 : decode cX11_init 129 = .ok (.dup, 1) := by decide +kernel
theorem dX11_init_130 : decode cX11_init 130 = .ok (.bipush 14, 2) := by decide +kernel
theorem dX11_init_132 : decode cX11_init 132 = .ok (.bipush 100, 2) := by decide +kernel
theorem dX11_init_134 : decode cX11_init 134 = .ok (.bastore, 1) := by decide +kernel
theorem dX11_init_135 : decode cX11_init 135 = .ok (.dup, 1) := by decide +kernel
theorem dX11_init_136 : decode cX11_init 136 = .ok (.bipush 15, 2) := by decide +kernel
theorem dX11_init_138 : decode cX11_init 138 = .ok (.bipush 103, 2) := by decide +kernel
theorem dX11_init_140 : decode cX11_init 140 = .ok (.bastore, 1) := by decide +kernel
theorem dX11_init_141 : decode cX11_init 141 = .ok (.dup, 1) := by decide +kernel
theorem dX11_init_142 : decode cX11_init 142 = .ok (.bipush 16, 2) := by decide +kernel
theorem dX11_init_144 : decode cX11_init 144 = .ok (.bipush 101, 2) := by decide +kernel
theorem dX11_init_146 : decode cX11_init 146 = .ok (.bastore, 1) := by decide +kernel
theorem dX11_init_147 : decode cX11_init 147 = .ok (.dup, 1) := by decide +kernel
theorem dX11_init_148 : decode cX11_init 148 = .ok (.bipush 17, 2) := by decide +kernel
theorem dX11_init_150 : decode cX11_init 150 = .ok (.bipush 115, 2) := by decide +kernel
theorem dX11_init_152 : decode cX11_init 152 = .ok (.bastore, 1) := by decide +kernel
theorem dX11_init_153 : decode cX11_init 153 = .ok (.dup, 1) := by decide +kernel
theorem dX11_init_154 : decode cX11_init 154 = .ok (.bipush 18, 2) := by decide +kernel
theorem dX11_init_156 : decode cX11_init 156 = .ok (.bipush 32, 2) := by decide +kernel
theorem dX11_init_158 : decode cX11_init 158 = .ok (.bastore, 1) := by decide +kernel
theorem dX11_init_159 : decode cX11_init 159 = .ok (.dup, 1) := by decide +kernel
theorem dX11_init_160 : decode cX11_init 160 = .ok (.bipush 19, 2) := by decide +kernel
theorem dX11_init_162 : decode cX11_init 162 = .ok (.bipush 115, 2) := by decide +kernel
theorem dX11_init_164 : decode cX11_init 164 = .ok (.bastore, 1) := by decide +kernel
theorem dX11_init_165 : decode cX11_init 165 = .ok (.dup, 1) := by decide +kernel
theorem dX11_init_166 : decode cX11_init 166 = .ok (.bipush 20, 2) := by decide +kernel
theorem dX11_init_168 : decode cX11_init 168 = .ok (.bipush 112, 2) := by decide +kernel
theorem dX11_init_170 : decode cX11_init 170 = .ok (.bastore, 1) := by decide +kernel
theorem dX11_init_171 : decode cX11_init 171 = .ok (.dup, 1) := by decide +kernel
theorem dX11_init_172 : decode cX11_init 172 = .ok (.bipush 21, 2) := by decide +kernel
theorem dX11_init_174 : decode cX11_init 174 = .ok (.bipush 111, 2) := by decide +kernel
theorem dX11_init_176 : decode cX11_init 176 = .ok (.bastore, 1) := by decide +kernel
theorem dX11_init_177 : decode cX11_init 177 = .ok (.dup, 1) := by decide +kernel
theorem dX11_init_178 : decode cX11_init 178 = .ok (.bipush 22, 2) := by decide +kernel
theorem dX11_init_180 : decode cX11_init 180 = .ok (.bipush 105, 2) := by decide +kernel
theorem dX11_init_182 : decode cX11_init 182 = .ok (.bastore, 1) := by decide +kernel
theorem dX11_init_183 : decode cX11_init 183 = .ok (.dup, 1) := by decide +kernel
theorem dX11_init_184 : decode cX11_init 184 = .ok (.bipush 23, 2) := by decide +kernel
theorem dX11_init_186 : decode cX11_init 186 = .ok (.bipush 108, 2) := by decide +kernel
theorem dX11_init_188 : decode cX11_init 188 = .ok (.bastore, 1) := by decide +kernel
theorem dX11_init_189 : decode cX11_init 189 = .ok (.dup, 1) := by decide +kernel
theorem dX11_init_190 : decode cX11_init 190 = .ok (.bipush 24, 2) := by decide +kernel
theorem dX11_init_192 : decode cX11_init 192 = .ok (.bipush 115, 2) := by decide +kernel
theorem dX11_init_194 : decode cX11_init 194 = .ok (.bastore, 1) := by decide +kernel
theorem dX11_init_195 : decode cX11_init 195 = .ok (.dup, 1) := by decide +kernel
theorem dX11_init_196 : decode cX11_init 196 = .ok (.bipush 25, 2) := by decide +kernel
theorem dX11_init_198 : decode cX11_init 198 = .ok (.bipush 32, 2) := by decide +kernel
theorem dX11_init_200 : decode cX11_init 200 = .ok (.bastore, 1) := by decide +kernel
theorem dX11_init_201 : decode cX11_init 201 = .ok (.dup, 1) := by decide +kernel
theorem dX11_init_202 : decode cX11_init 202 = .ok (.bipush 26, 2) := by decide +kernel
theorem dX11_init_204 : decode cX11_init 204 = .ok (.bipush 98, 2) := by decide +kernel
theorem dX11_init_206 : decode cX11_init 206 = .ok (.bastore, 1) := by decide +kernel
theorem dX11_init_207 : decode cX11_init 207 = .ok (.dup, 1) := by decide +kernel
theorem dX11_init_208 : decode cX11_init 208 = .ok (.bipush 27, 2) := by decide +kernel
theorem dX11_init_210 : decode cX11_init 210 = .ok (.bipush 97, 2) := by decide +kernel
theorem dX11_init_212 : decode cX11_init 212 = .ok (.bastore, 1) := by decide +kernel
theorem dX11_init_213 : decode cX11_init 213 = .ok (.dup, 1) := by decide +kernel
theorem dX11_init_214 : decode cX11_init 214 = .ok (.bipush 28, 2) := by decide +kernel
theorem dX11_init_216 : decode cX11_init 216 = .ok (.bipush 114, 2) := by decide +kernel
theorem dX11_init_218 : decode cX11_init 218 = .ok (.bastore, 1) := by decide +kernel
theorem dX11_init_219 : decode cX11_init 219 = .ok (.dup, 1) := by decide +kernel
theorem dX11_init_220 : decode cX11_init 220 = .ok (.bipush 29, 2) := by decide +kernel
theorem dX11_init_222 : decode cX11_init 222 = .ok (.bipush 115, 2) := by decide +kernel
theorem dX11_init_224 : decode cX11_init 224 = .ok (.bastore, 1) := by decide +kernel
theorem dX11_init_225 : decode cX11_init 225 = .ok (.dup, 1) := by decide +kernel
theorem dX11_init_226 : decode cX11_init 226 = .ok (.bipush 30, 2) := by decide +kernel
theorem dX11_init_228 : decode cX11_init 228 = .ok (.bipush 32, 2) := by decide +kernel
theorem dX11_init_230 : decode cX11_init 230 = .ok (.bastore, 1) := by decide +kernel
theorem dX11_init_231 : decode cX11_init 231 = .ok (.dup, 1) := by decide +kernel
theorem dX11_init_232 : decode cX11_init 232 = .ok (.bipush 31, 2) := by decide +kernel
theorem dX11_init_234 : decode cX11_init 234 = .ok (.bipush 105, 2) := by decide +kernel
theorem dX11_init_236 : decode cX11_init 236 = .ok (.bastore, 1) := by decide +kernel
theorem dX11_init_237 : decode cX11_init 237 = .ok (.dup, 1) := by decide +kernel
theorem dX11_init_238 : decode cX11_init 238 = .ok (.bipush 32, 2) := by decide +kernel
theorem dX11_init_240 : decode cX11_init 240 = .ok (.bipush 102, 2) := by decide +kernel
theorem dX11_init_242 : decode cX11_init 242 = .ok (.bastore, 1) := by decide +kernel
theorem dX11_init_243 : decode cX11_init 243 = .ok (.dup, 1) := by decide +kernel
theorem dX11_init_244 : decode cX11_init 244 = .ok (.bipush 33, 2) := by decide +kernel
theorem dX11_init_246 : decode cX11_init 246 = .ok (.bipush 32, 2) := by decide +kernel
theorem dX11_init_248 : decode cX11_init 248 = .ok (.bastore, 1) := by decide +kernel
theorem dX11_init_249 : decode cX11_init 249 = .ok (.dup, 1) := by decide +kernel
theorem dX11_init_250 : decode cX11_init 250 = .ok (.bipush 34, 2) := by decide +kernel
theorem dX11_init_252 : decode cX11_init 252 = .ok (.bipush 111, 2) := by decide +kernel
theorem dX11_init_254 : decode cX11_init 254 = .ok (.bastore, 1) := by decide +kernel
theorem dX11_init_255 : decode cX11_init 255 = .ok (.dup, 1) := by decide +kernel
theorem dX11_init_256 : decode cX11_init 256 = .ok (.bipush 35, 2) := by decide +kernel
theorem dX11_init_258 : decode cX11_init 258 = .ok (.bipush 114, 2) := by decide +kernel
theorem dX11_init_260 : decode cX11_init 260 = .ok (.bastore, 1) := by decide +kernel
theorem dX11_init_261 : decode cX11_init 261 = .ok (.dup, 1) := by decide +kernel
theorem dX11_init_262 : decode cX11_init 262 = .ok (.bipush 36, 2) := by decide +kernel
theorem dX11_init_264 : decode cX11_init 264 = .ok (.bipush 32, 2) := by decide +kernel
theorem dX11_init_266 : decode cX11_init 266 = .ok (.bastore, 1) := by decide +kernel
theorem dX11_init_267 : decode cX11_init 267 = .ok (.dup, 1) := by decide +kernel
theorem dX11_init_268 : decode cX11_init 268 = .ok (.bipush 37, 2) := by decide +kernel
theorem dX11_init_270 : decode cX11_init 270 = .ok (.bipush 97, 2) := by decide +kernel
theorem dX11_init_272 : decode cX11_init 272 = .ok (.bastore, 1) := by decide +kernel
theorem dX11_init_273 : decode cX11_init 273 = .ok (.dup, 1) := by decide +kernel
theorem dX11_init_274 : decode cX11_init 274 = .ok (.bipush 38, 2) := by decide +kernel
theorem dX11_init_276 : decode cX11_init 276 = .ok (.bipush 110, 2) := by decide +kernel
theorem dX11_init_278 : decode cX11_init 278 = .ok (.bastore, 1) := by decide +kernel
theorem dX11_init_279 : decode cX11_init 279 = .ok (.dup, 1) := by decide +kernel
theorem dX11_init_280 : decode cX11_init 280 = .ok (.bipush 39, 2) := by decide +kernel
theorem dX11_init_282 : decode cX11_init 282 = .ok (.bipush 100, 2) := by decide +kernel
theorem dX11_init_284 : decode cX11_init 284 = .ok (.bastore, 1) := by decide +kernel
theorem dX11_init_285 : decode cX11_init 285 = .ok (.dup, 1) := by decide +kernel
theorem dX11_init_286 : decode cX11_init 286 = .ok (.bipush 40, 2) := by decide +kernel
theorem dX11_init_288 : decode cX11_init 288 = .ok (.bipush 32, 2) := by decide +kernel
theorem dX11_init_290 : decode cX11_init 290 = .ok (.bastore, 1) := by decide +kernel
theorem dX11_init_291 : decode cX11_init 291 = .ok (.dup, 1) := by decide +kernel
theorem dX11_init_292 : decode cX11_init 292 = .ok (.bipush 41, 2) := by decide +kernel
theorem dX11_init_294 : decode cX11_init 294 = .ok (.bipush 110, 2) := by decide +kernel
theorem dX11_init_296 : decode cX11_init 296 = .ok (.bastore, 1) := by decide +kernel
theorem dX11_init_297 : decode cX11_init 297 = .ok (.dup, 1) := by decide +kernel
theorem dX11_init_298 : decode cX11_init 298 = .ok (.bipush 42, 2) := by decide +kernel
theorem dX11_init_300 : decode cX11_init 300 = .ok (.bipush 111, 2) := by decide +kernel
theorem dX11_init_302 : decode cX11_init 302 = .ok (.bastore, 1) := by decide +kernel
theorem dX11_init_303 : decode cX11_init 303 = .ok (.dup, 1) := by decide +kernel
theorem dX11_init_304 : decode cX11_init 304 = .ok (.bipush 43, 2) := by decide +kernel
theorem dX11_init_306 : decode cX11_init 306 = .ok (.bipush 116, 2) := by decide +kernel
theorem dX11_init_308 : decode cX11_init 308 = .ok (.bastore, 1) := by decide +kernel
theorem dX11_init_309 : decode cX11_init 309 = .ok (.dup, 1) := by decide +kernel
theorem dX11_init_310 : decode cX11_init 310 = .ok (.bipush 44, 2) := by decide +kernel
theorem dX11_init_312 : decode cX11_init 312 = .ok (.bipush 32, 2) := by decide +kernel
theorem dX11_init_314 : decode cX11_init 314 = .ok (.bastore, 1) := by decide +kernel
theorem dX11_init_315 : decode cX11_init 315 = .ok (.dup, 1) := by decide +kernel
theorem dX11_init_316 : decode cX11_init 316 = .ok (.bipush 45, 2) := by decide +kernel
theorem dX11_init_318 : decode cX11_init 318 = .ok (.bipush 112, 2) := by decide +kernel
theorem dX11_init_320 : decode cX11_init 320 = .ok (.bastore, 1) := by decide +kernel
theorem dX11_init_321 : decode cX11_init 321 = .ok (.dup, 1) := by decide +kernel
theorem dX11_init_322 : decode cX11_init 322 = .ok (.bipush 46, 2) := by decide +kernel
theorem dX11_init_324 : decode cX11_init 324 = .ok (.bipush 101, 2) := by decide +kernel
theorem dX11_init_326 : decode cX11_init 326 = .ok (.bastore, 1) := by decide +kernel
theorem dX11_init_327 : decode cX11_init 327 = .ok (.dup, 1) := by decide +kernel
theorem dX11_init_328 : decode cX11_init 328 = .ok (.bipush 47, 2) := by decide +kernel
theorem dX11_init_330 : decode cX11_init 330 = .ok (.bipush 114, 2) := by decide +kernel
theorem dX11_init_332 : decode cX11_init 332 = .ok (.bastore, 1) := by decide +kernel
theorem dX11_init_333 : decode cX11_init 333 = .ok (.dup, 1) := by decide +kernel
theorem dX11_init_334 : decode cX11_init 334 = .ok (.bipush 48, 2) := by decide +kernel
theorem dX11_init_336 : decode cX11_init 336 = .ok (.bipush 115, 2) := by decide +kernel
theorem dX11_init_338 : decode cX11_init 338 = .ok (.bastore, 1) := by decide +kernel
theorem dX11_init_339 : decode cX11_init 339 = .ok (.dup, 1) := by decide +kernel
theorem dX11_init_340 : decode cX11_init 340 = .ok (.bipush 49, 2) := by decide +kernel
theorem dX11_init_342 : decode cX11_init 342 = .ok (.bipush 111, 2) := by decide +kernel
theorem dX11_init_344 : decode cX11_init 344 = .ok (.bastore, 1) := by decide +kernel
theorem dX11_init_345 : decode cX11_init 345 = .ok (.dup, 1) := by decide +kernel
theorem dX11_init_346 : decode cX11_init 346 = .ok (.bipush 50, 2) := by decide +kernel
theorem dX11_init_348 : decode cX11_init 348 = .ok (.bipush 110, 2) := by decide +kernel
theorem dX11_init_350 : decode cX11_init 350 = .ok (.bastore, 1) := by decide +kernel
theorem dX11_init_351 : decode cX11_init 351 = .ok (.dup, 1) := by decide +kernel
theorem dX11_init_352 : decode cX11_init 352 = .ok (.bipush 51, 2) := by decide +kernel
theorem dX11_init_354 : decode cX11_init 354 = .ok (.bipush 32, 2) := by decide +kernel
theorem dX11_init_356 : decode cX11_init 356 = .ok (.bastore, 1) := by decide +kernel
theorem dX11_init_357 : decode cX11_init 357 = .ok (.dup, 1) := by decide +kernel
theorem dX11_init_358 : decode cX11_init 358 = .ok (.bipush 52, 2) := by decide +kernel
theorem dX11_init_360 : decode cX11_init 360 = .ok (.bipush 114, 2) := by decide +kernel
theorem dX11_init_362 : decode cX11_init 362 = .ok (.bastore, 1) := by decide +kernel
theorem dX11_init_363 : decode cX11_init 363 = .ok (.dup, 1) := by decide +kernel
theorem dX11_init_364 : decode cX11_init 364 = .ok (.bipush 53, 2) := by decide +kernel
theorem dX11_init_366 : decode cX11_init 366 = .ok (.bipush 111, 2) := by decide +kernel
theorem dX11_init_368 : decode cX11_init 368 = .ok (.bastore, 1) := by decide +kernel
theorem dX11_init_369 : decode cX11_init 369 = .ok (.dup, 1) := by decide +kernel
theorem dX11_init_370 : decode cX11_init 370 = .ok (.bipush 54, 2) := by decide +kernel
theorem dX11_init_372 : decode cX11_init 372 = .ok (.bipush 97, 2) := by decide +kernel
theorem dX11_init_374 : decode cX11_init 374 = .ok (.bastore, 1) := by decide +kernel
theorem dX11_init_375 : decode cX11_init 375 = .ok (.dup, 1) := by decide +kernel
theorem dX11_init_376 : decode cX11_init 376 = .ok (.bipush 55, 2) := by decide +kernel
theorem dX11_init_378 : decode cX11_init 378 = .ok (.bipush 100, 2) := by decide +kernel
theorem dX11_init_380 : decode cX11_init 380 = .ok (.bastore, 1) := by decide +kernel
theorem dX11_init_381 : decode cX11_init 381 = .ok (.dup, 1) := by decide +kernel
theorem dX11_init_382 : decode cX11_init 382 = .ok (.bipush 56, 2) := by decide +kernel
theorem dX11_init_384 : decode cX11_init 384 = .ok (.bipush 32, 2) := by decide +kernel
theorem dX11_init_386 : decode cX11_init 386 = .ok (.bastore, 1) := by decide +kernel
theorem dX11_init_387 : decode cX11_init 387 = .ok (.dup, 1) := by decide +kernel
theorem dX11_init_388 : decode cX11_init 388 = .ok (.bipush 57, 2) := by decide +kernel
theorem dX11_init_390 : decode cX11_init 390 = .ok (.bipush 108, 2) := by decide +kernel
theorem dX11_init_392 : decode cX11_init 392 = .ok (.bastore, 1) := by decide +kernel
theorem dX11_init_393 : decode cX11_init 393 = .ok (.dup, 1) := by decide +kernel
theorem dX11_init_394 : decode cX11_init 394 = .ok (.bipush 58, 2) := by decide +kernel
theorem dX11_init_396 : decode cX11_init 396 = .ok (.bipush 97, 2) := by decide +kernel
theorem dX11_init_398 : decode cX11_init 398 = .ok (.bastore, 1) := by decide +kernel
theorem dX11_init_399 : decode cX11_init 399 = .ok (.dup, 1) := by decide +kernel
theorem dX11_init_400 : decode cX11_init 400 = .ok (.bipush 59, 2) := by decide +kernel
theorem dX11_init_402 : decode cX11_init 402 = .ok (.bipush 110, 2) := by decide +kernel
theorem dX11_init_404 : decode cX11_init 404 = .ok (.bastore, 1) := by decide +kernel
theorem dX11_init_405 : decode cX11_init 405 = .ok (.dup, 1) := by decide +kernel
theorem dX11_init_406 : decode cX11_init 406 = .ok (.bipush 60, 2) := by decide +kernel
theorem dX11_init_408 : decode cX11_init 408 = .ok (.bipush 100, 2) := by decide +kernel
theorem dX11_init_410 : decode cX11_init 410 = .ok (.bastore, 1) := by decide +kernel
theorem dX11_init_411 : decode cX11_init 411 = .ok (.dup, 1) := by decide +kernel
theorem dX11_init_412 : decode cX11_init 412 = .ok (.bipush 61, 2) := by decide +kernel
theorem dX11_init_414 : decode cX11_init 414 = .ok (.bipush 32, 2) := by decide +kernel
theorem dX11_init_416 : decode cX11_init 416 = .ok (.bastore, 1) := by decide +kernel
theorem dX11_init_417 : decode cX11_init 417 = .ok (.dup, 1) := by decide +kernel
theorem dX11_init_418 : decode cX11_init 418 = .ok (.bipush 62, 2) := by decide +kernel
theorem dX11_init_420 : decode cX11_init 420 = .ok (.bipush 104, 2) := by decide +kernel
theorem dX11_init_422 : decode cX11_init 422 = .ok (.bastore, 1) := by decide +kernel
theorem dX11_init_423 : decode cX11_init 423 = .ok (.dup, 1) := by decide +kernel
theorem dX11_init_424 : decode cX11_init 424 = .ok (.bipush 63, 2) := by decide +kernel
theorem dX11_init_426 : decode cX11_init 426 = .ok (.bipush 101, 2) := by decide +kernel
theorem dX11_init_428 : decode cX11_init 428 = .ok (.bastore, 1) := by decide +kernel
theorem dX11_init_429 : decode cX11_init 429 = .ok (.dup, 1) := by decide +kernel
theorem dX11_init_430 : decode cX11_init 430 = .ok (.bipush 64, 2) := by decide +kernel
theorem dX11_init_432 : decode cX11_init 432 = .ok (.bipush 97, 2) := by decide +kernel
theorem dX11_init_434 : decode cX11_init 434 = .ok (.bastore, 1) := by decide +kernel
theorem dX11_init_435 : decode cX11_init 435 = .ok (.dup, 1) := by decide +kernel
theorem dX11_init_436 : decode cX11_init 436 = .ok (.bipush 65, 2) := by decide +kernel
theorem dX11_init_438 : decode cX11_init 438 = .ok (.bipush 114, 2) := by decide +kernel
theorem dX11_init_440 : decode cX11_init 440 = .ok (.bastore, 1) := by decide +kernel
theorem dX11_init_441 : decode cX11_init 441 = .ok (.dup, 1) := by decide +kernel
theorem dX11_init_442 : decode cX11_init 442 = .ok (.bipush 66, 2) := by decide +kernel
theorem dX11_init_444 : decode cX11_init 444 = .ok (.bipush 100, 2) := by decide +kernel
theorem dX11_init_446 : decode cX11_init 446 = .ok (.bastore, 1) := by decide +kernel
theorem dX11_init_447 : decode cX11_init 447 = .ok (.dup, 1) := by decide +kernel
theorem dX11_init_448 : decode cX11_init 448 = .ok (.bipush 67, 2) := by decide +kernel
theorem dX11_init_450 : decode cX11_init 450 = .ok (.bipush 32, 2) := by decide +kernel
theorem dX11_init_452 : decode cX11_init 452 = .ok (.bastore, 1) := by decide +kernel
theorem dX11_init_453 : decode cX11_init 453 = .ok (.dup, 1) := by decide +kernel
theorem dX11_init_454 : decode cX11_init 454 = .ok (.bipush 68, 2) := by decide +kernel
theorem dX11_init_456 : decode cX11_init 456 = .ok (.bipush 111, 2) := by decide +kernel
theorem dX11_init_458 : decode cX11_init 458 = .ok (.bastore, 1) := by decide +kernel
theorem dX11_init_459 : decode cX11_init 459 = .ok (.dup, 1) := by decide +kernel
theorem dX11_init_460 : decode cX11_init 460 = .ok (.bipush 69, 2) := by decide +kernel
theorem dX11_init_462 : decode cX11_init 462 = .ok (.bipush 116, 2) := by decide +kernel
theorem dX11_init_464 : decode cX11_init 464 = .ok (.bastore, 1) := by decide +kernel
theorem dX11_init_465 : decode cX11_init 465 = .ok (.dup, 1) := by decide +kernel
theorem dX11_init_466 : decode cX11_init 466 = .ok (.bipush 70, 2) := by decide +kernel
theorem dX11_init_468 : decode cX11_init 468 = .ok (.bipush 104, 2) := by decide +kernel
theorem dX11_init_470 : decode cX11_init 470 = .ok (.bastore, 1) := by decide +kernel
theorem dX11_init_471 : decode cX11_init 471 = .ok (.dup, 1) := by decide +kernel
theorem dX11_init_472 : decode cX11_init 472 = .ok (.bipush 71, 2) := by decide +kernel
theorem dX11_init_474 : decode cX11_init 474 = .ok (.bipush 101, 2) := by decide +kernel
theorem dX11_init_476 : decode cX11_init 476 = .ok (.bastore, 1) := by decide +kernel
theorem dX11_init_477 : decode cX11_init 477 = .ok (.dup, 1) := by decide +kernel
theorem dX11_init_478 : decode cX11_init 478 = .ok (.bipush 72, 2) := by decide +kernel
theorem dX11_init_480 : decode cX11_init 480 = .ok (.bipush 114, 2) := by decide +kernel
theorem dX11_init_482 : decode cX11_init 482 = .ok (.bastore, 1) := by decide +kernel
theorem dX11_init_483 : decode cX11_init 483 = .ok (.dup, 1) := by decide +kernel
theorem dX11_init_484 : decode cX11_init 484 = .ok (.bipush 73, 2) := by decide +kernel
theorem dX11_init_486 : decode cX11_init 486 = .ok (.bipush 32, 2) := by decide +kernel
theorem dX11_init_488 : decode cX11_init 488 = .ok (.bastore, 1) := by decide +kernel
theorem dX11_init_489 : decode cX11_init 489 = .ok (.dup, 1) := by decide +kernel
theorem dX11_init_490 : decode cX11_init 490 = .ok (.bipush 74, 2) := by decide +kernel
theorem dX11_init_492 : decode cX11_init 492 = .ok (.bipush 116, 2) := by decide +kernel
theorem dX11_init_494 : decode cX11_init 494 = .ok (.bastore, 1) := by decide +kernel
theorem dX11_init_495 : decode cX11_init 495 = .ok (.dup, 1) := by decide +kernel
theorem dX11_init_496 : decode cX11_init 496 = .ok (.bipush 75, 2) := by decide +kernel
theorem dX11_init_498 : decode cX11_init 498 = .ok (.bipush 104, 2) := by decide +kernel
theorem dX11_init_500 : decode cX11_init 500 = .ok (.bastore, 1) := by decide +kernel
theorem dX11_init_501 : decode cX11_init 501 = .ok (.dup, 1) := by decide +kernel
theorem dX11_init_502 : decode cX11_init 502 = .ok (.bipush 76, 2) := by decide +kernel
theorem dX11_init_504 : decode cX11_init 504 = .ok (.bipush 101, 2) := by decide +kernel
theorem dX11_init_506 : decode cX11_init 506 = .ok (.bastore, 1) := by decide +kernel
theorem dX11_init_507 : decode cX11_init 507 = .ok (.dup, 1) := by decide +kernel
theorem dX11_init_508 : decode cX11_init 508 = .ok (.bipush 77, 2) := by decide +kernel
theorem dX11_init_510 : decode cX11_init 510 = .ok (.bipush 105, 2) := by decide +kernel
theorem dX11_init_512 : decode cX11_init 512 = .ok (.bastore, 1) := by decide +kernel
theorem dX11_init_513 : decode cX11_init 513 = .ok (.dup, 1) := by decide +kernel
theorem dX11_init_514 : decode cX11_init 514 = .ok (.bipush 78, 2) := by decide +kernel
theorem dX11_init_516 : decode cX11_init 516 = .ok (.bipush 114, 2) := by decide +kernel
theorem dX11_init_518 : decode cX11_init 518 = .ok (.bastore, 1) := by decide +kernel
theorem dX11_init_519 : decode cX11_init 519 = .ok (.dup, 1) := by decide +kernel
theorem dX11_init_520 : decode cX11_init 520 = .ok (.bipush 79, 2) := by decide +kernel
theorem dX11_init_522 : decode cX11_init 522 = .ok (.bipush 115, 2) := by decide +kernel
theorem dX11_init_524 : decode cX11_init 524 = .ok (.bastore, 1) := by decide +kernel
theorem dX11_init_525 : decode cX11_init 525 = .ok (.dup, 1) := by decide +kernel
theorem dX11_init_526 : decode cX11_init 526 = .ok (.bipush 80, 2) := by decide +kernel
theorem dX11_init_528 : decode cX11_init 528 = .ok (.bipush 32, 2) := by decide +kernel
theorem dX11_init_530 : decode cX11_init 530 = .ok (.bastore, 1) := by decide +kernel
theorem dX11_init_531 : decode cX11_init 531 = .ok (.dup, 1) := by decide +kernel
theorem dX11_init_532 : decode cX11_init 532 = .ok (.bipush 81, 2) := by decide +kernel
theorem dX11_init_534 : decode cX11_init 534 = .ok (.bipush 102, 2) := by decide +kernel
theorem dX11_init_536 : decode cX11_init 536 = .ok (.bastore, 1) := by decide +kernel
theorem dX11_init_537 : decode cX11_init 537 = .ok (.dup, 1) := by decide +kernel
theorem dX11_init_538 : decode cX11_init 538 = .ok (.bipush 82, 2) := by decide +kernel
theorem dX11_init_540 : decode cX11_init 540 = .ok (.bipush 97, 2) := by decide +kernel
theorem dX11_init_542 : decode cX11_init 542 = .ok (.bastore, 1) := by decide +kernel
theorem dX11_init_543 : decode cX11_init 543 = .ok (.dup, 1) := by decide +kernel
theorem dX11_init_544 : decode cX11_init 544 = .ok (.bipush 83, 2) := by decide +kernel
theorem dX11_init_546 : decode cX11_init 546 = .ok (.bipush 114, 2) := by decide +kernel
theorem dX11_init_548 : decode cX11_init 548 = .ok (.bastore, 1) := by decide +kernel
theorem dX11_init_549 : decode cX11_init 549 = .ok (.dup, 1) := by decide +kernel
theorem dX11_init_550 : decode cX11_init 550 = .ok (.bipush 84, 2) := by decide +kernel
theorem dX11_init_552 : decode cX11_init 552 = .ok (.bipush 32, 2) := by decide +kernel
theorem dX11_init_554 : decode cX11_init 554 = .ok (.bastore, 1) := by decide +kernel
theorem dX11_init_555 : decode cX11_init 555 = .ok (.dup, 1) := by decide +kernel
theorem dX11_init_556 : decode cX11_init 556 = .ok (.bipush 85, 2) := by decide +kernel
theorem dX11_init_558 : decode cX11_init 558 = .ok (.bipush 102, 2) := by decide +kernel
theorem dX11_init_560 : decode cX11_init 560 = .ok (.bastore, 1) := by decide +kernel
theorem dX11_init_561 : decode cX11_init 561 = .ok (.dup, 1) := by decide +kernel
theorem dX11_init_562 : decode cX11_init 562 = .ok (.bipush 86, 2) := by decide +kernel
theorem dX11_init_564 : decode cX11_init 564 = .ok (.bipush 111, 2) := by decide +kernel
theorem dX11_init_566 : decode cX11_init 566 = .ok (.bastore, 1) := by decide +kernel
theorem dX11_init_567 : decode cX11_init 567 = .ok (.dup, 1) := by decide +kernel
theorem dX11_init_568 : decode cX11_init 568 = .ok (.bipush 87, 2) := by decide +kernel
theorem dX11_init_570 : decode cX11_init 570 = .ok (.bipush 103, 2) := by decide +kernel
theorem dX11_init_572 : decode cX11_init 572 = .ok (.bastore, 1) := by decide +kernel
theorem dX11_init_573 : decode cX11_init 573 = .ok (.dup, 1) := by decide +kernel
theorem dX11_init_574 : decode cX11_init 574 = .ok (.bipush 88, 2) := by decide +kernel
theorem dX11_init_576 : decode cX11_init 576 = .ok (.bipush 32, 2) := by decide +kernel
theorem dX11_init_578 : decode cX11_init 578 = .ok (.bastore, 1) := by decide +kernel
theorem dX11_init_579 : decode cX11_init 579 = .ok (.dup, 1) := by decide +kernel
theorem dX11_init_580 : decode cX11_init 580 = .ok (.bipush 89, 2) := by decide +kernel
theorem dX11_init_582 : decode cX11_init 582 = .ok (.bipush 109, 2) := by decide +kernel
theorem dX11_init_584 : decode cX11_init 584 = .ok (.bastore, 1) := by decide +kernel
theorem dX11_init_585 : decode cX11_init 585 = .ok (.dup, 1) := by decide +kernel
theorem dX11_init_586 : decode cX11_init 586 = .ok (.bipush 90, 2) := by decide +kernel
theorem dX11_init_588 : decode cX11_init 588 = .ok (.bipush 111, 2) := by decide +kernel
theorem dX11_init_590 : decode cX11_init 590 = .ok (.bastore, 1) := by decide +kernel
theorem dX11_init_591 : decode cX11_init 591 = .ok (.dup, 1) := by decide +kernel
theorem dX11_init_592 : decode cX11_init 592 = .ok (.bipush 91, 2) := by decide +kernel
theorem dX11_init_594 : decode cX11_init 594 = .ok (.bipush 111, 2) := by decide +kernel
theorem dX11_init_596 : decode cX11_init 596 = .ok (.bastore, 1) := by decide +kernel
theorem dX11_init_597 : decode cX11_init 597 = .ok (.dup, 1) := by decide +kernel
theorem dX11_init_598 : decode cX11_init 598 = .ok (.bipush 92, 2) := by decide +kernel
theorem dX11_init_600 : decode cX11_init 600 = .ok (.bipush 100, 2) := by decide +kernel
theorem dX11_init_602 : decode cX11_init 602 = .ok (.bastore, 1) := by decide +kernel
theorem dX11_init_603 : decode cX11_init 603 = .ok (.dup, 1) := by decide +kernel
theorem dX11_init_604 : decode cX11_init 604 = .ok (.bipush 93, 2) := by decide +kernel
theorem dX11_init_606 : decode cX11_init 606 = .ok (.bipush 32, 2) := by decide +kernel
theorem dX11_init_608 : decode cX11_init 608 = .ok (.bastore, 1) := by decide +kernel
theorem dX11_init_609 : decode cX11_init 609 = .ok (.dup, 1) := by decide +kernel
theorem dX11_init_610 : decode cX11_init 610 = .ok (.bipush 94, 2) := by decide +kernel
theorem dX11_init_612 : decode cX11_init 612 = .ok (.bipush 100, 2) := by decide +kernel
theorem dX11_init_614 : decode cX11_init 614 = .ok (.bastore, 1) := by decide +kernel
theorem dX11_init_615 : decode cX11_init 615 = .ok (.dup, 1) := by decide +kernel
theorem dX11_init_616 : decode cX11_init 616 = .ok (.bipush 95, 2) := by decide +kernel
theorem dX11_init_618 : decode cX11_init 618 = .ok (.bipush 97, 2) := by decide +kernel
theorem dX11_init_620 : decode cX11_init 620 = .ok (.bastore, 1) := by decide +kernel
theorem dX11_init_621 : decode cX11_init 621 = .ok (.dup, 1) := by decide +kernel
theorem dX11_init_622 : decode cX11_init 622 = .ok (.bipush 96, 2) := by decide +kernel
theorem dX11_init_624 : decode cX11_init 624 = .ok (.bipush 121, 2) := by decide +kernel
theorem dX11_init_626 : decode cX11_init 626 = .ok (.bastore, 1) := by decide +kernel
theorem dX11_init_627 : decode cX11_init 627 = .ok (.dup, 1) := by decide +kernel
theorem dX11_init_628 : decode cX11_init 628 = .ok (.bipush 97, 2) := by decide +kernel
theorem dX11_init_630 : decode cX11_init 630 = .ok (.bipush 32, 2) := by decide +kernel
theorem dX11_init_632 : decode cX11_init 632 = .ok (.bastore, 1) := by decide +kernel
theorem dX11_init_633 : decode cX11_init 633 = .ok (.dup, 1) := by decide +kernel
theorem dX11_init_634 : decode cX11_init 634 = .ok (.bipush 98, 2) := by decide +kernel
theorem dX11_init_636 : decode cX11_init 636 = .ok (.bipush 108, 2) := by decide +kernel
theorem dX11_init_638 : decode cX11_init 638 = .ok (.bastore, 1) := by decide +kernel
theorem dX11_init_639 : decode cX11_init 639 = .ok (.dup, 1) := by decide +kernel
theorem dX11_init_640 : decode cX11_init 640 = .ok (.bipush 99, 2) := by decide +kernel
theorem dX11_init_642 : decode cX11_init 642 = .ok (.bipush 105, 2) := by decide +kernel
theorem dX11_init_644 : decode cX11_init 644 = .ok (.bastore, 1) := by decide +kernel
theorem dX11_init_645 : decode cX11_init 645 = .ok (.dup, 1) := by decide +kernel
theorem dX11_init_646 : decode cX11_init 646 = .ok (.bipush 100, 2) := by decide +kernel
theorem dX11_init_648 : decode cX11_init 648 = .ok (.bipush 116, 2) := by decide +kernel
theorem dX11_init_650 : decode cX11_init 650 = .ok (.bastore, 1) := by decide +kernel
theorem dX11_init_651 : decode cX11_init 651 = .ok (.dup, 1) := by decide +kernel
theorem dX11_init_652 : decode cX11_init 652 = .ok (.bipush 101, 2) := by decide +kernel
theorem dX11_init_654 : decode cX11_init 654 = .ok (.bipush 32, 2) := by decide +kernel
theorem dX11_init_656 : decode cX11_init 656 = .ok (.bastore, 1) := by decide +kernel
theorem dX11_init_657 : decode cX11_init 657 = .ok (.dup, 1) := by decide +kernel
theorem dX11_init_658 : decode cX11_init 658 = .ok (.bipush 102, 2) := by decide +kernel
theorem dX11_init_660 : decode cX11_init 660 = .ok (.bipush 110, 2) := by decide +kernel
theorem dX11_init_662 : decode cX11_init 662 = .ok (.bastore, 1) := by decide +kernel
theorem dX11_init_663 : decode cX11_init 663 = .ok (.dup, 1) := by decide +kernel
theorem dX11_init_664 : decode cX11_init 664 = .ok (.bipush 103, 2) := by decide +kernel
theorem dX11_init_666 : decode cX11_init 666 = .ok (.bipush 105, 2) := by decide +kernel
theorem dX11_init_668 : decode cX11_init 668 = .ok (.bastore, 1) := by decide +kernel
theorem dX11_init_669 : decode cX11_init 669 = .ok (.dup, 1) := by decide +kernel
theorem dX11_init_670 : decode cX11_init 670 = .ok (.bipush 104, 2) := by decide +kernel
theorem dX11_init_672 : decode cX11_init 672 = .ok (.bipush 103, 2) := by decide +kernel
theorem dX11_init_674 : decode cX11_init 674 = .ok (.bastore, 1) := by decide +kernel
theorem dX11_init_675 : decode cX11_init 675 = .ok (.dup, 1) := by decide +kernel
theorem dX11_init_676 : decode cX11_init 676 = .ok (.bipush 105, 2) := by decide +kernel
theorem dX11_init_678 : decode cX11_init 678 = .ok (.bipush 104, 2) := by decide +kernel
theorem dX11_init_680 : decode cX11_init 680 = .ok (.bastore, 1) := by decide +kernel
theorem dX11_init_681 : decode cX11_init 681 = .ok (.dup, 1) := by decide +kernel
theorem dX11_init_682 : decode cX11_init 682 = .ok (.bipush 106, 2) := by decide +kernel
theorem dX11_init_684 : decode cX11_init 684 = .ok (.bipush 116, 2) := by decide +kernel
theorem dX11_init_686 : decode cX11_init 686 = .ok (.bastore, 1) := by decide +kernel
theorem dX11_init_687 : decode cX11_init 687 = .ok (.dup, 1) := by decide +kernel
theorem dX11_init_688 : decode cX11_init 688 = .ok (.bipush 107, 2) := by decide +kernel
theorem dX11_init_690 : decode cX11_init 690 = .ok (.bipush 115, 2) := by decide +kernel
theorem dX11_init_692 : decode cX11_init 692 = .ok (.bastore, 1) := by decide +kernel
theorem dX11_init_693 : decode cX11_init 693 = .ok (.dup, 1) := by decide +kernel
theorem dX11_init_694 : decode cX11_init 694 = .ok (.bipush 108, 2) := by decide +kernel
theorem dX11_init_696 : decode cX11_init 696 = .ok (.bipush 32, 2) := by decide +kernel
theorem dX11_init_698 : decode cX11_init 698 = .ok (.bastore, 1) := by decide +kernel
theorem dX11_init_699 : decode cX11_init 699 = .ok (.dup, 1) := by decide +kernel
theorem dX11_init_700 : decode cX11_init 700 = .ok (.bipush 109, 2) := by decide +kernel
theorem dX11_init_702 : decode cX11_init 702 = .ok (.bipush 100, 2) := by decide +kernel
theorem dX11_init_704 : decode cX11_init 704 = .ok (.bastore, 1) := by decide +kernel
theorem dX11_init_705 : decode cX11_init 705 = .ok (.dup, 1) := by decide +kernel
theorem dX11_init_706 : decode cX11_init 706 = .ok (.bipush 110, 2) := by decide +kernel
theorem dX11_init_708 : decode cX11_init 708 = .ok (.bipush 111, 2) := by decide +kernel
theorem dX11_init_710 : decode cX11_init 710 = .ok (.bastore, 1) := by decide +kernel
theorem dX11_init_711 : decode cX11_init 711 = .ok (.dup, 1) := by decide +kernel
theorem dX11_init_712 : decode cX11_init 712 = .ok (.bipush 111, 2) := by decide +kernel
theorem dX11_init_714 : decode cX11_init 714 = .ok (.bipush 110, 2) := by decide +kernel
theorem dX11_init_716 : decode cX11_init 716 = .ok (.bastore, 1) := by decide +kernel
theorem dX11_init_717 : decode cX11_init 717 = .ok (.dup, 1) := by decide +kernel
theorem dX11_init_718 : decode cX11_init 718 = .ok (.bipush 112, 2) := by decide +kernel
theorem dX11_init_720 : decode cX11_init 720 = .ok (.bipush 101, 2) := by decide +kernel
theorem dX11_init_722 : decode cX11_init 722 = .ok (.bastore, 1) := by decide +kernel
theorem dX11_init_723 : decode cX11_init 723 = .ok (.dup, 1) := by decide +kernel
theorem dX11_init_724 : decode cX11_init 724 = .ok (.bipush 113, 2) := by decide +kernel
theorem dX11_init_726 : decode cX11_init 726 = .ok (.bipush 32, 2) := by decide +kernel
theorem dX11_init_728 : decode cX11_init 728 = .ok (.bastore, 1) := by decide +kernel
theorem dX11_init_729 : decode cX11_init 729 = .ok (.dup, 1) := by decide +kernel
theorem dX11_init_730 : decode cX11_init 730 = .ok (.bipush 114, 2) := by decide +kernel
theorem dX11_init_732 : decode cX11_init 732 = .ok (.bipush 115, 2) := by decide +kernel
theorem dX11_init_734 : decode cX11_init 734 = .ok (.bastore, 1) := by decide +kernel
theorem dX11_init_735 : decode cX11_init 735 = .ok (.dup, 1) := by decide +kernel
theorem dX11_init_736 : decode cX11_init 736 = .ok (.bipush 115, 2) := by decide +kernel
theorem dX11_init_738 : decode cX11_init 738 = .ok (.bipush 112, 2) := by decide +kernel
theorem dX11_init_740 : decode cX11_init 740 = .ok (.bastore, 1) := by decide +kernel
theorem dX11_init_741 : decode cX11_init 741 = .ok (.dup, 1) := by decide +kernel
theorem dX11_init_742 : decode cX11_init 742 = .ok (.bipush 116, 2) := by decide +kernel
theorem dX11_init_744 : decode cX11_init 744 = .ok (.bipush 101, 2) := by decide +kernel
theorem dX11_init_746 : decode cX11_init 746 = .ok (.bastore, 1) := by decide +kernel
theorem dX11_init_747 : decode cX11_init 747 = .ok (.dup, 1) := by decide +kernel
theorem dX11_init_748 : decode cX11_init 748 = .ok (.bipush 117, 2) := by decide +kernel
theorem dX11_init_750 : decode cX11_init 750 = .ok (.bipush 110, 2) := by decide +kernel
theorem dX11_init_752 : decode cX11_init 752 = .ok (.bastore, 1) := by decide +kernel
theorem dX11_init_753 : decode cX11_init 753 = .ok (.dup, 1) := by decide +kernel
theorem dX11_init_754 : decode cX11_init 754 = .ok (.bipush 118, 2) := by decide +kernel
theorem dX11_init_756 : decode cX11_init 756 = .ok (.bipush 116, 2) := by decide +kernel
theorem dX11_init_758 : decode cX11_init 758 = .ok (.bastore, 1) := by decide +kernel
theorem dX11_init_759 : decode cX11_init 759 = .ok (.dup, 1) := by decide +kernel
theorem dX11_init_760 : decode cX11_init 760 = .ok (.bipush 119, 2) := by decide +kernel
theorem dX11_init_762 : decode cX11_init 762 = .ok (.bipush 32, 2) := by decide +kernel
theorem dX11_init_764 : decode cX11_init 764 = .ok (.bastore, 1) := by decide +kernel
theorem dX11_init_765 : decode cX11_init 765 = .ok (.dup, 1) := by decide +kernel
theorem dX11_init_766 : decode cX11_init 766 = .ok (.bipush 120, 2) := by decide +kernel
theorem dX11_init_768 : decode cX11_init 768 = .ok (.bipush 119, 2) := by decide +kernel
theorem dX11_init_770 : decode cX11_init 770 = .ok (.bastore, 1) := by decide +kernel
theorem dX11_init_771 : decode cX11_init 771 = .ok (.dup, 1) := by decide +kernel
theorem dX11_init_772 : decode cX11_init 772 = .ok (.bipush 121, 2) := by decide +kernel
theorem dX11_init_774 : decode cX11_init 774 = .ok (.bipush 111, 2) := by decide +kernel
theorem dX11_init_776 : decode cX11_init 776 = .ok (.bastore, 1) := by decide +kernel
theorem dX11_init_777 : decode cX11_init 777 = .ok (.dup, 1) := by decide +kernel
theorem dX11_init_778 : decode cX11_init 778 = .ok (.bipush 122, 2) := by decide +kernel
theorem dX11_init_780 : decode cX11_init 780 = .ok (.bipush 114, 2) := by decide +kernel
theorem dX11_init_782 : decode cX11_init 782 = .ok (.bastore, 1) := by decide +kernel
theorem dX11_init_783 : decode cX11_init 783 = .ok (.dup, 1) := by decide +kernel
theorem dX11_init_784 : decode cX11_init 784 = .ok (.bipush 123, 2) := by decide +kernel
theorem dX11_init_786 : decode cX11_init 786 = .ok (.bipush 116, 2) := by decide +kernel
theorem dX11_init_788 : decode cX11_init 788 = .ok (.bastore, 1) := by decide +kernel
theorem dX11_init_789 : decode cX11_init 789 = .ok (.dup, 1) := by decide +kernel
theorem dX11_init_790 : decode cX11_init 790 = .ok (.bipush 124, 2) := by decide +kernel
theorem dX11_init_792 : decode cX11_init 792 = .ok (.bipush 104, 2) := by decide +kernel
theorem dX11_init_794 : decode cX11_init 794 = .ok (.bastore, 1) := by decide +kernel
theorem dX11_init_795 : decode cX11_init 795 = .ok (.dup, 1) := by decide +kernel
theorem dX11_init_796 : decode cX11_init 796 = .ok (.bipush 125, 2) := by decide +kernel
theorem dX11_init_798 : decode cX11_init 798 = .ok (.bipush 32, 2) := by decide +kernel
theorem dX11_init_800 : decode cX11_init 800 = .ok (.bastore, 1) := by decide +kernel
theorem dX11_init_801 : decode cX11_init 801 = .ok (.dup, 1) := by decide +kernel
theorem dX11_init_802 : decode cX11_init 802 = .ok (.bipush 126, 2) := by decide +kernel
theorem dX11_init_804 : decode cX11_init 804 = .ok (.bipush 104, 2) := by decide +kernel
theorem dX11_init_806 : decode cX11_init 806 = .ok (.bastore, 1) := by decide +kernel
theorem dX11_init_807 : decode cX11_init 807 = .ok (.dup, 1) := by decide +kernel
theorem dX11_init_808 : decode cX11_init 808 = .ok (.bipush 127, 2) := by decide +kernel
theorem dX11_init_810 : decode cX11_init 810 = .ok (.bipush 101, 2) := by decide +kernel
theorem dX11_init_812 : decode cX11_init 812 = .ok (.bastore, 1) := by decide +kernel
theorem dX11_init_813 : decode cX11_init 813 = .ok (.dup, 1) := by decide +kernel
theorem dX11_init_814 : decode cX11_init 814 = .ok (.sipush 128, 3) := by decide +kernel
theorem dX11_init_817 : decode cX11_init 817 = .ok (.bipush 114, 2) := by decide +kernel
theorem dX11_init_819 : decode cX11_init 819 = .ok (.bastore, 1) := by decide +kernel
theorem dX11_init_820 : decode cX11_init 820 = .ok (.dup, 1) := by decide +kernel
theorem dX11_init_821 : decode cX11_init 821 = .ok (.sipush 129, 3) := by decide +kernel
theorem dX11_init_824 : decode cX11_init 824 = .ok (.bipush 101, 2) := by decide +kernel
theorem dX11_init_826 : decode cX11_init 826 = .ok (.bastore, 1) := by decide +kernel
theorem dX11_init_827 : decode cX11_init 827 = .ok (.dup, 1) := by decide +kernel
theorem dX11_init_828 : decode cX11_init 828 = .ok (.sipush 130, 3) := by decide +kernel
theorem dX11_init_831 : decode cX11_init 831 = .ok (.bipush 32, 2) := by decide +kernel
theorem dX11_init_833 : decode cX11_init 833 = .ok (.bastore, 1) := by decide +kernel
theorem dX11_init_834 : decode cX11_init 834 = .ok (.dup, 1) := by decide +kernel
theorem dX11_init_835 : decode cX11_init 835 = .ok (.sipush 131, 3) := by decide +kernel
theorem dX11_init_838 : decode cX11_init 838 = .ok (.bipush 115, 2) := by decide +kernel
theorem dX11_init_840 : decode cX11_init 840 = .ok (.bastore, 1) := by decide +kernel
theorem dX11_init_841 : decode cX11_init 841 = .ok (.dup, 1) := by decide +kernel
theorem dX11_init_842 : decode cX11_init 842 = .ok (.sipush 132, 3) := by decide +kernel
theorem dX11_init_845 : decode cX11_init 845 = .ok (.bipush 101, 2) := by decide +kernel
theorem dX11_init_847 : decode cX11_init 847 = .ok (.bastore, 1) := by decide +kernel
theorem dX11_init_848 : decode cX11_init 848 = .ok (.dup, 1) := by decide +kernel
theorem dX11_init_849 : decode cX11_init 849 = .ok (.sipush 133, 3) := by decide +kernel
theorem dX11_init_852 : decode cX11_init 852 = .ok (.bipush 110, 2) := by decide +kernel
theorem dX11_init_854 : decode cX11_init 854 = .ok (.bastore, 1) := by decide +kernel
theorem dX11_init_855 : decode cX11_init 855 = .ok (.dup, 1) := by decide +kernel
theorem dX11_init_856 : decode cX11_init 856 = .ok (.sipush 134, 3) := by decide +kernel
theorem dX11_init_859 : decode cX11_init 859 = .ok (.bipush 100, 2) := by decide +kernel
theorem dX11_init_861 : decode cX11_init 861 = .ok (.bastore, 1) := by decide +kernel
theorem dX11_init_862 : decode cX11_init 862 = .ok (.dup, 1) := by decide +kernel
theorem dX11_init_863 : decode cX11_init 863 = .ok (.sipush 135, 3) := by decide +kernel
theorem dX11_init_866 : decode cX11_init 866 = .ok (.bipush 32, 2) := by decide +kernel
theorem dX11_init_868 : decode cX11_init 868 = .ok (.bastore, 1) := by decide +kernel
theorem dX11_init_869 : decode cX11_init 869 = .ok (.dup, 1) := by decide +kernel
theorem dX11_init_870 : decode cX11_init 870 = .ok (.sipush 136, 3) := by decide +kernel
theorem dX11_init_873 : decode cX11_init 873 = .ok (.bipush 108, 2) := by decide +kernel
theorem dX11_init_875 : decode cX11_init 875 = .ok (.bastore, 1) := by decide +kernel
theorem dX11_init_876 : decode cX11_init 876 = .ok (.dup, 1) := by decide +kernel
theorem dX11_init_877 : decode cX11_init 877 = .ok (.sipush 137, 3) := by decide +kernel
theorem dX11_init_880 : decode cX11_init 880 = .ok (.bipush 105, 2) := by decide +kernel
theorem dX11_init_882 : decode cX11_init 882 = .ok (.bastore, 1) := by decide +kernel
theorem dX11_init_883 : decode cX11_init 883 = .ok (.dup, 1) := by decide +kernel
theorem dX11_init_884 : decode cX11_init 884 = .ok (.sipush 138, 3) := by decide +kernel
theorem dX11_init_887 : decode cX11_init 887 = .ok (.bipush 103, 2) := by decide +kernel
theorem dX11_init_889 : decode cX11_init 889 = .ok (.bastore, 1) := by decide +kernel
theorem dX11_init_890 : decode cX11_init 890 = .ok (.dup, 1) := by decide +kernel
theorem dX11_init_891 : decode cX11_init 891 = .ok (.sipush 139, 3) := by decide +kernel
theorem dX11_init_894 : decode cX11_init 894 = .ok (.bipush 104, 2) := by decide +kernel
theorem dX11_init_896 : decode cX11_init 896 = .ok (.bastore, 1) := by decide +kernel
theorem dX11_init_897 : decode cX11_init 897 = .ok (.dup, 1) := by decide +kernel
theorem dX11_init_898 : decode cX11_init 898 = .ok (.sipush 140, 3) := by decide +kernel
theorem dX11_init_901 : decode cX11_init 901 = .ok (.bipush 116, 2) := by decide +kernel
theorem dX11_init_903 : decode cX11_init 903 = .ok (.bastore, 1) := by decide +kernel
theorem dX11_init_904 : decode cX11_init 904 = .ok (.dup, 1) := by decide +kernel
theorem dX11_init_905 : decode cX11_init 905 = .ok (.sipush 141, 3) := by decide +kernel
theorem dX11_init_908 : decode cX11_init 908 = .ok (.bipush 32, 2) := by decide +kernel
theorem dX11_init_910 : decode cX11_init 910 = .ok (.bastore, 1) := by decide +kernel
theorem dX11_init_911 : decode cX11_init 911 = .ok (.dup, 1) := by decide +kernel
theorem dX11_init_912 : decode cX11_init 912 = .ok (.sipush 142, 3) := by decide +kernel
theorem dX11_init_915 : decode cX11_init 915 = .ok (.bipush 100, 2) := by decide +kernel
theorem dX11_init_917 : decode cX11_init 917 = .ok (.bastore, 1) := by decide +kernel
theorem dX11_init_918 : decode cX11_init 918 = .ok (.dup, 1) := by decide +kernel
theorem dX11_init_919 : decode cX11_init 919 = .ok (.sipush 143, 3) := by decide +kernel
theorem dX11_init_922 : decode cX11_init 922 = .ok (.bipush 97, 2) := by decide +kernel
theorem dX11_init_924 : decode cX11_init 924 = .ok (.bastore, 1) := by decide +kernel
theorem dX11_init_925 : decode cX11_init 925 = .ok (.dup, 1) := by decide +kernel
theorem dX11_init_926 : decode cX11_init 926 = .ok (.sipush 144, 3) := by decide +kernel
theorem dX11_init_929 : decode cX11_init 929 = .ok (.bipush 114, 2) := by decide +kernel
theorem dX11_init_931 : decode cX11_init 931 = .ok (.bastore, 1) := by decide +kernel
theorem dX11_init_932 : decode cX11_init 932 = .ok (.dup, 1) := by decide +kernel
theorem dX11_init_933 : decode cX11_init 933 = .ok (.sipush 145, 3) := by decide +kernel
theorem dX11_init_936 : decode cX11_init 936 = .ok (.bipush 107, 2) := by decide +kernel
theorem dX11_init_938 : decode cX11_init 938 = .ok (.bastore, 1) := by decide +kernel
theorem dX11_init_939 : decode cX11_init 939 = .ok (.dup, 1) := by decide +kernel
theorem dX11_init_940 : decode cX11_init 940 = .ok (.sipush 146, 3) := by decide +kernel
theorem dX11_init_943 : decode cX11_init 943 = .ok (.bipush 32, 2) := by decide +kernel
theorem dX11_init_945 : decode cX11_init 945 = .ok (.bastore, 1) := by decide +kernel
theorem dX11_init_946 : decode cX11_init 946 = .ok (.dup, 1) := by decide +kernel
theorem dX11_init_947 : decode cX11_init 947 = .ok (.sipush 147, 3) := by decide +kernel
theorem dX11_init_950 : decode cX11_init 950 = .ok (.bipush 116, 2) := by decide +kernel
theorem dX11_init_952 : decode cX11_init 952 = .ok (.bastore, 1) := by decide +kernel
theorem dX11_init_953 : decode cX11_init 953 = .ok (.dup, 1) := by decide +kernel
theorem dX11_init_954 : decode cX11_init 954 = .ok (.sipush 148, 3) := by decide +kernel
theorem dX11_init_957 : decode cX11_init 957 = .ok (.bipush 105, 2) := by decide +kernel
theorem dX11_init_959 : decode cX11_init 959 = .ok (.bastore, 1) := by decide +kernel
theorem dX11_init_960 : decode cX11_init 960 = .ok (.dup, 1) := by decide +kernel
theorem dX11_init_961 : decode cX11_init 961 = .ok (.sipush 149, 3) := by decide +kernel
theorem dX11_init_964 : decode cX11_init 964 = .ok (.bipush 109, 2) := by decide +kernel
theorem dX11_init_966 : decode cX11_init 966 = .ok (.bastore, 1) := by decide +kernel
theorem dX11_init_967 : decode cX11_init 967 = .ok (.dup, 1) := by decide +kernel
theorem dX11_init_968 : decode cX11_init 968 = .ok (.sipush 150, 3) := by decide +kernel
theorem dX11_init_971 : decode cX11_init 971 = .ok (.bipush 101, 2) := by decide +kernel
theorem dX11_init_973 : decode cX11_init 973 = .ok (.bastore, 1) := by decide +kernel
theorem dX11_init_974 : decode cX11_init 974 = .ok (.dup, 1) := by decide +kernel
theorem dX11_init_975 : decode cX11_init 975 = .ok (.sipush 151, 3) := by decide +kernel
theorem dX11_init_978 : decode cX11_init 978 = .ok (.bipush 115, 2) := by decide +kernel
theorem dX11_init_980 : decode cX11_init 980 = .ok (.bastore, 1) := by decide +kernel
theorem dX11_init_981 : decode cX11_init 981 = .ok (.dup, 1) := by decide +kernel
theorem dX11_init_982 : decode cX11_init 982 = .ok (.sipush 152, 3) := by decide +kernel
theorem dX11_init_985 : decode cX11_init 985 = .ok (.bipush 32, 2) := by decide +kernel
theorem dX11_init_987 : decode cX11_init 987 = .ok (.bastore, 1) := by decide +kernel
theorem dX11_init_988 : decode cX11_init 988 = .ok (.putfield 37, 3) := by decide +kernel
theorem dX11_init_991 : decode cX11_init 991 = .ok (.aload_n 0, 1) := by decide +kernel
theorem dX11_init_992 : decode cX11_init 992 = .ok (.sipush 400, 3) := by decide +kernel
theorem dX11_init_995 : decode cX11_init 995 = .ok (.newarray .byte, 2) := by decide +kernel
theorem dX11_init_997 : decode cX11_init 997 = .ok (.putfield 41, 3) := by decide +kernel
theorem dX11_init_1000 : decode cX11_init 1000 = .ok (.aload_n 0, 1) := by decide +kernel
theorem dX11_init_1001 : decode cX11_init 1001 = .ok (.iconst 5, 1) := by decide +kernel
theorem dX11_init_1002 : decode cX11_init 1002 = .ok (.newarray .int, 2) := by decide +kernel
theorem dX11_init_1004 : decode cX11_init 1004 = .ok (.putfield 44, 3) := by decide +kernel
theorem dX11_init_1007 : decode cX11_init 1007 = .ok (.aload_n 0, 1) := by decide +kernel
theorem dX11_init_1008 : decode cX11_init 1008 = .ok (.iconst (-1), 1) := by decide +kernel
theorem dX11_init_1009 : decode cX11_init 1009 = .ok (.putfield 47, 3) := by decide +kernel
theorem dX11_init_1012 : decode cX11_init 1012 = .ok (.aload_n 0, 1) := by decide +kernel
theorem dX11_init_1013 : decode cX11_init 1013 = .ok (.sipush 401, 3) := by decide +kernel
theorem dX11_init_1016 : decode cX11_init 1016 = .ok (.newarray .int, 2) := by decide +kernel
theorem dX11_init_1018 : decode cX11_init 1018 = .ok (.putfield 50, 3) := by decide +kernel
theorem dX11_init_1021 : decode cX11_init 1021 = .ok (.aload_n 0, 1) := by decide +kernel
theorem dX11_init_1022 : decode cX11_init 1022 = .ok (.sipush 401, 3) := by decide +kernel
theorem dX11_init_1025 : decode cX11_init 1025 = .ok (.newarray .int, 2) := by decide +kernel
theorem dX11_init_1027 : decode cX11_init 1027 = .ok (.putfield 53, 3) := by decide +kernel
theorem dX11_init_1030 : decode cX11_init 1030 = .ok (.aload_n 0, 1) := by decide +kernel
theorem dX11_init_1031 : decode cX11_init 1031 = .ok (.sipush 401, 3) := by decide +kernel
theorem dX11_init_1034 : decode cX11_init 1034 = .ok (.newarray .int, 2) := by decide +kernel
theorem dX11_init_1036 : decode cX11_init 1036 = .ok (.putfield 56, 3) := by decide +kernel
theorem dX11_init_1039 : decode cX11_init 1039 = .ok (.aload_n 0, 1) := by decide +kernel
theorem dX11_init_1040 : decode cX11_init 1040 = .ok (.bipush 10, 2) := by decide +kernel
theorem dX11_init_1042 : decode cX11_init 1042 = .ok (.newarray .int, 2) := by decide +kernel
theorem dX11_init_1044 : decode cX11_init 1044 = .ok (.putfield 59, 3) := by decide +kernel
theorem dX11_init_1047 : decode cX11_init 1047 = .ok (.aload_n 0, 1) := by decide +kernel
theorem dX11_init_1048 : decode cX11_init 1048 = .ok (.sipush 560, 3) := by decide +kernel
theorem dX11_init_1051 : decode cX11_init 1051 = .ok (.newarray .int, 2) := by decide +kernel
theorem dX11_init_1053 : decode cX11_init 1053 = .ok (.putfield 62, 3) := by decide +kernel
theorem dX11_init_1056 : decode cX11_init 1056 = .ok (.aload_n 0, 1) := by decide +kernel
theorem dX11_init_1057 : decode cX11_init 1057 = .ok (.sipush 560, 3) := by decide +kernel
theorem dX11_init_1060 : decode cX11_init 1060 = .ok (.newarray .int, 2) := by decide +kernel
theorem dX11_init_1062 : decode cX11_init 1062 = .ok (.putfield 65, 3) := by decide +kernel
theorem dX11_init_1065 : decode cX11_init 1065 = .ok (.aload_n 0, 1) := by decide +kernel
theorem dX11_init_1066 : decode cX11_init 1066 = .ok (.bipush 10, 2) := by decide +kernel
theorem dX11_init_1068 : decode cX11_init 1068 = .ok (.newarray .int, 2) := by decide +kernel
theorem dX11_init_1070 : decode cX11_init 1070 = .ok (.putfield 68, 3) := by decide +kernel
theorem dX11_init_1073 : decode cX11_init 1073 = .ok (.aload_n 0, 1) := by decide +kernel
theorem dX11_init_1074 : decode cX11_init 1074 = .ok (.bipush 100, 2) := by decide +kernel
theorem dX11_init_1076 : decode cX11_init 1076 = .ok (.newarray .int, 2) := by decide +kernel
theorem dX11_init_1078 : decode cX11_init 1078 = .ok (.putfield 71, 3) := by decide +kernel
theorem dX11_init_1081 : decode cX11_init 1081 = .ok (.aload_n 0, 1) := by decide +kernel
theorem dX11_init_1082 : decode cX11_init 1082 = .ok (.sipush 330, 3) := by decide +kernel
theorem dX11_init_1085 : decode cX11_init 1085 = .ok (.newarray .byte, 2) := by decide +kernel
theorem dX11_init_1087 : decode cX11_init 1087 = .ok (.putfield 74, 3) := by decide +kernel
theorem dX11_init_1090 : decode cX11_init 1090 = .ok (.aload_n 0, 1) := by decide +kernel
theorem dX11_init_1091 : decode cX11_init 1091 = .ok (.bipush 10, 2) := by decide +kernel
theorem dX11_init_1093 : decode cX11_init 1093 = .ok (.newarray .int, 2) := by decide +kernel
theorem dX11_init_1095 : decode cX11_init 1095 = .ok (.putfield 77, 3) := by decide +kernel
theorem dX11_init_1098 : decode cX11_init 1098 = .ok (.aload_n 0, 1) := by decide +kernel
theorem dX11_init_1099 : decode cX11_init 1099 = .ok (.sipush 11264, 3) := by decide +kernel
theorem dX11_init_1102 : decode cX11_init 1102 = .ok (.newarray .byte, 2) := by decide +kernel
theorem dX11_init_1104 : decode cX11_init 1104 = .ok (.putfield 80, 3) := by decide +kernel
theorem dX11_init_1107 : decode cX11_init 1107 = .ok (.aload_n 0, 1) := by decide +kernel
theorem dX11_init_1108 : decode cX11_init 1108 = .ok (.sipush 11264, 3) := by decide +kernel
theorem dX11_init_1111 : decode cX11_init 1111 = .ok (.newarray .int, 2) := by decide +kernel
theorem dX11_init_1113 : decode cX11_init 1113 = .ok (.putfield 83, 3) := by decide +kernel
theorem dX11_init_1116 : decode cX11_init 1116 = .ok (.aload_n 0, 1) := by decide +kernel
theorem dX11_init_1117 : decode cX11_init 1117 = .ok (.sipush 11264, 3) := by decide +kernel
theorem dX11_init_1120 : decode cX11_init 1120 = .ok (.newarray .long, 2) := by decide +kernel
theorem dX11_init_1122 : decode cX11_init 1122 = .ok (.putfield 86, 3) := by decide +kernel
theorem dX11_init_1125 : decode cX11_init 1125 = .ok (.aload_n 0, 1) := by decide +kernel
theorem dX11_init_1126 : decode cX11_init 1126 = .ok (.bipush 10, 2) := by decide +kernel
theorem dX11_init_1128 : decode cX11_init 1128 = .ok (.newarray .int, 2) := by decide +kernel
theorem dX11_init_1130 : decode cX11_init 1130 = .ok (.putfield 90, 3) := by decide +kernel
theorem dX11_init_1133 : decode cX11_init 1133 = .ok (.aload_n 0, 1) := by decide +kernel
theorem dX11_init_1134 : decode cX11_init 1134 = .ok (.sipush 11264, 3) := by decide +kernel
theorem dX11_init_1137 : decode cX11_init 1137 = .ok (.newarray .boolean, 2) := by decide +kernel
theorem dX11_init_1139 : decode cX11_init 1139 = .ok (.putfield 93, 3) := by decide +kernel
theorem dX11_init_1142 : decode cX11_init 1142 = .ok (.aload_n 0, 1) := by decide +kernel
theorem dX11_init_1143 : decode cX11_init 1143 = .ok (.ldc 96, 2) := by decide +kernel
theorem dX11_init_1145 : decode cX11_init 1145 = .ok (.newarray .byte, 2) := by decide +kernel
theorem dX11_init_1147 : decode cX11_init 1147 = .ok (.putfield 97, 3) := by decide +kernel
theorem dX11_init_1150 : decode cX11_init 1150 = .ok (.aload_n 0, 1) := by decide +kernel
theorem dX11_init_1151 : decode cX11_init 1151 = .ok (.iconst (-1), 1) := by decide +kernel
theorem dX11_init_1152 : decode cX11_init 1152 = .ok (.putfield 100, 3) := by decide +kernel
theorem dX11_init_1155 : decode cX11_init 1155 = .ok (.aload_n 0, 1) := by decide +kernel
theorem dX11_init_1156 : decode cX11_init 1156 = .ok (.bipush 60, 2) := by decide +kernel
theorem dX11_init_1158 : decode cX11_init 1158 = .ok (.newarray .int, 2) := by decide +kernel
theorem dX11_init_1160 : decode cX11_init 1160 = .ok (.putfield 103, 3) := by decide +kernel
theorem dX11_init_1163 : decode cX11_init 1163 = .ok (.aload_n 0, 1) := by decide +kernel
theorem dX11_init_1164 : decode cX11_init 1164 = .ok (.getfield 24, 3) := by decide +kernel
theorem dX11_init_1167 : decode cX11_init 1167 = .ok (.sipush 254, 3) := by decide +kernel
theorem dX11_init_1170 : decode cX11_init 1170 = .ok (.iconst 3, 1) := by decide +kernel
theorem dX11_init_1171 : decode cX11_init 1171 = .ok (.iastore, 1) := by decide +kernel
theorem dX11_init_1172 : decode cX11_init 1172 = .ok (.aload_n 0, 1) := by decide +kernel
theorem dX11_init_1173 : decode cX11_init 1173 = .ok (.getfield 24, 3) := by decide +kernel
theorem dX11_init_1176 : decode cX11_init 1176 = .ok (.sipush 258, 3) := by decide +kernel
theorem dX11_init_1179 : decode cX11_init 1179 = .ok (.iconst (-1), 1) := by decide +kernel
theorem dX11_init_1180 : decode cX11_init 1180 = .ok (.iastore, 1) := by decide +kernel
theorem dX11_init_1181 : decode cX11_init 1181 = .ok (.return_, 1) := by decide +kernel
set_option maxRecDepth 200000 in
def wp_X11_init (t : Nat) (σ : st_S) (Q : st_S → Prop) : Prop := ∀ (t936 : Nat) (s937 : st_S), t936 = gN σ → s937 = sA σ 0 7 → gK s937 t = 32 + 11 ∧ ∀ s939 : st_S, s939 = sR s937 t 1 (some t936) → ∀ (t942 : Nat) (s943 : st_S), t942 = gN s939 → s943 = sA s939 0 5866 → gK s943 t = 32 + 11 ∧ ∀ s945 : st_S, s945 = sR s943 t 2 (some t942) → ∀ (t948 : Nat) (s949 : st_S), t948 = gN s945 → s949 = sA s945 0 11732 → gK s949 t = 32 + 11 ∧ ∀ s951 : st_S, s951 = sR s949 t 3 (some t948) → ∀ (t954 : Nat) (s955 : st_S), t954 = gN s951 → s955 = sA s951 3 2 → gK s955 t = 32 + 11 ∧ ∀ s957 : st_S, s957 = sR s955 t 4 (some t954) → ∀ (t960 : Nat) (s961 : st_S), t960 = gN s957 → s961 = sA s957 0 34 → gK s961 t = 32 + 11 ∧ ∀ s963 : st_S, s963 = sR s961 t 5 (some t960) → ∀ (t966 : Nat) (s967 : st_S), t966 = gN s963 → s967 = sA s963 2 153 → ix 0 (gL s967 t966) ∧ ∀ s969 : st_S, s969 = sI s967 t966 0 (o_nb 116) → ix 1 (gL s969 t966) ∧ ∀ s972 : st_S, s972 = sI s969 t966 1 (o_nb 97) → ix 2 (gL s972 t966) ∧ ∀ s975 : st_S, s975 = sI s972 t966 2 (o_nb 107) → ix 3 (gL s975 t966) ∧ ∀ s978 : st_S, s978 = sI s975 t966 3 (o_nb 101) → ix 4 (gL s978 t966) ∧ ∀ s981 : st_S, s981 = sI s978 t966 4 (o_nb 115) → ix 5 (gL s981 t966) ∧ ∀ s984 : st_S, s984 = sI s981 t966 5 (o_nb 32) → ix 6 (gL s984 t966) ∧ ∀ s987 : st_S, s987 = sI s984 t966 6 (o_nb 99) → ix 7 (gL s987 t966) ∧ ∀ s990 : st_S, s990 = sI s987 t966 7 (o_nb 111) → ix 8 (gL s990 t966) ∧ ∀ s993 : st_S, s993 = sI s990 t966 8 (o_nb 115) → ix 9 (gL s993 t966) ∧ ∀ s996 : st_S, s996 = sI s993 t966 9 (o_nb 116) → ix 10 (gL s996 t966) ∧ ∀ s999 : st_S, s999 = sI s996 t966 10 (o_nb 115) → ix 11 (gL s999 t966) ∧ ∀ s1002 : st_S, s1002 = sI s999 t966 11 (o_nb 32) → ix 12 (gL s1002 t966) ∧ ∀ s1005 : st_S, s1005 = sI s1002 t966 12 (o_nb 108) → ix 13 (gL s1005 t966) ∧ ∀ s1008 : st_S, s1008 = sI s1005 t966 13 (o_nb 111) → ix 14 (gL s1008 t966) ∧ ∀ s1011 : st_S, s1011 = sI s1008 t966 14 (o_nb 100) → ix 15 (gL s1011 t966) ∧ ∀ s1014 : st_S, s1014 = sI s1011 t966 15 (o_nb 103) → ix 16 (gL s1014 t966) ∧ ∀ s1017 : st_S, s1017 = sI s1014 t966 16 (o_nb 101) → ix 17 (gL s1017 t966) ∧ ∀ s1020 : st_S, s1020 = sI s1017 t966 17 (o_nb 115) → ix 18 (gL s1020 t966) ∧ ∀ s1023 : st_S, s1023 = sI s1020 t966 18 (o_nb 32) → ix 19 (gL s1023 t966) ∧ ∀ s1026 : st_S, s1026 = sI s1023 t966 19 (o_nb 115) → ix 20 (gL s1026 t966) ∧ ∀ s1029 : st_S, s1029 = sI s1026 t966 20 (o_nb 112) → ix 21 (gL s1029 t966) ∧ ∀ s1032 : st_S, s1032 = sI s1029 t966 21 (o_nb 111) → ix 22 (gL s1032 t966) ∧ ∀ s1035 : st_S, s1035 = sI s1032 t966 22 (o_nb 105) → ix 23 (gL s1035 t966) ∧ ∀ s1038 : st_S, s1038 = sI s1035 t966 23 (o_nb 108) → ix 24 (gL s1038 t966) ∧ ∀ s1041 : st_S, s1041 = sI s1038 t966 24 (o_nb 115) → ix 25 (gL s1041 t966) ∧ ∀ s1044 : st_S, s1044 = sI s1041 t966 25 (o_nb 32) → ix 26 (gL s1044 t966) ∧ ∀ s1047 : st_S, s1047 = sI s1044 t966 26 (o_nb 98) → ix 27 (gL s1047 t966) ∧ ∀ s1050 : st_S, s1050 = sI s1047 t966 27 (o_nb 97) → ix 28 (gL s1050 t966) ∧ ∀ s1053 : st_S, s1053 = sI s1050 t966 28 (o_nb 114) → ix 29 (gL s1053 t966) ∧ ∀ s1056 : st_S, s1056 = sI s1053 t966 29 (o_nb 115) → ix 30 (gL s1056 t966) ∧ ∀ s1059 : st_S, s1059 = sI s1056 t966 30 (o_nb 32) → ix 31 (gL s1059 t966) ∧ ∀ s1062 : st_S, s1062 = sI s1059 t966 31 (o_nb 105) → ix 32 (gL s1062 t966) ∧ ∀ s1065 : st_S, s1065 = sI s1062 t966 32 (o_nb 102) → ix 33 (gL s1065 t966) ∧ ∀ s1068 : st_S, s1068 = sI s1065 t966 33 (o_nb 32) → ix 34 (gL s1068 t966) ∧ ∀ s1071 : st_S, s1071 = sI s1068 t966 34 (o_nb 111) → ix 35 (gL s1071 t966) ∧ ∀ s1074 : st_S, s1074 = sI s1071 t966 35 (o_nb 114) → ix 36 (gL s1074 t966) ∧ ∀ s1077 : st_S, s1077 = sI s1074 t966 36 (o_nb 32) → ix 37 (gL s1077 t966) ∧ ∀ s1080 : st_S, s1080 = sI s1077 t966 37 (o_nb 97) → ix 38 (gL s1080 t966) ∧ ∀ s1083 : st_S, s1083 = sI s1080 t966 38 (o_nb 110) → ix 39 (gL s1083 t966) ∧ ∀ s1086 : st_S, s1086 = sI s1083 t966 39 (o_nb 100) → ix 40 (gL s1086 t966) ∧ ∀ s1089 : st_S, s1089 = sI s1086 t966 40 (o_nb 32) → ix 41 (gL s1089 t966) ∧ ∀ s1092 : st_S, s1092 = sI s1089 t966 41 (o_nb 110) → ix 42 (gL s1092 t966) ∧ ∀ s1095 : st_S, s1095 = sI s1092 t966 42 (o_nb 111) → ix 43 (gL s1095 t966) ∧ ∀ s1098 : st_S, s1098 = sI s1095 t966 43 (o_nb 116) → ix 44 (gL s1098 t966) ∧ ∀ s1101 : st_S, s1101 = sI s1098 t966 44 (o_nb 32) → ix 45 (gL s1101 t966) ∧ ∀ s1104 : st_S, s1104 = sI s1101 t966 45 (o_nb 112) → ix 46 (gL s1104 t966) ∧ ∀ s1107 : st_S, s1107 = sI s1104 t966 46 (o_nb 101) → ix 47 (gL s1107 t966) ∧ ∀ s1110 : st_S, s1110 = sI s1107 t966 47 (o_nb 114) → ix 48 (gL s1110 t966) ∧ ∀ s1113 : st_S, s1113 = sI s1110 t966 48 (o_nb 115) → ix 49 (gL s1113 t966) ∧ ∀ s1116 : st_S, s1116 = sI s1113 t966 49 (o_nb 111) → ix 50 (gL s1116 t966) ∧ ∀ s1119 : st_S, s1119 = sI s1116 t966 50 (o_nb 110) → ix 51 (gL s1119 t966) ∧ ∀ s1122 : st_S, s1122 = sI s1119 t966 51 (o_nb 32) → ix 52 (gL s1122 t966) ∧ ∀ s1125 : st_S, s1125 = sI s1122 t966 52 (o_nb 114) → ix 53 (gL s1125 t966) ∧ ∀ s1128 : st_S, s1128 = sI s1125 t966 53 (o_nb 111) → ix 54 (gL s1128 t966) ∧ ∀ s1131 : st_S, s1131 = sI s1128 t966 54 (o_nb 97) → ix 55 (gL s1131 t966) ∧ ∀ s1134 : st_S, s1134 = sI s1131 t966 55 (o_nb 100) → ix 56 (gL s1134 t966) ∧ ∀ s1137 : st_S, s1137 = sI s1134 t966 56 (o_nb 32) → ix 57 (gL s1137 t966) ∧ ∀ s1140 : st_S, s1140 = sI s1137 t966 57 (o_nb 108) → ix 58 (gL s1140 t966) ∧ ∀ s1143 : st_S, s1143 = sI s1140 t966 58 (o_nb 97) → ix 59 (gL s1143 t966) ∧ ∀ s1146 : st_S, s1146 = sI s1143 t966 59 (o_nb 110) → ix 60 (gL s1146 t966) ∧ ∀ s1149 : st_S, s1149 = sI s1146 t966 60 (o_nb 100) → ix 61 (gL s1149 t966) ∧ ∀ s1152 : st_S, s1152 = sI s1149 t966 61 (o_nb 32) → ix 62 (gL s1152 t966) ∧ ∀ s1155 : st_S, s1155 = sI s1152 t966 62 (o_nb 104) → ix 63 (gL s1155 t966) ∧ ∀ s1158 : st_S, s1158 = sI s1155 t966 63 (o_nb 101) → ix 64 (gL s1158 t966) ∧ ∀ s1161 : st_S, s1161 = sI s1158 t966 64 (o_nb 97) → ix 65 (gL s1161 t966) ∧ ∀ s1164 : st_S, s1164 = sI s1161 t966 65 (o_nb 114) → ix 66 (gL s1164 t966) ∧ ∀ s1167 : st_S, s1167 = sI s1164 t966 66 (o_nb 100) → ix 67 (gL s1167 t966) ∧ ∀ s1170 : st_S, s1170 = sI s1167 t966 67 (o_nb 32) → ix 68 (gL s1170 t966) ∧ ∀ s1173 : st_S, s1173 = sI s1170 t966 68 (o_nb 111) → ix 69 (gL s1173 t966) ∧ ∀ s1176 : st_S, s1176 = sI s1173 t966 69 (o_nb 116) → ix 70 (gL s1176 t966) ∧ ∀ s1179 : st_S, s1179 = sI s1176 t966 70 (o_nb 104) → ix 71 (gL s1179 t966) ∧ ∀ s1182 : st_S, s1182 = sI s1179 t966 71 (o_nb 101) → ix 72 (gL s1182 t966) ∧ ∀ s1185 : st_S, s1185 = sI s1182 t966 72 (o_nb 114) → ix 73 (gL s1185 t966) ∧ ∀ s1188 : st_S, s1188 = sI s1185 t966 73 (o_nb 32) → ix 74 (gL s1188 t966) ∧ ∀ s1191 : st_S, s1191 = sI s1188 t966 74 (o_nb 116) → ix 75 (gL s1191 t966) ∧ ∀ s1194 : st_S, s1194 = sI s1191 t966 75 (o_nb 104) → ix 76 (gL s1194 t966) ∧ ∀ s1197 : st_S, s1197 = sI s1194 t966 76 (o_nb 101) → ix 77 (gL s1197 t966) ∧ ∀ s1200 : st_S, s1200 = sI s1197 t966 77 (o_nb 105) → ix 78 (gL s1200 t966) ∧ ∀ s1203 : st_S, s1203 = sI s1200 t966 78 (o_nb 114) → ix 79 (gL s1203 t966) ∧ ∀ s1206 : st_S, s1206 = sI s1203 t966 79 (o_nb 115) → ix 80 (gL s1206 t966) ∧ ∀ s1209 : st_S, s1209 = sI s1206 t966 80 (o_nb 32) → ix 81 (gL s1209 t966) ∧ ∀ s1212 : st_S, s1212 = sI s1209 t966 81 (o_nb 102) → ix 82 (gL s1212 t966) ∧ ∀ s1215 : st_S, s1215 = sI s1212 t966 82 (o_nb 97) → ix 83 (gL s1215 t966) ∧ ∀ s1218 : st_S, s1218 = sI s1215 t966 83 (o_nb 114) → ix 84 (gL s1218 t966) ∧ ∀ s1221 : st_S, s1221 = sI s1218 t966 84 (o_nb 32) → ix 85 (gL s1221 t966) ∧ ∀ s1224 : st_S, s1224 = sI s1221 t966 85 (o_nb 102) → ix 86 (gL s1224 t966) ∧ ∀ s1227 : st_S, s1227 = sI s1224 t966 86 (o_nb 111) → ix 87 (gL s1227 t966) ∧ ∀ s1230 : st_S, s1230 = sI s1227 t966 87 (o_nb 103) → ix 88 (gL s1230 t966) ∧ ∀ s1233 : st_S, s1233 = sI s1230 t966 88 (o_nb 32) → ix 89 (gL s1233 t966) ∧ ∀ s1236 : st_S, s1236 = sI s1233 t966 89 (o_nb 109) → ix 90 (gL s1236 t966) ∧ ∀ s1239 : st_S, s1239 = sI s1236 t966 90 (o_nb 111) → ix 91 (gL s1239 t966) ∧ ∀ s1242 : st_S, s1242 = sI s1239 t966 91 (o_nb 111) → ix 92 (gL s1242 t966) ∧ ∀ s1245 : st_S, s1245 = sI s1242 t966 92 (o_nb 100) → ix 93 (gL s1245 t966) ∧ ∀ s1248 : st_S, s1248 = sI s1245 t966 93 (o_nb 32) → ix 94 (gL s1248 t966) ∧ ∀ s1251 : st_S, s1251 = sI s1248 t966 94 (o_nb 100) → ix 95 (gL s1251 t966) ∧ ∀ s1254 : st_S, s1254 = sI s1251 t966 95 (o_nb 97) → ix 96 (gL s1254 t966) ∧ ∀ s1257 : st_S, s1257 = sI s1254 t966 96 (o_nb 121) → ix 97 (gL s1257 t966) ∧ ∀ s1260 : st_S, s1260 = sI s1257 t966 97 (o_nb 32) → ix 98 (gL s1260 t966) ∧ ∀ s1263 : st_S, s1263 = sI s1260 t966 98 (o_nb 108) → ix 99 (gL s1263 t966) ∧ ∀ s1266 : st_S, s1266 = sI s1263 t966 99 (o_nb 105) → ix 100 (gL s1266 t966) ∧ ∀ s1269 : st_S, s1269 = sI s1266 t966 100 (o_nb 116) → ix 101 (gL s1269 t966) ∧ ∀ s1272 : st_S, s1272 = sI s1269 t966 101 (o_nb 32) → ix 102 (gL s1272 t966) ∧ ∀ s1275 : st_S, s1275 = sI s1272 t966 102 (o_nb 110) → ix 103 (gL s1275 t966) ∧ ∀ s1278 : st_S, s1278 = sI s1275 t966 103 (o_nb 105) → ix 104 (gL s1278 t966) ∧ ∀ s1281 : st_S, s1281 = sI s1278 t966 104 (o_nb 103) → ix 105 (gL s1281 t966) ∧ ∀ s1284 : st_S, s1284 = sI s1281 t966 105 (o_nb 104) → ix 106 (gL s1284 t966) ∧ ∀ s1287 : st_S, s1287 = sI s1284 t966 106 (o_nb 116) → ix 107 (gL s1287 t966) ∧ ∀ s1290 : st_S, s1290 = sI s1287 t966 107 (o_nb 115) → ix 108 (gL s1290 t966) ∧ ∀ s1293 : st_S, s1293 = sI s1290 t966 108 (o_nb 32) → ix 109 (gL s1293 t966) ∧ ∀ s1296 : st_S, s1296 = sI s1293 t966 109 (o_nb 100) → ix 110 (gL s1296 t966) ∧ ∀ s1299 : st_S, s1299 = sI s1296 t966 110 (o_nb 111) → ix 111 (gL s1299 t966) ∧ ∀ s1302 : st_S, s1302 = sI s1299 t966 111 (o_nb 110) → ix 112 (gL s1302 t966) ∧ ∀ s1305 : st_S, s1305 = sI s1302 t966 112 (o_nb 101) → ix 113 (gL s1305 t966) ∧ ∀ s1308 : st_S, s1308 = sI s1305 t966 113 (o_nb 32) → ix 114 (gL s1308 t966) ∧ ∀ s1311 : st_S, s1311 = sI s1308 t966 114 (o_nb 115) → ix 115 (gL s1311 t966) ∧ ∀ s1314 : st_S, s1314 = sI s1311 t966 115 (o_nb 112) → ix 116 (gL s1314 t966) ∧ ∀ s1317 : st_S, s1317 = sI s1314 t966 116 (o_nb 101) → ix 117 (gL s1317 t966) ∧ ∀ s1320 : st_S, s1320 = sI s1317 t966 117 (o_nb 110) → ix 118 (gL s1320 t966) ∧ ∀ s1323 : st_S, s1323 = sI s1320 t966 118 (o_nb 116) → ix 119 (gL s1323 t966) ∧ ∀ s1326 : st_S, s1326 = sI s1323 t966 119 (o_nb 32) → ix 120 (gL s1326 t966) ∧ ∀ s1329 : st_S, s1329 = sI s1326 t966 120 (o_nb 119) → ix 121 (gL s1329 t966) ∧ ∀ s1332 : st_S, s1332 = sI s1329 t966 121 (o_nb 111) → ix 122 (gL s1332 t966) ∧ ∀ s1335 : st_S, s1335 = sI s1332 t966 122 (o_nb 114) → ix 123 (gL s1335 t966) ∧ ∀ s1338 : st_S, s1338 = sI s1335 t966 123 (o_nb 116) → ix 124 (gL s1338 t966) ∧ ∀ s1341 : st_S, s1341 = sI s1338 t966 124 (o_nb 104) → ix 125 (gL s1341 t966) ∧ ∀ s1344 : st_S, s1344 = sI s1341 t966 125 (o_nb 32) → ix 126 (gL s1344 t966) ∧ ∀ s1347 : st_S, s1347 = sI s1344 t966 126 (o_nb 104) → ix 127 (gL s1347 t966) ∧ ∀ s1350 : st_S, s1350 = sI s1347 t966 127 (o_nb 101) → ix 128 (gL s1350 t966) ∧ ∀ s1353 : st_S, s1353 = sI s1350 t966 128 (o_nb 114) → ix 129 (gL s1353 t966) ∧ ∀ s1356 : st_S, s1356 = sI s1353 t966 129 (o_nb 101) → ix 130 (gL s1356 t966) ∧ ∀ s1359 : st_S, s1359 = sI s1356 t966 130 (o_nb 32) → ix 131 (gL s1359 t966) ∧ ∀ s1362 : st_S, s1362 = sI s1359 t966 131 (o_nb 115) → ix 132 (gL s1362 t966) ∧ ∀ s1365 : st_S, s1365 = sI s1362 t966 132 (o_nb 101) → ix 133 (gL s1365 t966) ∧ ∀ s1368 : st_S, s1368 = sI s1365 t966 133 (o_nb 110) → ix 134 (gL s1368 t966) ∧ ∀ s1371 : st_S, s1371 = sI s1368 t966 134 (o_nb 100) → ix 135 (gL s1371 t966) ∧ ∀ s1374 : st_S, s1374 = sI s1371 t966 135 (o_nb 32) → ix 136 (gL s1374 t966) ∧ ∀ s1377 : st_S, s1377 = sI s1374 t966 136 (o_nb 108) → ix 137 (gL s1377 t966) ∧ ∀ s1380 : st_S, s1380 = sI s1377 t966 137 (o_nb 105) → ix 138 (gL s1380 t966) ∧ ∀ s1383 : st_S, s1383 = sI s1380 t966 138 (o_nb 103) → ix 139 (gL s1383 t966) ∧ ∀ s1386 : st_S, s1386 = sI s1383 t966 139 (o_nb 104) → ix 140 (gL s1386 t966) ∧ ∀ s1389 : st_S, s1389 = sI s1386 t966 140 (o_nb 116) → ix 141 (gL s1389 t966) ∧ ∀ s1392 : st_S, s1392 = sI s1389 t966 141 (o_nb 32) → ix 142 (gL s1392 t966) ∧ ∀ s1395 : st_S, s1395 = sI s1392 t966 142 (o_nb 100) → ix 143 (gL s1395 t966) ∧ ∀ s1398 : st_S, s1398 = sI s1395 t966 143 (o_nb 97) → ix 144 (gL s1398 t966) ∧ ∀ s1401 : st_S, s1401 = sI s1398 t966 144 (o_nb 114) → ix 145 (gL s1401 t966) ∧ ∀ s1404 : st_S, s1404 = sI s1401 t966 145 (o_nb 107) → ix 146 (gL s1404 t966) ∧ ∀ s1407 : st_S, s1407 = sI s1404 t966 146 (o_nb 32) → ix 147 (gL s1407 t966) ∧ ∀ s1410 : st_S, s1410 = sI s1407 t966 147 (o_nb 116) → ix 148 (gL s1410 t966) ∧ ∀ s1413 : st_S, s1413 = sI s1410 t966 148 (o_nb 105) → ix 149 (gL s1413 t966) ∧ ∀ s1416 : st_S, s1416 = sI s1413 t966 149 (o_nb 109) → ix 150 (gL s1416 t966) ∧ ∀ s1419 : st_S, s1419 = sI s1416 t966 150 (o_nb 101) → ix 151 (gL s1419 t966) ∧ ∀ s1422 : st_S, s1422 = sI s1419 t966 151 (o_nb 115) → ix 152 (gL s1422 t966) ∧ ∀ s1425 : st_S, s1425 = sI s1422 t966 152 (o_nb 32) → gK s1425 t = 32 + 11 ∧ ∀ s1428 : st_S, s1428 = sR s1425 t 7 (some t966) → ∀ (t1431 : Nat) (s1432 : st_S), t1431 = gN s1428 → s1432 = sA s1428 2 400 → gK s1432 t = 32 + 11 ∧ ∀ s1434 : st_S, s1434 = sR s1432 t 11 (some t1431) → ∀ (t1437 : Nat) (s1438 : st_S), t1437 = gN s1434 → s1438 = sA s1434 0 5 → gK s1438 t = 32 + 11 ∧ ∀ s1440 : st_S, s1440 = sR s1438 t 12 (some t1437) → ∀ s1443 : st_S, s1443 = sI s1440 t 14 (-1) → ∀ (t1446 : Nat) (s1447 : st_S), t1446 = gN s1443 → s1447 = sA s1443 0 401 → gK s1447 t = 32 + 11 ∧ ∀ s1449 : st_S, s1449 = sR s1447 t 15 (some t1446) → ∀ (t1452 : Nat) (s1453 : st_S), t1452 = gN s1449 → s1453 = sA s1449 0 401 → gK s1453 t = 32 + 11 ∧ ∀ s1455 : st_S, s1455 = sR s1453 t 16 (some t1452) → ∀ (t1458 : Nat) (s1459 : st_S), t1458 = gN s1455 → s1459 = sA s1455 0 401 → gK s1459 t = 32 + 11 ∧ ∀ s1461 : st_S, s1461 = sR s1459 t 17 (some t1458) → ∀ (t1464 : Nat) (s1465 : st_S), t1464 = gN s1461 → s1465 = sA s1461 0 10 → gK s1465 t = 32 + 11 ∧ ∀ s1467 : st_S, s1467 = sR s1465 t 25 (some t1464) → ∀ (t1470 : Nat) (s1471 : st_S), t1470 = gN s1467 → s1471 = sA s1467 0 560 → gK s1471 t = 32 + 11 ∧ ∀ s1473 : st_S, s1473 = sR s1471 t 26 (some t1470) → ∀ (t1476 : Nat) (s1477 : st_S), t1476 = gN s1473 → s1477 = sA s1473 0 560 → gK s1477 t = 32 + 11 ∧ ∀ s1479 : st_S, s1479 = sR s1477 t 27 (some t1476) → ∀ (t1482 : Nat) (s1483 : st_S), t1482 = gN s1479 → s1483 = sA s1479 0 10 → gK s1483 t = 32 + 11 ∧ ∀ s1485 : st_S, s1485 = sR s1483 t 29 (some t1482) → ∀ (t1488 : Nat) (s1489 : st_S), t1488 = gN s1485 → s1489 = sA s1485 0 100 → gK s1489 t = 32 + 11 ∧ ∀ s1491 : st_S, s1491 = sR s1489 t 30 (some t1488) → ∀ (t1494 : Nat) (s1495 : st_S), t1494 = gN s1491 → s1495 = sA s1491 2 330 → gK s1495 t = 32 + 11 ∧ ∀ s1497 : st_S, s1497 = sR s1495 t 31 (some t1494) → ∀ (t1500 : Nat) (s1501 : st_S), t1500 = gN s1497 → s1501 = sA s1497 0 10 → gK s1501 t = 32 + 11 ∧ ∀ s1503 : st_S, s1503 = sR s1501 t 32 (some t1500) → ∀ (t1506 : Nat) (s1507 : st_S), t1506 = gN s1503 → s1507 = sA s1503 2 11264 → gK s1507 t = 32 + 11 ∧ ∀ s1509 : st_S, s1509 = sR s1507 t 33 (some t1506) → ∀ (t1512 : Nat) (s1513 : st_S), t1512 = gN s1509 → s1513 = sA s1509 0 11264 → gK s1513 t = 32 + 11 ∧ ∀ s1515 : st_S, s1515 = sR s1513 t 36 (some t1512) → ∀ (t1518 : Nat) (s1519 : st_S), t1518 = gN s1515 → s1519 = sA s1515 1 11264 → gK s1519 t = 32 + 11 ∧ ∀ s1521 : st_S, s1521 = sR s1519 t 37 (some t1518) → ∀ (t1524 : Nat) (s1525 : st_S), t1524 = gN s1521 → s1525 = sA s1521 0 10 → gK s1525 t = 32 + 11 ∧ ∀ s1527 : st_S, s1527 = sR s1525 t 38 (some t1524) → ∀ (t1530 : Nat) (s1531 : st_S), t1530 = gN s1527 → s1531 = sA s1527 3 11264 → gK s1531 t = 32 + 11 ∧ ∀ s1533 : st_S, s1533 = sR s1531 t 39 (some t1530) → ∀ (t1536 : Nat) (s1537 : st_S), t1536 = gN s1533 → s1537 = sA s1533 2 180224 → gK s1537 t = 32 + 11 ∧ ∀ s1539 : st_S, s1539 = sR s1537 t 40 (some t1536) → ∀ s1542 : st_S, s1542 = sI s1539 t 41 (-1) → ∀ (t1545 : Nat) (s1546 : st_S), t1545 = gN s1542 → s1546 = sA s1542 0 60 → gK s1546 t = 32 + 11 ∧ ∀ s1548 : st_S, s1548 = sR s1546 t 49 (some t1545) → ∃ t1551 : Nat, gR s1548 t 2 = some t1551 ∧ gK s1548 t1551 = 0 ∧ ix 254 (gL s1548 t1551) ∧ ∀ s1554 : st_S, s1554 = sI s1548 t1551 254 3 → ∃ t1558 : Nat, gR s1554 t 2 = some t1558 ∧ gK s1554 t1558 = 0 ∧ ix 258 (gL s1554 t1558) ∧ ∀ s1561 : st_S, s1561 = sI s1554 t1558 258 (-1) → Q s1561
set_option maxRecDepth 200000 in
set_option maxHeartbeats 8000000 in
theorem c_X11_init {l : Launch} {E : ev_E} (hE : Eok E) {σ : st_S} (hM : MkE E (gN σ)) {t : Nat} {Q : st_S → Prop} (h : wp_X11_init t σ Q) : cM l yX11_init cX11_init 1 none E 1 25 246332 [vR E t] σ (qV E (gN σ + 25) Q) := by
  refine cM_of (lv := [(0, vR E t)]) (by decide) hE (Nat.le_of_ble_eq_true rfl) rfl ?_
  intro X hX hc hcl hsl hr hnm _
  subst hX
  have hh : 1 ≤ 1 := Nat.le_refl _
  have hh1 : 1 ≤ 1 := by omega
  replace h : ∀ (t936 : Nat) (s937 : st_S), t936 = gN σ → s937 = sA σ 0 7 → gK s937 t = 32 + 11 ∧ ∀ s939 : st_S, s939 = sR s937 t 1 (some t936) → ∀ (t942 : Nat) (s943 : st_S), t942 = gN s939 → s943 = sA s939 0 5866 → gK s943 t = 32 + 11 ∧ ∀ s945 : st_S, s945 = sR s943 t 2 (some t942) → ∀ (t948 : Nat) (s949 : st_S), t948 = gN s945 → s949 = sA s945 0 11732 → gK s949 t = 32 + 11 ∧ ∀ s951 : st_S, s951 = sR s949 t 3 (some t948) → ∀ (t954 : Nat) (s955 : st_S), t954 = gN s951 → s955 = sA s951 3 2 → gK s955 t = 32 + 11 ∧ ∀ s957 : st_S, s957 = sR s955 t 4 (some t954) → ∀ (t960 : Nat) (s961 : st_S), t960 = gN s957 → s961 = sA s957 0 34 → gK s961 t = 32 + 11 ∧ ∀ s963 : st_S, s963 = sR s961 t 5 (some t960) → ∀ (t966 : Nat) (s967 : st_S), t966 = gN s963 → s967 = sA s963 2 153 → ix 0 (gL s967 t966) ∧ ∀ s969 : st_S, s969 = sI s967 t966 0 (o_nb 116) → ix 1 (gL s969 t966) ∧ ∀ s972 : st_S, s972 = sI s969 t966 1 (o_nb 97) → ix 2 (gL s972 t966) ∧ ∀ s975 : st_S, s975 = sI s972 t966 2 (o_nb 107) → ix 3 (gL s975 t966) ∧ ∀ s978 : st_S, s978 = sI s975 t966 3 (o_nb 101) → ix 4 (gL s978 t966) ∧ ∀ s981 : st_S, s981 = sI s978 t966 4 (o_nb 115) → ix 5 (gL s981 t966) ∧ ∀ s984 : st_S, s984 = sI s981 t966 5 (o_nb 32) → ix 6 (gL s984 t966) ∧ ∀ s987 : st_S, s987 = sI s984 t966 6 (o_nb 99) → ix 7 (gL s987 t966) ∧ ∀ s990 : st_S, s990 = sI s987 t966 7 (o_nb 111) → ix 8 (gL s990 t966) ∧ ∀ s993 : st_S, s993 = sI s990 t966 8 (o_nb 115) → ix 9 (gL s993 t966) ∧ ∀ s996 : st_S, s996 = sI s993 t966 9 (o_nb 116) → ix 10 (gL s996 t966) ∧ ∀ s999 : st_S, s999 = sI s996 t966 10 (o_nb 115) → ix 11 (gL s999 t966) ∧ ∀ s1002 : st_S, s1002 = sI s999 t966 11 (o_nb 32) → ix 12 (gL s1002 t966) ∧ ∀ s1005 : st_S, s1005 = sI s1002 t966 12 (o_nb 108) → ix 13 (gL s1005 t966) ∧ ∀ s1008 : st_S, s1008 = sI s1005 t966 13 (o_nb 111) → ix 14 (gL s1008 t966) ∧ ∀ s1011 : st_S, s1011 = sI s1008 t966 14 (o_nb 100) → ix 15 (gL s1011 t966) ∧ ∀ s1014 : st_S, s1014 = sI s1011 t966 15 (o_nb 103) → ix 16 (gL s1014 t966) ∧ ∀ s1017 : st_S, s1017 = sI s1014 t966 16 (o_nb 101) → ix 17 (gL s1017 t966) ∧ ∀ s1020 : st_S, s1020 = sI s1017 t966 17 (o_nb 115) → ix 18 (gL s1020 t966) ∧ ∀ s1023 : st_S, s1023 = sI s1020 t966 18 (o_nb 32) → ix 19 (gL s1023 t966) ∧ ∀ s1026 : st_S, s1026 = sI s1023 t966 19 (o_nb 115) → ix 20 (gL s1026 t966) ∧ ∀ s1029 : st_S, s1029 = sI s1026 t966 20 (o_nb 112) → ix 21 (gL s1029 t966) ∧ ∀ s1032 : st_S, s1032 = sI s1029 t966 21 (o_nb 111) → ix 22 (gL s1032 t966) ∧ ∀ s1035 : st_S, s1035 = sI s1032 t966 22 (o_nb 105) → ix 23 (gL s1035 t966) ∧ ∀ s1038 : st_S, s1038 = sI s1035 t966 23 (o_nb 108) → ix 24 (gL s1038 t966) ∧ ∀ s1041 : st_S, s1041 = sI s1038 t966 24 (o_nb 115) → ix 25 (gL s1041 t966) ∧ ∀ s1044 : st_S, s1044 = sI s1041 t966 25 (o_nb 32) → ix 26 (gL s1044 t966) ∧ ∀ s1047 : st_S, s1047 = sI s1044 t966 26 (o_nb 98) → ix 27 (gL s1047 t966) ∧ ∀ s1050 : st_S, s1050 = sI s1047 t966 27 (o_nb 97) → ix 28 (gL s1050 t966) ∧ ∀ s1053 : st_S, s1053 = sI s1050 t966 28 (o_nb 114) → ix 29 (gL s1053 t966) ∧ ∀ s1056 : st_S, s1056 = sI s1053 t966 29 (o_nb 115) → ix 30 (gL s1056 t966) ∧ ∀ s1059 : st_S, s1059 = sI s1056 t966 30 (o_nb 32) → ix 31 (gL s1059 t966) ∧ ∀ s1062 : st_S, s1062 = sI s1059 t966 31 (o_nb 105) → ix 32 (gL s1062 t966) ∧ ∀ s1065 : st_S, s1065 = sI s1062 t966 32 (o_nb 102) → ix 33 (gL s1065 t966) ∧ ∀ s1068 : st_S, s1068 = sI s1065 t966 33 (o_nb 32) → ix 34 (gL s1068 t966) ∧ ∀ s1071 : st_S, s1071 = sI s1068 t966 34 (o_nb 111) → ix 35 (gL s1071 t966) ∧ ∀ s1074 : st_S, s1074 = sI s1071 t966 35 (o_nb 114) → ix 36 (gL s1074 t966) ∧ ∀ s1077 : st_S, s1077 = sI s1074 t966 36 (o_nb 32) → ix 37 (gL s1077 t966) ∧ ∀ s1080 : st_S, s1080 = sI s1077 t966 37 (o_nb 97) → ix 38 (gL s1080 t966) ∧ ∀ s1083 : st_S, s1083 = sI s1080 t966 38 (o_nb 110) → ix 39 (gL s1083 t966) ∧ ∀ s1086 : st_S, s1086 = sI s1083 t966 39 (o_nb 100) → ix 40 (gL s1086 t966) ∧ ∀ s1089 : st_S, s1089 = sI s1086 t966 40 (o_nb 32) → ix 41 (gL s1089 t966) ∧ ∀ s1092 : st_S, s1092 = sI s1089 t966 41 (o_nb 110) → ix 42 (gL s1092 t966) ∧ ∀ s1095 : st_S, s1095 = sI s1092 t966 42 (o_nb 111) → ix 43 (gL s1095 t966) ∧ ∀ s1098 : st_S, s1098 = sI s1095 t966 43 (o_nb 116) → ix 44 (gL s1098 t966) ∧ ∀ s1101 : st_S, s1101 = sI s1098 t966 44 (o_nb 32) → ix 45 (gL s1101 t966) ∧ ∀ s1104 : st_S, s1104 = sI s1101 t966 45 (o_nb 112) → ix 46 (gL s1104 t966) ∧ ∀ s1107 : st_S, s1107 = sI s1104 t966 46 (o_nb 101) → ix 47 (gL s1107 t966) ∧ ∀ s1110 : st_S, s1110 = sI s1107 t966 47 (o_nb 114) → ix 48 (gL s1110 t966) ∧ ∀ s1113 : st_S, s1113 = sI s1110 t966 48 (o_nb 115) → ix 49 (gL s1113 t966) ∧ ∀ s1116 : st_S, s1116 = sI s1113 t966 49 (o_nb 111) → ix 50 (gL s1116 t966) ∧ ∀ s1119 : st_S, s1119 = sI s1116 t966 50 (o_nb 110) → ix 51 (gL s1119 t966) ∧ ∀ s1122 : st_S, s1122 = sI s1119 t966 51 (o_nb 32) → ix 52 (gL s1122 t966) ∧ ∀ s1125 : st_S, s1125 = sI s1122 t966 52 (o_nb 114) → ix 53 (gL s1125 t966) ∧ ∀ s1128 : st_S, s1128 = sI s1125 t966 53 (o_nb 111) → ix 54 (gL s1128 t966) ∧ ∀ s1131 : st_S, s1131 = sI s1128 t966 54 (o_nb 97) → ix 55 (gL s1131 t966) ∧ ∀ s1134 : st_S, s1134 = sI s1131 t966 55 (o_nb 100) → ix 56 (gL s1134 t966) ∧ ∀ s1137 : st_S, s1137 = sI s1134 t966 56 (o_nb 32) → ix 57 (gL s1137 t966) ∧ ∀ s1140 : st_S, s1140 = sI s1137 t966 57 (o_nb 108) → ix 58 (gL s1140 t966) ∧ ∀ s1143 : st_S, s1143 = sI s1140 t966 58 (o_nb 97) → ix 59 (gL s1143 t966) ∧ ∀ s1146 : st_S, s1146 = sI s1143 t966 59 (o_nb 110) → ix 60 (gL s1146 t966) ∧ ∀ s1149 : st_S, s1149 = sI s1146 t966 60 (o_nb 100) → ix 61 (gL s1149 t966) ∧ ∀ s1152 : st_S, s1152 = sI s1149 t966 61 (o_nb 32) → ix 62 (gL s1152 t966) ∧ ∀ s1155 : st_S, s1155 = sI s1152 t966 62 (o_nb 104) → ix 63 (gL s1155 t966) ∧ ∀ s1158 : st_S, s1158 = sI s1155 t966 63 (o_nb 101) → ix 64 (gL s1158 t966) ∧ ∀ s1161 : st_S, s1161 = sI s1158 t966 64 (o_nb 97) → ix 65 (gL s1161 t966) ∧ ∀ s1164 : st_S, s1164 = sI s1161 t966 65 (o_nb 114) → ix 66 (gL s1164 t966) ∧ ∀ s1167 : st_S, s1167 = sI s1164 t966 66 (o_nb 100) → ix 67 (gL s1167 t966) ∧ ∀ s1170 : st_S, s1170 = sI s1167 t966 67 (o_nb 32) → ix 68 (gL s1170 t966) ∧ ∀ s1173 : st_S, s1173 = sI s1170 t966 68 (o_nb 111) → ix 69 (gL s1173 t966) ∧ ∀ s1176 : st_S, s1176 = sI s1173 t966 69 (o_nb 116) → ix 70 (gL s1176 t966) ∧ ∀ s1179 : st_S, s1179 = sI s1176 t966 70 (o_nb 104) → ix 71 (gL s1179 t966) ∧ ∀ s1182 : st_S, s1182 = sI s1179 t966 71 (o_nb 101) → ix 72 (gL s1182 t966) ∧ ∀ s1185 : st_S, s1185 = sI s1182 t966 72 (o_nb 114) → ix 73 (gL s1185 t966) ∧ ∀ s1188 : st_S, s1188 = sI s1185 t966 73 (o_nb 32) → ix 74 (gL s1188 t966) ∧ ∀ s1191 : st_S, s1191 = sI s1188 t966 74 (o_nb 116) → ix 75 (gL s1191 t966) ∧ ∀ s1194 : st_S, s1194 = sI s1191 t966 75 (o_nb 104) → ix 76 (gL s1194 t966) ∧ ∀ s1197 : st_S, s1197 = sI s1194 t966 76 (o_nb 101) → ix 77 (gL s1197 t966) ∧ ∀ s1200 : st_S, s1200 = sI s1197 t966 77 (o_nb 105) → ix 78 (gL s1200 t966) ∧ ∀ s1203 : st_S, s1203 = sI s1200 t966 78 (o_nb 114) → ix 79 (gL s1203 t966) ∧ ∀ s1206 : st_S, s1206 = sI s1203 t966 79 (o_nb 115) → ix 80 (gL s1206 t966) ∧ ∀ s1209 : st_S, s1209 = sI s1206 t966 80 (o_nb 32) → ix 81 (gL s1209 t966) ∧ ∀ s1212 : st_S, s1212 = sI s1209 t966 81 (o_nb 102) → ix 82 (gL s1212 t966) ∧ ∀ s1215 : st_S, s1215 = sI s1212 t966 82 (o_nb 97) → ix 83 (gL s1215 t966) ∧ ∀ s1218 : st_S, s1218 = sI s1215 t966 83 (o_nb 114) → ix 84 (gL s1218 t966) ∧ ∀ s1221 : st_S, s1221 = sI s1218 t966 84 (o_nb 32) → ix 85 (gL s1221 t966) ∧ ∀ s1224 : st_S, s1224 = sI s1221 t966 85 (o_nb 102) → ix 86 (gL s1224 t966) ∧ ∀ s1227 : st_S, s1227 = sI s1224 t966 86 (o_nb 111) → ix 87 (gL s1227 t966) ∧ ∀ s1230 : st_S, s1230 = sI s1227 t966 87 (o_nb 103) → ix 88 (gL s1230 t966) ∧ ∀ s1233 : st_S, s1233 = sI s1230 t966 88 (o_nb 32) → ix 89 (gL s1233 t966) ∧ ∀ s1236 : st_S, s1236 = sI s1233 t966 89 (o_nb 109) → ix 90 (gL s1236 t966) ∧ ∀ s1239 : st_S, s1239 = sI s1236 t966 90 (o_nb 111) → ix 91 (gL s1239 t966) ∧ ∀ s1242 : st_S, s1242 = sI s1239 t966 91 (o_nb 111) → ix 92 (gL s1242 t966) ∧ ∀ s1245 : st_S, s1245 = sI s1242 t966 92 (o_nb 100) → ix 93 (gL s1245 t966) ∧ ∀ s1248 : st_S, s1248 = sI s1245 t966 93 (o_nb 32) → ix 94 (gL s1248 t966) ∧ ∀ s1251 : st_S, s1251 = sI s1248 t966 94 (o_nb 100) → ix 95 (gL s1251 t966) ∧ ∀ s1254 : st_S, s1254 = sI s1251 t966 95 (o_nb 97) → ix 96 (gL s1254 t966) ∧ ∀ s1257 : st_S, s1257 = sI s1254 t966 96 (o_nb 121) → ix 97 (gL s1257 t966) ∧ ∀ s1260 : st_S, s1260 = sI s1257 t966 97 (o_nb 32) → ix 98 (gL s1260 t966) ∧ ∀ s1263 : st_S, s1263 = sI s1260 t966 98 (o_nb 108) → ix 99 (gL s1263 t966) ∧ ∀ s1266 : st_S, s1266 = sI s1263 t966 99 (o_nb 105) → ix 100 (gL s1266 t966) ∧ ∀ s1269 : st_S, s1269 = sI s1266 t966 100 (o_nb 116) → ix 101 (gL s1269 t966) ∧ ∀ s1272 : st_S, s1272 = sI s1269 t966 101 (o_nb 32) → ix 102 (gL s1272 t966) ∧ ∀ s1275 : st_S, s1275 = sI s1272 t966 102 (o_nb 110) → ix 103 (gL s1275 t966) ∧ ∀ s1278 : st_S, s1278 = sI s1275 t966 103 (o_nb 105) → ix 104 (gL s1278 t966) ∧ ∀ s1281 : st_S, s1281 = sI s1278 t966 104 (o_nb 103) → ix 105 (gL s1281 t966) ∧ ∀ s1284 : st_S, s1284 = sI s1281 t966 105 (o_nb 104) → ix 106 (gL s1284 t966) ∧ ∀ s1287 : st_S, s1287 = sI s1284 t966 106 (o_nb 116) → ix 107 (gL s1287 t966) ∧ ∀ s1290 : st_S, s1290 = sI s1287 t966 107 (o_nb 115) → ix 108 (gL s1290 t966) ∧ ∀ s1293 : st_S, s1293 = sI s1290 t966 108 (o_nb 32) → ix 109 (gL s1293 t966) ∧ ∀ s1296 : st_S, s1296 = sI s1293 t966 109 (o_nb 100) → ix 110 (gL s1296 t966) ∧ ∀ s1299 : st_S, s1299 = sI s1296 t966 110 (o_nb 111) → ix 111 (gL s1299 t966) ∧ ∀ s1302 : st_S, s1302 = sI s1299 t966 111 (o_nb 110) → ix 112 (gL s1302 t966) ∧ ∀ s1305 : st_S, s1305 = sI s1302 t966 112 (o_nb 101) → ix 113 (gL s1305 t966) ∧ ∀ s1308 : st_S, s1308 = sI s1305 t966 113 (o_nb 32) → ix 114 (gL s1308 t966) ∧ ∀ s1311 : st_S, s1311 = sI s1308 t966 114 (o_nb 115) → ix 115 (gL s1311 t966) ∧ ∀ s1314 : st_S, s1314 = sI s1311 t966 115 (o_nb 112) → ix 116 (gL s1314 t966) ∧ ∀ s1317 : st_S, s1317 = sI s1314 t966 116 (o_nb 101) → ix 117 (gL s1317 t966) ∧ ∀ s1320 : st_S, s1320 = sI s1317 t966 117 (o_nb 110) → ix 118 (gL s1320 t966) ∧ ∀ s1323 : st_S, s1323 = sI s1320 t966 118 (o_nb 116) → ix 119 (gL s1323 t966) ∧ ∀ s1326 : st_S, s1326 = sI s1323 t966 119 (o_nb 32) → ix 120 (gL s1326 t966) ∧ ∀ s1329 : st_S, s1329 = sI s1326 t966 120 (o_nb 119) → ix 121 (gL s1329 t966) ∧ ∀ s1332 : st_S, s1332 = sI s1329 t966 121 (o_nb 111) → ix 122 (gL s1332 t966) ∧ ∀ s1335 : st_S, s1335 = sI s1332 t966 122 (o_nb 114) → ix 123 (gL s1335 t966) ∧ ∀ s1338 : st_S, s1338 = sI s1335 t966 123 (o_nb 116) → ix 124 (gL s1338 t966) ∧ ∀ s1341 : st_S, s1341 = sI s1338 t966 124 (o_nb 104) → ix 125 (gL s1341 t966) ∧ ∀ s1344 : st_S, s1344 = sI s1341 t966 125 (o_nb 32) → ix 126 (gL s1344 t966) ∧ ∀ s1347 : st_S, s1347 = sI s1344 t966 126 (o_nb 104) → ix 127 (gL s1347 t966) ∧ ∀ s1350 : st_S, s1350 = sI s1347 t966 127 (o_nb 101) → ix 128 (gL s1350 t966) ∧ ∀ s1353 : st_S, s1353 = sI s1350 t966 128 (o_nb 114) → ix 129 (gL s1353 t966) ∧ ∀ s1356 : st_S, s1356 = sI s1353 t966 129 (o_nb 101) → ix 130 (gL s1356 t966) ∧ ∀ s1359 : st_S, s1359 = sI s1356 t966 130 (o_nb 32) → ix 131 (gL s1359 t966) ∧ ∀ s1362 : st_S, s1362 = sI s1359 t966 131 (o_nb 115) → ix 132 (gL s1362 t966) ∧ ∀ s1365 : st_S, s1365 = sI s1362 t966 132 (o_nb 101) → ix 133 (gL s1365 t966) ∧ ∀ s1368 : st_S, s1368 = sI s1365 t966 133 (o_nb 110) → ix 134 (gL s1368 t966) ∧ ∀ s1371 : st_S, s1371 = sI s1368 t966 134 (o_nb 100) → ix 135 (gL s1371 t966) ∧ ∀ s1374 : st_S, s1374 = sI s1371 t966 135 (o_nb 32) → ix 136 (gL s1374 t966) ∧ ∀ s1377 : st_S, s1377 = sI s1374 t966 136 (o_nb 108) → ix 137 (gL s1377 t966) ∧ ∀ s1380 : st_S, s1380 = sI s1377 t966 137 (o_nb 105) → ix 138 (gL s1380 t966) ∧ ∀ s1383 : st_S, s1383 = sI s1380 t966 138 (o_nb 103) → ix 139 (gL s1383 t966) ∧ ∀ s1386 : st_S, s1386 = sI s1383 t966 139 (o_nb 104) → ix 140 (gL s1386 t966) ∧ ∀ s1389 : st_S, s1389 = sI s1386 t966 140 (o_nb 116) → ix 141 (gL s1389 t966) ∧ ∀ s1392 : st_S, s1392 = sI s1389 t966 141 (o_nb 32) → ix 142 (gL s1392 t966) ∧ ∀ s1395 : st_S, s1395 = sI s1392 t966 142 (o_nb 100) → ix 143 (gL s1395 t966) ∧ ∀ s1398 : st_S, s1398 = sI s1395 t966 143 (o_nb 97) → ix 144 (gL s1398 t966) ∧ ∀ s1401 : st_S, s1401 = sI s1398 t966 144 (o_nb 114) → ix 145 (gL s1401 t966) ∧ ∀ s1404 : st_S, s1404 = sI s1401 t966 145 (o_nb 107) → ix 146 (gL s1404 t966) ∧ ∀ s1407 : st_S, s1407 = sI s1404 t966 146 (o_nb 32) → ix 147 (gL s1407 t966) ∧ ∀ s1410 : st_S, s1410 = sI s1407 t966 147 (o_nb 116) → ix 148 (gL s1410 t966) ∧ ∀ s1413 : st_S, s1413 = sI s1410 t966 148 (o_nb 105) → ix 149 (gL s1413 t966) ∧ ∀ s1416 : st_S, s1416 = sI s1413 t966 149 (o_nb 109) → ix 150 (gL s1416 t966) ∧ ∀ s1419 : st_S, s1419 = sI s1416 t966 150 (o_nb 101) → ix 151 (gL s1419 t966) ∧ ∀ s1422 : st_S, s1422 = sI s1419 t966 151 (o_nb 115) → ix 152 (gL s1422 t966) ∧ ∀ s1425 : st_S, s1425 = sI s1422 t966 152 (o_nb 32) → gK s1425 t = 32 + 11 ∧ ∀ s1428 : st_S, s1428 = sR s1425 t 7 (some t966) → ∀ (t1431 : Nat) (s1432 : st_S), t1431 = gN s1428 → s1432 = sA s1428 2 400 → gK s1432 t = 32 + 11 ∧ ∀ s1434 : st_S, s1434 = sR s1432 t 11 (some t1431) → ∀ (t1437 : Nat) (s1438 : st_S), t1437 = gN s1434 → s1438 = sA s1434 0 5 → gK s1438 t = 32 + 11 ∧ ∀ s1440 : st_S, s1440 = sR s1438 t 12 (some t1437) → ∀ s1443 : st_S, s1443 = sI s1440 t 14 (-1) → ∀ (t1446 : Nat) (s1447 : st_S), t1446 = gN s1443 → s1447 = sA s1443 0 401 → gK s1447 t = 32 + 11 ∧ ∀ s1449 : st_S, s1449 = sR s1447 t 15 (some t1446) → ∀ (t1452 : Nat) (s1453 : st_S), t1452 = gN s1449 → s1453 = sA s1449 0 401 → gK s1453 t = 32 + 11 ∧ ∀ s1455 : st_S, s1455 = sR s1453 t 16 (some t1452) → ∀ (t1458 : Nat) (s1459 : st_S), t1458 = gN s1455 → s1459 = sA s1455 0 401 → gK s1459 t = 32 + 11 ∧ ∀ s1461 : st_S, s1461 = sR s1459 t 17 (some t1458) → ∀ (t1464 : Nat) (s1465 : st_S), t1464 = gN s1461 → s1465 = sA s1461 0 10 → gK s1465 t = 32 + 11 ∧ ∀ s1467 : st_S, s1467 = sR s1465 t 25 (some t1464) → ∀ (t1470 : Nat) (s1471 : st_S), t1470 = gN s1467 → s1471 = sA s1467 0 560 → gK s1471 t = 32 + 11 ∧ ∀ s1473 : st_S, s1473 = sR s1471 t 26 (some t1470) → ∀ (t1476 : Nat) (s1477 : st_S), t1476 = gN s1473 → s1477 = sA s1473 0 560 → gK s1477 t = 32 + 11 ∧ ∀ s1479 : st_S, s1479 = sR s1477 t 27 (some t1476) → ∀ (t1482 : Nat) (s1483 : st_S), t1482 = gN s1479 → s1483 = sA s1479 0 10 → gK s1483 t = 32 + 11 ∧ ∀ s1485 : st_S, s1485 = sR s1483 t 29 (some t1482) → ∀ (t1488 : Nat) (s1489 : st_S), t1488 = gN s1485 → s1489 = sA s1485 0 100 → gK s1489 t = 32 + 11 ∧ ∀ s1491 : st_S, s1491 = sR s1489 t 30 (some t1488) → ∀ (t1494 : Nat) (s1495 : st_S), t1494 = gN s1491 → s1495 = sA s1491 2 330 → gK s1495 t = 32 + 11 ∧ ∀ s1497 : st_S, s1497 = sR s1495 t 31 (some t1494) → ∀ (t1500 : Nat) (s1501 : st_S), t1500 = gN s1497 → s1501 = sA s1497 0 10 → gK s1501 t = 32 + 11 ∧ ∀ s1503 : st_S, s1503 = sR s1501 t 32 (some t1500) → ∀ (t1506 : Nat) (s1507 : st_S), t1506 = gN s1503 → s1507 = sA s1503 2 11264 → gK s1507 t = 32 + 11 ∧ ∀ s1509 : st_S, s1509 = sR s1507 t 33 (some t1506) → ∀ (t1512 : Nat) (s1513 : st_S), t1512 = gN s1509 → s1513 = sA s1509 0 11264 → gK s1513 t = 32 + 11 ∧ ∀ s1515 : st_S, s1515 = sR s1513 t 36 (some t1512) → ∀ (t1518 : Nat) (s1519 : st_S), t1518 = gN s1515 → s1519 = sA s1515 1 11264 → gK s1519 t = 32 + 11 ∧ ∀ s1521 : st_S, s1521 = sR s1519 t 37 (some t1518) → ∀ (t1524 : Nat) (s1525 : st_S), t1524 = gN s1521 → s1525 = sA s1521 0 10 → gK s1525 t = 32 + 11 ∧ ∀ s1527 : st_S, s1527 = sR s1525 t 38 (some t1524) → ∀ (t1530 : Nat) (s1531 : st_S), t1530 = gN s1527 → s1531 = sA s1527 3 11264 → gK s1531 t = 32 + 11 ∧ ∀ s1533 : st_S, s1533 = sR s1531 t 39 (some t1530) → ∀ (t1536 : Nat) (s1537 : st_S), t1536 = gN s1533 → s1537 = sA s1533 2 180224 → gK s1537 t = 32 + 11 ∧ ∀ s1539 : st_S, s1539 = sR s1537 t 40 (some t1536) → ∀ s1542 : st_S, s1542 = sI s1539 t 41 (-1) → ∀ (t1545 : Nat) (s1546 : st_S), t1545 = gN s1542 → s1546 = sA s1542 0 60 → gK s1546 t = 32 + 11 ∧ ∀ s1548 : st_S, s1548 = sR s1546 t 49 (some t1545) → ∃ t1551 : Nat, gR s1548 t 2 = some t1551 ∧ gK s1548 t1551 = 0 ∧ ix 254 (gL s1548 t1551) ∧ ∀ s1554 : st_S, s1554 = sI s1548 t1551 254 3 → ∃ t1558 : Nat, gR s1554 t 2 = some t1558 ∧ gK s1554 t1558 = 0 ∧ ix 258 (gL s1554 t1558) ∧ ∀ s1561 : st_S, s1561 = sI s1554 t1558 258 (-1) → Q s1561 := h
  refine j_aload_nR hc 0 dX11_init_0 rfl rfl ?_
  refine j_obj hc ol_RX11_18 hh1 (Nat.le_of_ble_eq_true rfl) dX11_init_1 ?_
  refine j_aload_nR hc 0 dX11_init_4 rfl rfl ?_
  refine j_bipush hc dX11_init_5 (by decide) ?_
  refine j_newa (N := 7) hc (hM.at hc) nk_0 (by decide) (by decide) (by constructor <;> omega) dX11_init_7 (fun t936 s937 et936 es937 => ?_)
  replace h := h t936 s937 et936 es937
  obtain ⟨f938, h⟩ := h
  refine j_putR hc fl_RX11_7 rfl (Or.inr ⟨rfl, hnm, rfl⟩) (fun _ => Or.inr f938) (fun _ => Or.inl f938) dX11_init_9 (fun s939 es939 => ?_)
  replace h := h s939 es939
  have f940 := kI (Or.inr ⟨_, _, _, es939⟩) (kNew et936 es937)
  have f941 := kI (Or.inr ⟨_, _, _, es939⟩) f938
  refine j_aload_nR hc 0 dX11_init_12 rfl rfl ?_
  refine j_sipush hc dX11_init_13 (by decide) ?_
  refine j_newa (N := 5866) hc (hM.at hc) nk_0 (by decide) (by decide) (by constructor <;> omega) dX11_init_16 (fun t942 s943 et942 es943 => ?_)
  replace h := h t942 s943 et942 es943
  obtain ⟨f944, h⟩ := h
  refine j_putR hc fl_RX11_24 rfl (Or.inr ⟨rfl, hnm, rfl⟩) (fun _ => Or.inr f944) (fun _ => Or.inl f944) dX11_init_18 (fun s945 es945 => ?_)
  replace h := h s945 es945
  have f946 := kI (Or.inr ⟨_, _, _, es945⟩) (kNew et942 es943)
  have f947 := kI (Or.inr ⟨_, _, _, es945⟩) f944
  refine j_aload_nR hc 0 dX11_init_21 rfl rfl ?_
  refine j_sipush hc dX11_init_22 (by decide) ?_
  refine j_newa (N := 11732) hc (hM.at hc) nk_0 (by decide) (by decide) (by constructor <;> omega) dX11_init_25 (fun t948 s949 et948 es949 => ?_)
  replace h := h t948 s949 et948 es949
  obtain ⟨f950, h⟩ := h
  refine j_putR hc fl_RX11_27 rfl (Or.inr ⟨rfl, hnm, rfl⟩) (fun _ => Or.inr f950) (fun _ => Or.inl f950) dX11_init_27 (fun s951 es951 => ?_)
  replace h := h s951 es951
  have f952 := kI (Or.inr ⟨_, _, _, es951⟩) (kNew et948 es949)
  have f953 := kI (Or.inr ⟨_, _, _, es951⟩) f950
  refine j_aload_nR hc 0 dX11_init_30 rfl rfl ?_
  refine j_iconst hc dX11_init_31 ?_
  refine j_newa (N := 2) hc (hM.at hc) nk_3 (by decide) (by decide) (by constructor <;> omega) dX11_init_32 (fun t954 s955 et954 es955 => ?_)
  replace h := h t954 s955 et954 es955
  obtain ⟨f956, h⟩ := h
  refine j_putR hc fl_RX11_30 rfl (Or.inr ⟨rfl, hnm, rfl⟩) (fun _ => Or.inr f956) (fun _ => Or.inl f956) dX11_init_34 (fun s957 es957 => ?_)
  replace h := h s957 es957
  have f958 := kI (Or.inr ⟨_, _, _, es957⟩) (kNew et954 es955)
  have f959 := kI (Or.inr ⟨_, _, _, es957⟩) f956
  refine j_aload_nR hc 0 dX11_init_37 rfl rfl ?_
  refine j_bipush hc dX11_init_38 (by decide) ?_
  refine j_newa (N := 34) hc (hM.at hc) nk_0 (by decide) (by decide) (by constructor <;> omega) dX11_init_40 (fun t960 s961 et960 es961 => ?_)
  replace h := h t960 s961 et960 es961
  obtain ⟨f962, h⟩ := h
  refine j_putR hc fl_RX11_34 rfl (Or.inr ⟨rfl, hnm, rfl⟩) (fun _ => Or.inr f962) (fun _ => Or.inl f962) dX11_init_42 (fun s963 es963 => ?_)
  replace h := h s963 es963
  have f964 := kI (Or.inr ⟨_, _, _, es963⟩) (kNew et960 es961)
  have f965 := kI (Or.inr ⟨_, _, _, es963⟩) f962
  refine j_aload_nR hc 0 dX11_init_45 rfl rfl ?_
  refine j_sipush hc dX11_init_46 (by decide) ?_
  refine j_newa (N := 153) hc (hM.at hc) nk_2 (by decide) (by decide) (by constructor <;> omega) dX11_init_49 (fun t966 s967 et966 es967 => ?_)
  replace h := h t966 s967 et966 es967
  refine j_dup hc dX11_init_51 rfl ?_
  refine j_iconst hc dX11_init_52 ?_
  refine j_bipush hc dX11_init_53 (by decide) ?_
  obtain ⟨b968, h⟩ := h
  refine j_bast (jn := 0) hc (fun _ => ⟨(kNew et966 es967), rfl⟩) (wlit 0 (by decide)) b968 rfl dX11_init_55 (fun s969 es969 => ?_)
  replace h := h s969 es969
  have f970 := kI (Or.inl ⟨_, _, _, es969⟩) (kNew et966 es967)
  refine j_dup hc dX11_init_56 rfl ?_
  refine j_iconst hc dX11_init_57 ?_
  refine j_bipush hc dX11_init_58 (by decide) ?_
  obtain ⟨b971, h⟩ := h
  refine j_bast (jn := 1) hc (fun _ => ⟨f970, rfl⟩) (wlit 1 (by decide)) b971 rfl dX11_init_60 (fun s972 es972 => ?_)
  replace h := h s972 es972
  have f973 := kI (Or.inl ⟨_, _, _, es972⟩) f970
  refine j_dup hc dX11_init_61 rfl ?_
  refine j_iconst hc dX11_init_62 ?_
  refine j_bipush hc dX11_init_63 (by decide) ?_
  obtain ⟨b974, h⟩ := h
  refine j_bast (jn := 2) hc (fun _ => ⟨f973, rfl⟩) (wlit 2 (by decide)) b974 rfl dX11_init_65 (fun s975 es975 => ?_)
  replace h := h s975 es975
  have f976 := kI (Or.inl ⟨_, _, _, es975⟩) f973
  refine j_dup hc dX11_init_66 rfl ?_
  refine j_iconst hc dX11_init_67 ?_
  refine j_bipush hc dX11_init_68 (by decide) ?_
  obtain ⟨b977, h⟩ := h
  refine j_bast (jn := 3) hc (fun _ => ⟨f976, rfl⟩) (wlit 3 (by decide)) b977 rfl dX11_init_70 (fun s978 es978 => ?_)
  replace h := h s978 es978
  have f979 := kI (Or.inl ⟨_, _, _, es978⟩) f976
  refine j_dup hc dX11_init_71 rfl ?_
  refine j_iconst hc dX11_init_72 ?_
  refine j_bipush hc dX11_init_73 (by decide) ?_
  obtain ⟨b980, h⟩ := h
  refine j_bast (jn := 4) hc (fun _ => ⟨f979, rfl⟩) (wlit 4 (by decide)) b980 rfl dX11_init_75 (fun s981 es981 => ?_)
  replace h := h s981 es981
  have f982 := kI (Or.inl ⟨_, _, _, es981⟩) f979
  refine j_dup hc dX11_init_76 rfl ?_
  refine j_iconst hc dX11_init_77 ?_
  refine j_bipush hc dX11_init_78 (by decide) ?_
  obtain ⟨b983, h⟩ := h
  refine j_bast (jn := 5) hc (fun _ => ⟨f982, rfl⟩) (wlit 5 (by decide)) b983 rfl dX11_init_80 (fun s984 es984 => ?_)
  replace h := h s984 es984
  have f985 := kI (Or.inl ⟨_, _, _, es984⟩) f982
  refine j_dup hc dX11_init_81 rfl ?_
  refine j_bipush hc dX11_init_82 (by decide) ?_
  refine j_bipush hc dX11_init_84 (by decide) ?_
  obtain ⟨b986, h⟩ := h
  refine j_bast (jn := 6) hc (fun _ => ⟨f985, rfl⟩) (wlit 6 (by decide)) b986 rfl dX11_init_86 (fun s987 es987 => ?_)
  replace h := h s987 es987
  have f988 := kI (Or.inl ⟨_, _, _, es987⟩) f985
  refine j_dup hc dX11_init_87 rfl ?_
  refine j_bipush hc dX11_init_88 (by decide) ?_
  refine j_bipush hc dX11_init_90 (by decide) ?_
  obtain ⟨b989, h⟩ := h
  refine j_bast (jn := 7) hc (fun _ => ⟨f988, rfl⟩) (wlit 7 (by decide)) b989 rfl dX11_init_92 (fun s990 es990 => ?_)
  replace h := h s990 es990
  have f991 := kI (Or.inl ⟨_, _, _, es990⟩) f988
  refine j_dup hc dX11_init_93 rfl ?_
  refine j_bipush hc dX11_init_94 (by decide) ?_
  refine j_bipush hc dX11_init_96 (by decide) ?_
  obtain ⟨b992, h⟩ := h
  refine j_bast (jn := 8) hc (fun _ => ⟨f991, rfl⟩) (wlit 8 (by decide)) b992 rfl dX11_init_98 (fun s993 es993 => ?_)
  replace h := h s993 es993
  have f994 := kI (Or.inl ⟨_, _, _, es993⟩) f991
  refine j_dup hc dX11_init_99 rfl ?_
  refine j_bipush hc dX11_init_100 (by decide) ?_
  refine j_bipush hc dX11_init_102 (by decide) ?_
  obtain ⟨b995, h⟩ := h
  refine j_bast (jn := 9) hc (fun _ => ⟨f994, rfl⟩) (wlit 9 (by decide)) b995 rfl dX11_init_104 (fun s996 es996 => ?_)
  replace h := h s996 es996
  have f997 := kI (Or.inl ⟨_, _, _, es996⟩) f994
  refine j_dup hc dX11_init_105 rfl ?_
  refine j_bipush hc dX11_init_106 (by decide) ?_
  refine j_bipush hc dX11_init_108 (by decide) ?_
  obtain ⟨b998, h⟩ := h
  refine j_bast (jn := 10) hc (fun _ => ⟨f997, rfl⟩) (wlit 10 (by decide)) b998 rfl dX11_init_110 (fun s999 es999 => ?_)
  replace h := h s999 es999
  have f1000 := kI (Or.inl ⟨_, _, _, es999⟩) f997
  refine j_dup hc dX11_init_111 rfl ?_
  refine j_bipush hc dX11_init_112 (by decide) ?_
  refine j_bipush hc dX11_init_114 (by decide) ?_
  obtain ⟨b1001, h⟩ := h
  refine j_bast (jn := 11) hc (fun _ => ⟨f1000, rfl⟩) (wlit 11 (by decide)) b1001 rfl dX11_init_116 (fun s1002 es1002 => ?_)
  replace h := h s1002 es1002
  have f1003 := kI (Or.inl ⟨_, _, _, es1002⟩) f1000
  refine j_dup hc dX11_init_117 rfl ?_
  refine j_bipush hc dX11_init_118 (by decide) ?_
  refine j_bipush hc dX11_init_120 (by decide) ?_
  obtain ⟨b1004, h⟩ := h
  refine j_bast (jn := 12) hc (fun _ => ⟨f1003, rfl⟩) (wlit 12 (by decide)) b1004 rfl dX11_init_122 (fun s1005 es1005 => ?_)
  replace h := h s1005 es1005
  have f1006 := kI (Or.inl ⟨_, _, _, es1005⟩) f1003
  refine j_dup hc dX11_init_123 rfl ?_
  refine j_bipush hc dX11_init_124 (by decide) ?_
  refine j_bipush hc dX11_init_126 (by decide) ?_
  obtain ⟨b1007, h⟩ := h
  refine j_bast (jn := 13) hc (fun _ => ⟨f1006, rfl⟩) (wlit 13 (by decide)) b1007 rfl dX11_init_128 (fun s1008 es1008 => ?_)
  replace h := h s1008 es1008
  have f1009 := kI (Or.inl ⟨_, _, _, es1008⟩) f1006
  refine j_dup hc dX11_init_129 rfl ?_
  refine j_bipush hc dX11_init_130 (by decide) ?_
  refine j_bipush hc dX11_init_132 (by decide) ?_
  obtain ⟨b1010, h⟩ := h
  refine j_bast (jn := 14) hc (fun _ => ⟨f1009, rfl⟩) (wlit 14 (by decide)) b1010 rfl dX11_init_134 (fun s1011 es1011 => ?_)
  replace h := h s1011 es1011
  have f1012 := kI (Or.inl ⟨_, _, _, es1011⟩) f1009
  refine j_dup hc dX11_init_135 rfl ?_
  refine j_bipush hc dX11_init_136 (by decide) ?_
  refine j_bipush hc dX11_init_138 (by decide) ?_
  obtain ⟨b1013, h⟩ := h
  refine j_bast (jn := 15) hc (fun _ => ⟨f1012, rfl⟩) (wlit 15 (by decide)) b1013 rfl dX11_init_140 (fun s1014 es1014 => ?_)
  replace h := h s1014 es1014
  have f1015 := kI (Or.inl ⟨_, _, _, es1014⟩) f1012
  refine j_dup hc dX11_init_141 rfl ?_
  refine j_bipush hc dX11_init_142 (by decide) ?_
  refine j_bipush hc dX11_init_144 (by decide) ?_
  obtain ⟨b1016, h⟩ := h
  refine j_bast (jn := 16) hc (fun _ => ⟨f1015, rfl⟩) (wlit 16 (by decide)) b1016 rfl dX11_init_146 (fun s1017 es1017 => ?_)
  replace h := h s1017 es1017
  have f1018 := kI (Or.inl ⟨_, _, _, es1017⟩) f1015
  refine j_dup hc dX11_init_147 rfl ?_
  refine j_bipush hc dX11_init_148 (by decide) ?_
  refine j_bipush hc dX11_init_150 (by decide) ?_
  obtain ⟨b1019, h⟩ := h
  refine j_bast (jn := 17) hc (fun _ => ⟨f1018, rfl⟩) (wlit 17 (by decide)) b1019 rfl dX11_init_152 (fun s1020 es1020 => ?_)
  replace h := h s1020 es1020
  have f1021 := kI (Or.inl ⟨_, _, _, es1020⟩) f1018
  refine j_dup hc dX11_init_153 rfl ?_
  refine j_bipush hc dX11_init_154 (by decide) ?_
  refine j_bipush hc dX11_init_156 (by decide) ?_
  obtain ⟨b1022, h⟩ := h
  refine j_bast (jn := 18) hc (fun _ => ⟨f1021, rfl⟩) (wlit 18 (by decide)) b1022 rfl dX11_init_158 (fun s1023 es1023 => ?_)
  replace h := h s1023 es1023
  have f1024 := kI (Or.inl ⟨_, _, _, es1023⟩) f1021
  refine j_dup hc dX11_init_159 rfl ?_
  refine j_bipush hc dX11_init_160 (by decide) ?_
  refine j_bipush hc dX11_init_162 (by decide) ?_
  obtain ⟨b1025, h⟩ := h
  refine j_bast (jn := 19) hc (fun _ => ⟨f1024, rfl⟩) (wlit 19 (by decide)) b1025 rfl dX11_init_164 (fun s1026 es1026 => ?_)
  replace h := h s1026 es1026
  have f1027 := kI (Or.inl ⟨_, _, _, es1026⟩) f1024
  refine j_dup hc dX11_init_165 rfl ?_
  refine j_bipush hc dX11_init_166 (by decide) ?_
  refine j_bipush hc dX11_init_168 (by decide) ?_
  obtain ⟨b1028, h⟩ := h
  refine j_bast (jn := 20) hc (fun _ => ⟨f1027, rfl⟩) (wlit 20 (by decide)) b1028 rfl dX11_init_170 (fun s1029 es1029 => ?_)
  replace h := h s1029 es1029
  have f1030 := kI (Or.inl ⟨_, _, _, es1029⟩) f1027
  refine j_dup hc dX11_init_171 rfl ?_
  refine j_bipush hc dX11_init_172 (by decide) ?_
  refine j_bipush hc dX11_init_174 (by decide) ?_
  obtain ⟨b1031, h⟩ := h
  refine j_bast (jn := 21) hc (fun _ => ⟨f1030, rfl⟩) (wlit 21 (by decide)) b1031 rfl dX11_init_176 (fun s1032 es1032 => ?_)
  replace h := h s1032 es1032
  have f1033 := kI (Or.inl ⟨_, _, _, es1032⟩) f1030
  refine j_dup hc dX11_init_177 rfl ?_
  refine j_bipush hc dX11_init_178 (by decide) ?_
  refine j_bipush hc dX11_init_180 (by decide) ?_
  obtain ⟨b1034, h⟩ := h
  refine j_bast (jn := 22) hc (fun _ => ⟨f1033, rfl⟩) (wlit 22 (by decide)) b1034 rfl dX11_init_182 (fun s1035 es1035 => ?_)
  replace h := h s1035 es1035
  have f1036 := kI (Or.inl ⟨_, _, _, es1035⟩) f1033
  refine j_dup hc dX11_init_183 rfl ?_
  refine j_bipush hc dX11_init_184 (by decide) ?_
  refine j_bipush hc dX11_init_186 (by decide) ?_
  obtain ⟨b1037, h⟩ := h
  refine j_bast (jn := 23) hc (fun _ => ⟨f1036, rfl⟩) (wlit 23 (by decide)) b1037 rfl dX11_init_188 (fun s1038 es1038 => ?_)
  replace h := h s1038 es1038
  have f1039 := kI (Or.inl ⟨_, _, _, es1038⟩) f1036
  refine j_dup hc dX11_init_189 rfl ?_
  refine j_bipush hc dX11_init_190 (by decide) ?_
  refine j_bipush hc dX11_init_192 (by decide) ?_
  obtain ⟨b1040, h⟩ := h
  refine j_bast (jn := 24) hc (fun _ => ⟨f1039, rfl⟩) (wlit 24 (by decide)) b1040 rfl dX11_init_194 (fun s1041 es1041 => ?_)
  replace h := h s1041 es1041
  have f1042 := kI (Or.inl ⟨_, _, _, es1041⟩) f1039
  refine j_dup hc dX11_init_195 rfl ?_
  refine j_bipush hc dX11_init_196 (by decide) ?_
  refine j_bipush hc dX11_init_198 (by decide) ?_
  obtain ⟨b1043, h⟩ := h
  refine j_bast (jn := 25) hc (fun _ => ⟨f1042, rfl⟩) (wlit 25 (by decide)) b1043 rfl dX11_init_200 (fun s1044 es1044 => ?_)
  replace h := h s1044 es1044
  have f1045 := kI (Or.inl ⟨_, _, _, es1044⟩) f1042
  refine j_dup hc dX11_init_201 rfl ?_
  refine j_bipush hc dX11_init_202 (by decide) ?_
  refine j_bipush hc dX11_init_204 (by decide) ?_
  obtain ⟨b1046, h⟩ := h
  refine j_bast (jn := 26) hc (fun _ => ⟨f1045, rfl⟩) (wlit 26 (by decide)) b1046 rfl dX11_init_206 (fun s1047 es1047 => ?_)
  replace h := h s1047 es1047
  have f1048 := kI (Or.inl ⟨_, _, _, es1047⟩) f1045
  refine j_dup hc dX11_init_207 rfl ?_
  refine j_bipush hc dX11_init_208 (by decide) ?_
  refine j_bipush hc dX11_init_210 (by decide) ?_
  obtain ⟨b1049, h⟩ := h
  refine j_bast (jn := 27) hc (fun _ => ⟨f1048, rfl⟩) (wlit 27 (by decide)) b1049 rfl dX11_init_212 (fun s1050 es1050 => ?_)
  replace h := h s1050 es1050
  have f1051 := kI (Or.inl ⟨_, _, _, es1050⟩) f1048
  refine j_dup hc dX11_init_213 rfl ?_
  refine j_bipush hc dX11_init_214 (by decide) ?_
  refine j_bipush hc dX11_init_216 (by decide) ?_
  obtain ⟨b1052, h⟩ := h
  refine j_bast (jn := 28) hc (fun _ => ⟨f1051, rfl⟩) (wlit 28 (by decide)) b1052 rfl dX11_init_218 (fun s1053 es1053 => ?_)
  replace h := h s1053 es1053
  have f1054 := kI (Or.inl ⟨_, _, _, es1053⟩) f1051
  refine j_dup hc dX11_init_219 rfl ?_
  refine j_bipush hc dX11_init_220 (by decide) ?_
  refine j_bipush hc dX11_init_222 (by decide) ?_
  obtain ⟨b1055, h⟩ := h
  refine j_bast (jn := 29) hc (fun _ => ⟨f1054, rfl⟩) (wlit 29 (by decide)) b1055 rfl dX11_init_224 (fun s1056 es1056 => ?_)
  replace h := h s1056 es1056
  have f1057 := kI (Or.inl ⟨_, _, _, es1056⟩) f1054
  refine j_dup hc dX11_init_225 rfl ?_
  refine j_bipush hc dX11_init_226 (by decide) ?_
  refine j_bipush hc dX11_init_228 (by decide) ?_
  obtain ⟨b1058, h⟩ := h
  refine j_bast (jn := 30) hc (fun _ => ⟨f1057, rfl⟩) (wlit 30 (by decide)) b1058 rfl dX11_init_230 (fun s1059 es1059 => ?_)
  replace h := h s1059 es1059
  have f1060 := kI (Or.inl ⟨_, _, _, es1059⟩) f1057
  refine j_dup hc dX11_init_231 rfl ?_
  refine j_bipush hc dX11_init_232 (by decide) ?_
  refine j_bipush hc dX11_init_234 (by decide) ?_
  obtain ⟨b1061, h⟩ := h
  refine j_bast (jn := 31) hc (fun _ => ⟨f1060, rfl⟩) (wlit 31 (by decide)) b1061 rfl dX11_init_236 (fun s1062 es1062 => ?_)
  replace h := h s1062 es1062
  have f1063 := kI (Or.inl ⟨_, _, _, es1062⟩) f1060
  refine j_dup hc dX11_init_237 rfl ?_
  refine j_bipush hc dX11_init_238 (by decide) ?_
  refine j_bipush hc dX11_init_240 (by decide) ?_
  obtain ⟨b1064, h⟩ := h
  refine j_bast (jn := 32) hc (fun _ => ⟨f1063, rfl⟩) (wlit 32 (by decide)) b1064 rfl dX11_init_242 (fun s1065 es1065 => ?_)
  replace h := h s1065 es1065
  have f1066 := kI (Or.inl ⟨_, _, _, es1065⟩) f1063
  refine j_dup hc dX11_init_243 rfl ?_
  refine j_bipush hc dX11_init_244 (by decide) ?_
  refine j_bipush hc dX11_init_246 (by decide) ?_
  obtain ⟨b1067, h⟩ := h
  refine j_bast (jn := 33) hc (fun _ => ⟨f1066, rfl⟩) (wlit 33 (by decide)) b1067 rfl dX11_init_248 (fun s1068 es1068 => ?_)
  replace h := h s1068 es1068
  have f1069 := kI (Or.inl ⟨_, _, _, es1068⟩) f1066
  refine j_dup hc dX11_init_249 rfl ?_
  refine j_bipush hc dX11_init_250 (by decide) ?_
  refine j_bipush hc dX11_init_252 (by decide) ?_
  obtain ⟨b1070, h⟩ := h
  refine j_bast (jn := 34) hc (fun _ => ⟨f1069, rfl⟩) (wlit 34 (by decide)) b1070 rfl dX11_init_254 (fun s1071 es1071 => ?_)
  replace h := h s1071 es1071
  have f1072 := kI (Or.inl ⟨_, _, _, es1071⟩) f1069
  refine j_dup hc dX11_init_255 rfl ?_
  refine j_bipush hc dX11_init_256 (by decide) ?_
  refine j_bipush hc dX11_init_258 (by decide) ?_
  obtain ⟨b1073, h⟩ := h
  refine j_bast (jn := 35) hc (fun _ => ⟨f1072, rfl⟩) (wlit 35 (by decide)) b1073 rfl dX11_init_260 (fun s1074 es1074 => ?_)
  replace h := h s1074 es1074
  have f1075 := kI (Or.inl ⟨_, _, _, es1074⟩) f1072
  refine j_dup hc dX11_init_261 rfl ?_
  refine j_bipush hc dX11_init_262 (by decide) ?_
  refine j_bipush hc dX11_init_264 (by decide) ?_
  obtain ⟨b1076, h⟩ := h
  refine j_bast (jn := 36) hc (fun _ => ⟨f1075, rfl⟩) (wlit 36 (by decide)) b1076 rfl dX11_init_266 (fun s1077 es1077 => ?_)
  replace h := h s1077 es1077
  have f1078 := kI (Or.inl ⟨_, _, _, es1077⟩) f1075
  refine j_dup hc dX11_init_267 rfl ?_
  refine j_bipush hc dX11_init_268 (by decide) ?_
  refine j_bipush hc dX11_init_270 (by decide) ?_
  obtain ⟨b1079, h⟩ := h
  refine j_bast (jn := 37) hc (fun _ => ⟨f1078, rfl⟩) (wlit 37 (by decide)) b1079 rfl dX11_init_272 (fun s1080 es1080 => ?_)
  replace h := h s1080 es1080
  have f1081 := kI (Or.inl ⟨_, _, _, es1080⟩) f1078
  refine j_dup hc dX11_init_273 rfl ?_
  refine j_bipush hc dX11_init_274 (by decide) ?_
  refine j_bipush hc dX11_init_276 (by decide) ?_
  obtain ⟨b1082, h⟩ := h
  refine j_bast (jn := 38) hc (fun _ => ⟨f1081, rfl⟩) (wlit 38 (by decide)) b1082 rfl dX11_init_278 (fun s1083 es1083 => ?_)
  replace h := h s1083 es1083
  have f1084 := kI (Or.inl ⟨_, _, _, es1083⟩) f1081
  refine j_dup hc dX11_init_279 rfl ?_
  refine j_bipush hc dX11_init_280 (by decide) ?_
  refine j_bipush hc dX11_init_282 (by decide) ?_
  obtain ⟨b1085, h⟩ := h
  refine j_bast (jn := 39) hc (fun _ => ⟨f1084, rfl⟩) (wlit 39 (by decide)) b1085 rfl dX11_init_284 (fun s1086 es1086 => ?_)
  replace h := h s1086 es1086
  have f1087 := kI (Or.inl ⟨_, _, _, es1086⟩) f1084
  refine j_dup hc dX11_init_285 rfl ?_
  refine j_bipush hc dX11_init_286 (by decide) ?_
  refine j_bipush hc dX11_init_288 (by decide) ?_
  obtain ⟨b1088, h⟩ := h
  refine j_bast (jn := 40) hc (fun _ => ⟨f1087, rfl⟩) (wlit 40 (by decide)) b1088 rfl dX11_init_290 (fun s1089 es1089 => ?_)
  replace h := h s1089 es1089
  have f1090 := kI (Or.inl ⟨_, _, _, es1089⟩) f1087
  refine j_dup hc dX11_init_291 rfl ?_
  refine j_bipush hc dX11_init_292 (by decide) ?_
  refine j_bipush hc dX11_init_294 (by decide) ?_
  obtain ⟨b1091, h⟩ := h
  refine j_bast (jn := 41) hc (fun _ => ⟨f1090, rfl⟩) (wlit 41 (by decide)) b1091 rfl dX11_init_296 (fun s1092 es1092 => ?_)
  replace h := h s1092 es1092
  have f1093 := kI (Or.inl ⟨_, _, _, es1092⟩) f1090
  refine j_dup hc dX11_init_297 rfl ?_
  refine j_bipush hc dX11_init_298 (by decide) ?_
  refine j_bipush hc dX11_init_300 (by decide) ?_
  obtain ⟨b1094, h⟩ := h
  refine j_bast (jn := 42) hc (fun _ => ⟨f1093, rfl⟩) (wlit 42 (by decide)) b1094 rfl dX11_init_302 (fun s1095 es1095 => ?_)
  replace h := h s1095 es1095
  have f1096 := kI (Or.inl ⟨_, _, _, es1095⟩) f1093
  refine j_dup hc dX11_init_303 rfl ?_
  refine j_bipush hc dX11_init_304 (by decide) ?_
  refine j_bipush hc dX11_init_306 (by decide) ?_
  obtain ⟨b1097, h⟩ := h
  refine j_bast (jn := 43) hc (fun _ => ⟨f1096, rfl⟩) (wlit 43 (by decide)) b1097 rfl dX11_init_308 (fun s1098 es1098 => ?_)
  replace h := h s1098 es1098
  have f1099 := kI (Or.inl ⟨_, _, _, es1098⟩) f1096
  refine j_dup hc dX11_init_309 rfl ?_
  refine j_bipush hc dX11_init_310 (by decide) ?_
  refine j_bipush hc dX11_init_312 (by decide) ?_
  obtain ⟨b1100, h⟩ := h
  refine j_bast (jn := 44) hc (fun _ => ⟨f1099, rfl⟩) (wlit 44 (by decide)) b1100 rfl dX11_init_314 (fun s1101 es1101 => ?_)
  replace h := h s1101 es1101
  have f1102 := kI (Or.inl ⟨_, _, _, es1101⟩) f1099
  refine j_dup hc dX11_init_315 rfl ?_
  refine j_bipush hc dX11_init_316 (by decide) ?_
  refine j_bipush hc dX11_init_318 (by decide) ?_
  obtain ⟨b1103, h⟩ := h
  refine j_bast (jn := 45) hc (fun _ => ⟨f1102, rfl⟩) (wlit 45 (by decide)) b1103 rfl dX11_init_320 (fun s1104 es1104 => ?_)
  replace h := h s1104 es1104
  have f1105 := kI (Or.inl ⟨_, _, _, es1104⟩) f1102
  refine j_dup hc dX11_init_321 rfl ?_
  refine j_bipush hc dX11_init_322 (by decide) ?_
  refine j_bipush hc dX11_init_324 (by decide) ?_
  obtain ⟨b1106, h⟩ := h
  refine j_bast (jn := 46) hc (fun _ => ⟨f1105, rfl⟩) (wlit 46 (by decide)) b1106 rfl dX11_init_326 (fun s1107 es1107 => ?_)
  replace h := h s1107 es1107
  have f1108 := kI (Or.inl ⟨_, _, _, es1107⟩) f1105
  refine j_dup hc dX11_init_327 rfl ?_
  refine j_bipush hc dX11_init_328 (by decide) ?_
  refine j_bipush hc dX11_init_330 (by decide) ?_
  obtain ⟨b1109, h⟩ := h
  refine j_bast (jn := 47) hc (fun _ => ⟨f1108, rfl⟩) (wlit 47 (by decide)) b1109 rfl dX11_init_332 (fun s1110 es1110 => ?_)
  replace h := h s1110 es1110
  have f1111 := kI (Or.inl ⟨_, _, _, es1110⟩) f1108
  refine j_dup hc dX11_init_333 rfl ?_
  refine j_bipush hc dX11_init_334 (by decide) ?_
  refine j_bipush hc dX11_init_336 (by decide) ?_
  obtain ⟨b1112, h⟩ := h
  refine j_bast (jn := 48) hc (fun _ => ⟨f1111, rfl⟩) (wlit 48 (by decide)) b1112 rfl dX11_init_338 (fun s1113 es1113 => ?_)
  replace h := h s1113 es1113
  have f1114 := kI (Or.inl ⟨_, _, _, es1113⟩) f1111
  refine j_dup hc dX11_init_339 rfl ?_
  refine j_bipush hc dX11_init_340 (by decide) ?_
  refine j_bipush hc dX11_init_342 (by decide) ?_
  obtain ⟨b1115, h⟩ := h
  refine j_bast (jn := 49) hc (fun _ => ⟨f1114, rfl⟩) (wlit 49 (by decide)) b1115 rfl dX11_init_344 (fun s1116 es1116 => ?_)
  replace h := h s1116 es1116
  have f1117 := kI (Or.inl ⟨_, _, _, es1116⟩) f1114
  refine j_dup hc dX11_init_345 rfl ?_
  refine j_bipush hc dX11_init_346 (by decide) ?_
  refine j_bipush hc dX11_init_348 (by decide) ?_
  obtain ⟨b1118, h⟩ := h
  refine j_bast (jn := 50) hc (fun _ => ⟨f1117, rfl⟩) (wlit 50 (by decide)) b1118 rfl dX11_init_350 (fun s1119 es1119 => ?_)
  replace h := h s1119 es1119
  have f1120 := kI (Or.inl ⟨_, _, _, es1119⟩) f1117
  refine j_dup hc dX11_init_351 rfl ?_
  refine j_bipush hc dX11_init_352 (by decide) ?_
  refine j_bipush hc dX11_init_354 (by decide) ?_
  obtain ⟨b1121, h⟩ := h
  refine j_bast (jn := 51) hc (fun _ => ⟨f1120, rfl⟩) (wlit 51 (by decide)) b1121 rfl dX11_init_356 (fun s1122 es1122 => ?_)
  replace h := h s1122 es1122
  have f1123 := kI (Or.inl ⟨_, _, _, es1122⟩) f1120
  refine j_dup hc dX11_init_357 rfl ?_
  refine j_bipush hc dX11_init_358 (by decide) ?_
  refine j_bipush hc dX11_init_360 (by decide) ?_
  obtain ⟨b1124, h⟩ := h
  refine j_bast (jn := 52) hc (fun _ => ⟨f1123, rfl⟩) (wlit 52 (by decide)) b1124 rfl dX11_init_362 (fun s1125 es1125 => ?_)
  replace h := h s1125 es1125
  have f1126 := kI (Or.inl ⟨_, _, _, es1125⟩) f1123
  refine j_dup hc dX11_init_363 rfl ?_
  refine j_bipush hc dX11_init_364 (by decide) ?_
  refine j_bipush hc dX11_init_366 (by decide) ?_
  obtain ⟨b1127, h⟩ := h
  refine j_bast (jn := 53) hc (fun _ => ⟨f1126, rfl⟩) (wlit 53 (by decide)) b1127 rfl dX11_init_368 (fun s1128 es1128 => ?_)
  replace h := h s1128 es1128
  have f1129 := kI (Or.inl ⟨_, _, _, es1128⟩) f1126
  refine j_dup hc dX11_init_369 rfl ?_
  refine j_bipush hc dX11_init_370 (by decide) ?_
  refine j_bipush hc dX11_init_372 (by decide) ?_
  obtain ⟨b1130, h⟩ := h
  refine j_bast (jn := 54) hc (fun _ => ⟨f1129, rfl⟩) (wlit 54 (by decide)) b1130 rfl dX11_init_374 (fun s1131 es1131 => ?_)
  replace h := h s1131 es1131
  have f1132 := kI (Or.inl ⟨_, _, _, es1131⟩) f1129
  refine j_dup hc dX11_init_375 rfl ?_
  refine j_bipush hc dX11_init_376 (by decide) ?_
  refine j_bipush hc dX11_init_378 (by decide) ?_
  obtain ⟨b1133, h⟩ := h
  refine j_bast (jn := 55) hc (fun _ => ⟨f1132, rfl⟩) (wlit 55 (by decide)) b1133 rfl dX11_init_380 (fun s1134 es1134 => ?_)
  replace h := h s1134 es1134
  have f1135 := kI (Or.inl ⟨_, _, _, es1134⟩) f1132
  refine j_dup hc dX11_init_381 rfl ?_
  refine j_bipush hc dX11_init_382 (by decide) ?_
  refine j_bipush hc dX11_init_384 (by decide) ?_
  obtain ⟨b1136, h⟩ := h
  refine j_bast (jn := 56) hc (fun _ => ⟨f1135, rfl⟩) (wlit 56 (by decide)) b1136 rfl dX11_init_386 (fun s1137 es1137 => ?_)
  replace h := h s1137 es1137
  have f1138 := kI (Or.inl ⟨_, _, _, es1137⟩) f1135
  refine j_dup hc dX11_init_387 rfl ?_
  refine j_bipush hc dX11_init_388 (by decide) ?_
  refine j_bipush hc dX11_init_390 (by decide) ?_
  obtain ⟨b1139, h⟩ := h
  refine j_bast (jn := 57) hc (fun _ => ⟨f1138, rfl⟩) (wlit 57 (by decide)) b1139 rfl dX11_init_392 (fun s1140 es1140 => ?_)
  replace h := h s1140 es1140
  have f1141 := kI (Or.inl ⟨_, _, _, es1140⟩) f1138
  refine j_dup hc dX11_init_393 rfl ?_
  refine j_bipush hc dX11_init_394 (by decide) ?_
  refine j_bipush hc dX11_init_396 (by decide) ?_
  obtain ⟨b1142, h⟩ := h
  refine j_bast (jn := 58) hc (fun _ => ⟨f1141, rfl⟩) (wlit 58 (by decide)) b1142 rfl dX11_init_398 (fun s1143 es1143 => ?_)
  replace h := h s1143 es1143
  have f1144 := kI (Or.inl ⟨_, _, _, es1143⟩) f1141
  refine j_dup hc dX11_init_399 rfl ?_
  refine j_bipush hc dX11_init_400 (by decide) ?_
  refine j_bipush hc dX11_init_402 (by decide) ?_
  obtain ⟨b1145, h⟩ := h
  refine j_bast (jn := 59) hc (fun _ => ⟨f1144, rfl⟩) (wlit 59 (by decide)) b1145 rfl dX11_init_404 (fun s1146 es1146 => ?_)
  replace h := h s1146 es1146
  have f1147 := kI (Or.inl ⟨_, _, _, es1146⟩) f1144
  refine j_dup hc dX11_init_405 rfl ?_
  refine j_bipush hc dX11_init_406 (by decide) ?_
  refine j_bipush hc dX11_init_408 (by decide) ?_
  obtain ⟨b1148, h⟩ := h
  refine j_bast (jn := 60) hc (fun _ => ⟨f1147, rfl⟩) (wlit 60 (by decide)) b1148 rfl dX11_init_410 (fun s1149 es1149 => ?_)
  replace h := h s1149 es1149
  have f1150 := kI (Or.inl ⟨_, _, _, es1149⟩) f1147
  refine j_dup hc dX11_init_411 rfl ?_
  refine j_bipush hc dX11_init_412 (by decide) ?_
  refine j_bipush hc dX11_init_414 (by decide) ?_
  obtain ⟨b1151, h⟩ := h
  refine j_bast (jn := 61) hc (fun _ => ⟨f1150, rfl⟩) (wlit 61 (by decide)) b1151 rfl dX11_init_416 (fun s1152 es1152 => ?_)
  replace h := h s1152 es1152
  have f1153 := kI (Or.inl ⟨_, _, _, es1152⟩) f1150
  refine j_dup hc dX11_init_417 rfl ?_
  refine j_bipush hc dX11_init_418 (by decide) ?_
  refine j_bipush hc dX11_init_420 (by decide) ?_
  obtain ⟨b1154, h⟩ := h
  refine j_bast (jn := 62) hc (fun _ => ⟨f1153, rfl⟩) (wlit 62 (by decide)) b1154 rfl dX11_init_422 (fun s1155 es1155 => ?_)
  replace h := h s1155 es1155
  have f1156 := kI (Or.inl ⟨_, _, _, es1155⟩) f1153
  refine j_dup hc dX11_init_423 rfl ?_
  refine j_bipush hc dX11_init_424 (by decide) ?_
  refine j_bipush hc dX11_init_426 (by decide) ?_
  obtain ⟨b1157, h⟩ := h
  refine j_bast (jn := 63) hc (fun _ => ⟨f1156, rfl⟩) (wlit 63 (by decide)) b1157 rfl dX11_init_428 (fun s1158 es1158 => ?_)
  replace h := h s1158 es1158
  have f1159 := kI (Or.inl ⟨_, _, _, es1158⟩) f1156
  refine j_dup hc dX11_init_429 rfl ?_
  refine j_bipush hc dX11_init_430 (by decide) ?_
  refine j_bipush hc dX11_init_432 (by decide) ?_
  obtain ⟨b1160, h⟩ := h
  refine j_bast (jn := 64) hc (fun _ => ⟨f1159, rfl⟩) (wlit 64 (by decide)) b1160 rfl dX11_init_434 (fun s1161 es1161 => ?_)
  replace h := h s1161 es1161
  have f1162 := kI (Or.inl ⟨_, _, _, es1161⟩) f1159
  refine j_dup hc dX11_init_435 rfl ?_
  refine j_bipush hc dX11_init_436 (by decide) ?_
  refine j_bipush hc dX11_init_438 (by decide) ?_
  obtain ⟨b1163, h⟩ := h
  refine j_bast (jn := 65) hc (fun _ => ⟨f1162, rfl⟩) (wlit 65 (by decide)) b1163 rfl dX11_init_440 (fun s1164 es1164 => ?_)
  replace h := h s1164 es1164
  have f1165 := kI (Or.inl ⟨_, _, _, es1164⟩) f1162
  refine j_dup hc dX11_init_441 rfl ?_
  refine j_bipush hc dX11_init_442 (by decide) ?_
  refine j_bipush hc dX11_init_444 (by decide) ?_
  obtain ⟨b1166, h⟩ := h
  refine j_bast (jn := 66) hc (fun _ => ⟨f1165, rfl⟩) (wlit 66 (by decide)) b1166 rfl dX11_init_446 (fun s1167 es1167 => ?_)
  replace h := h s1167 es1167
  have f1168 := kI (Or.inl ⟨_, _, _, es1167⟩) f1165
  refine j_dup hc dX11_init_447 rfl ?_
  refine j_bipush hc dX11_init_448 (by decide) ?_
  refine j_bipush hc dX11_init_450 (by decide) ?_
  obtain ⟨b1169, h⟩ := h
  refine j_bast (jn := 67) hc (fun _ => ⟨f1168, rfl⟩) (wlit 67 (by decide)) b1169 rfl dX11_init_452 (fun s1170 es1170 => ?_)
  replace h := h s1170 es1170
  have f1171 := kI (Or.inl ⟨_, _, _, es1170⟩) f1168
  refine j_dup hc dX11_init_453 rfl ?_
  refine j_bipush hc dX11_init_454 (by decide) ?_
  refine j_bipush hc dX11_init_456 (by decide) ?_
  obtain ⟨b1172, h⟩ := h
  refine j_bast (jn := 68) hc (fun _ => ⟨f1171, rfl⟩) (wlit 68 (by decide)) b1172 rfl dX11_init_458 (fun s1173 es1173 => ?_)
  replace h := h s1173 es1173
  have f1174 := kI (Or.inl ⟨_, _, _, es1173⟩) f1171
  refine j_dup hc dX11_init_459 rfl ?_
  refine j_bipush hc dX11_init_460 (by decide) ?_
  refine j_bipush hc dX11_init_462 (by decide) ?_
  obtain ⟨b1175, h⟩ := h
  refine j_bast (jn := 69) hc (fun _ => ⟨f1174, rfl⟩) (wlit 69 (by decide)) b1175 rfl dX11_init_464 (fun s1176 es1176 => ?_)
  replace h := h s1176 es1176
  have f1177 := kI (Or.inl ⟨_, _, _, es1176⟩) f1174
  refine j_dup hc dX11_init_465 rfl ?_
  refine j_bipush hc dX11_init_466 (by decide) ?_
  refine j_bipush hc dX11_init_468 (by decide) ?_
  obtain ⟨b1178, h⟩ := h
  refine j_bast (jn := 70) hc (fun _ => ⟨f1177, rfl⟩) (wlit 70 (by decide)) b1178 rfl dX11_init_470 (fun s1179 es1179 => ?_)
  replace h := h s1179 es1179
  have f1180 := kI (Or.inl ⟨_, _, _, es1179⟩) f1177
  refine j_dup hc dX11_init_471 rfl ?_
  refine j_bipush hc dX11_init_472 (by decide) ?_
  refine j_bipush hc dX11_init_474 (by decide) ?_
  obtain ⟨b1181, h⟩ := h
  refine j_bast (jn := 71) hc (fun _ => ⟨f1180, rfl⟩) (wlit 71 (by decide)) b1181 rfl dX11_init_476 (fun s1182 es1182 => ?_)
  replace h := h s1182 es1182
  have f1183 := kI (Or.inl ⟨_, _, _, es1182⟩) f1180
  refine j_dup hc dX11_init_477 rfl ?_
  refine j_bipush hc dX11_init_478 (by decide) ?_
  refine j_bipush hc dX11_init_480 (by decide) ?_
  obtain ⟨b1184, h⟩ := h
  refine j_bast (jn := 72) hc (fun _ => ⟨f1183, rfl⟩) (wlit 72 (by decide)) b1184 rfl dX11_init_482 (fun s1185 es1185 => ?_)
  replace h := h s1185 es1185
  have f1186 := kI (Or.inl ⟨_, _, _, es1185⟩) f1183
  refine j_dup hc dX11_init_483 rfl ?_
  refine j_bipush hc dX11_init_484 (by decide) ?_
  refine j_bipush hc dX11_init_486 (by decide) ?_
  obtain ⟨b1187, h⟩ := h
  refine j_bast (jn := 73) hc (fun _ => ⟨f1186, rfl⟩) (wlit 73 (by decide)) b1187 rfl dX11_init_488 (fun s1188 es1188 => ?_)
  replace h := h s1188 es1188
  have f1189 := kI (Or.inl ⟨_, _, _, es1188⟩) f1186
  refine j_dup hc dX11_init_489 rfl ?_
  refine j_bipush hc dX11_init_490 (by decide) ?_
  refine j_bipush hc dX11_init_492 (by decide) ?_
  obtain ⟨b1190, h⟩ := h
  refine j_bast (jn := 74) hc (fun _ => ⟨f1189, rfl⟩) (wlit 74 (by decide)) b1190 rfl dX11_init_494 (fun s1191 es1191 => ?_)
  replace h := h s1191 es1191
  have f1192 := kI (Or.inl ⟨_, _, _, es1191⟩) f1189
  refine j_dup hc dX11_init_495 rfl ?_
  refine j_bipush hc dX11_init_496 (by decide) ?_
  refine j_bipush hc dX11_init_498 (by decide) ?_
  obtain ⟨b1193, h⟩ := h
  refine j_bast (jn := 75) hc (fun _ => ⟨f1192, rfl⟩) (wlit 75 (by decide)) b1193 rfl dX11_init_500 (fun s1194 es1194 => ?_)
  replace h := h s1194 es1194
  have f1195 := kI (Or.inl ⟨_, _, _, es1194⟩) f1192
  refine j_dup hc dX11_init_501 rfl ?_
  refine j_bipush hc dX11_init_502 (by decide) ?_
  refine j_bipush hc dX11_init_504 (by decide) ?_
  obtain ⟨b1196, h⟩ := h
  refine j_bast (jn := 76) hc (fun _ => ⟨f1195, rfl⟩) (wlit 76 (by decide)) b1196 rfl dX11_init_506 (fun s1197 es1197 => ?_)
  replace h := h s1197 es1197
  have f1198 := kI (Or.inl ⟨_, _, _, es1197⟩) f1195
  refine j_dup hc dX11_init_507 rfl ?_
  refine j_bipush hc dX11_init_508 (by decide) ?_
  refine j_bipush hc dX11_init_510 (by decide) ?_
  obtain ⟨b1199, h⟩ := h
  refine j_bast (jn := 77) hc (fun _ => ⟨f1198, rfl⟩) (wlit 77 (by decide)) b1199 rfl dX11_init_512 (fun s1200 es1200 => ?_)
  replace h := h s1200 es1200
  have f1201 := kI (Or.inl ⟨_, _, _, es1200⟩) f1198
  refine j_dup hc dX11_init_513 rfl ?_
  refine j_bipush hc dX11_init_514 (by decide) ?_
  refine j_bipush hc dX11_init_516 (by decide) ?_
  obtain ⟨b1202, h⟩ := h
  refine j_bast (jn := 78) hc (fun _ => ⟨f1201, rfl⟩) (wlit 78 (by decide)) b1202 rfl dX11_init_518 (fun s1203 es1203 => ?_)
  replace h := h s1203 es1203
  have f1204 := kI (Or.inl ⟨_, _, _, es1203⟩) f1201
  refine j_dup hc dX11_init_519 rfl ?_
  refine j_bipush hc dX11_init_520 (by decide) ?_
  refine j_bipush hc dX11_init_522 (by decide) ?_
  obtain ⟨b1205, h⟩ := h
  refine j_bast (jn := 79) hc (fun _ => ⟨f1204, rfl⟩) (wlit 79 (by decide)) b1205 rfl dX11_init_524 (fun s1206 es1206 => ?_)
  replace h := h s1206 es1206
  have f1207 := kI (Or.inl ⟨_, _, _, es1206⟩) f1204
  refine j_dup hc dX11_init_525 rfl ?_
  refine j_bipush hc dX11_init_526 (by decide) ?_
  refine j_bipush hc dX11_init_528 (by decide) ?_
  obtain ⟨b1208, h⟩ := h
  refine j_bast (jn := 80) hc (fun _ => ⟨f1207, rfl⟩) (wlit 80 (by decide)) b1208 rfl dX11_init_530 (fun s1209 es1209 => ?_)
  replace h := h s1209 es1209
  have f1210 := kI (Or.inl ⟨_, _, _, es1209⟩) f1207
  refine j_dup hc dX11_init_531 rfl ?_
  refine j_bipush hc dX11_init_532 (by decide) ?_
  refine j_bipush hc dX11_init_534 (by decide) ?_
  obtain ⟨b1211, h⟩ := h
  refine j_bast (jn := 81) hc (fun _ => ⟨f1210, rfl⟩) (wlit 81 (by decide)) b1211 rfl dX11_init_536 (fun s1212 es1212 => ?_)
  replace h := h s1212 es1212
  have f1213 := kI (Or.inl ⟨_, _, _, es1212⟩) f1210
  refine j_dup hc dX11_init_537 rfl ?_
  refine j_bipush hc dX11_init_538 (by decide) ?_
  refine j_bipush hc dX11_init_540 (by decide) ?_
  obtain ⟨b1214, h⟩ := h
  refine j_bast (jn := 82) hc (fun _ => ⟨f1213, rfl⟩) (wlit 82 (by decide)) b1214 rfl dX11_init_542 (fun s1215 es1215 => ?_)
  replace h := h s1215 es1215
  have f1216 := kI (Or.inl ⟨_, _, _, es1215⟩) f1213
  refine j_dup hc dX11_init_543 rfl ?_
  refine j_bipush hc dX11_init_544 (by decide) ?_
  refine j_bipush hc dX11_init_546 (by decide) ?_
  obtain ⟨b1217, h⟩ := h
  refine j_bast (jn := 83) hc (fun _ => ⟨f1216, rfl⟩) (wlit 83 (by decide)) b1217 rfl dX11_init_548 (fun s1218 es1218 => ?_)
  replace h := h s1218 es1218
  have f1219 := kI (Or.inl ⟨_, _, _, es1218⟩) f1216
  refine j_dup hc dX11_init_549 rfl ?_
  refine j_bipush hc dX11_init_550 (by decide) ?_
  refine j_bipush hc dX11_init_552 (by decide) ?_
  obtain ⟨b1220, h⟩ := h
  refine j_bast (jn := 84) hc (fun _ => ⟨f1219, rfl⟩) (wlit 84 (by decide)) b1220 rfl dX11_init_554 (fun s1221 es1221 => ?_)
  replace h := h s1221 es1221
  have f1222 := kI (Or.inl ⟨_, _, _, es1221⟩) f1219
  refine j_dup hc dX11_init_555 rfl ?_
  refine j_bipush hc dX11_init_556 (by decide) ?_
  refine j_bipush hc dX11_init_558 (by decide) ?_
  obtain ⟨b1223, h⟩ := h
  refine j_bast (jn := 85) hc (fun _ => ⟨f1222, rfl⟩) (wlit 85 (by decide)) b1223 rfl dX11_init_560 (fun s1224 es1224 => ?_)
  replace h := h s1224 es1224
  have f1225 := kI (Or.inl ⟨_, _, _, es1224⟩) f1222
  refine j_dup hc dX11_init_561 rfl ?_
  refine j_bipush hc dX11_init_562 (by decide) ?_
  refine j_bipush hc dX11_init_564 (by decide) ?_
  obtain ⟨b1226, h⟩ := h
  refine j_bast (jn := 86) hc (fun _ => ⟨f1225, rfl⟩) (wlit 86 (by decide)) b1226 rfl dX11_init_566 (fun s1227 es1227 => ?_)
  replace h := h s1227 es1227
  have f1228 := kI (Or.inl ⟨_, _, _, es1227⟩) f1225
  refine j_dup hc dX11_init_567 rfl ?_
  refine j_bipush hc dX11_init_568 (by decide) ?_
  refine j_bipush hc dX11_init_570 (by decide) ?_
  obtain ⟨b1229, h⟩ := h
  refine j_bast (jn := 87) hc (fun _ => ⟨f1228, rfl⟩) (wlit 87 (by decide)) b1229 rfl dX11_init_572 (fun s1230 es1230 => ?_)
  replace h := h s1230 es1230
  have f1231 := kI (Or.inl ⟨_, _, _, es1230⟩) f1228
  refine j_dup hc dX11_init_573 rfl ?_
  refine j_bipush hc dX11_init_574 (by decide) ?_
  refine j_bipush hc dX11_init_576 (by decide) ?_
  obtain ⟨b1232, h⟩ := h
  refine j_bast (jn := 88) hc (fun _ => ⟨f1231, rfl⟩) (wlit 88 (by decide)) b1232 rfl dX11_init_578 (fun s1233 es1233 => ?_)
  replace h := h s1233 es1233
  have f1234 := kI (Or.inl ⟨_, _, _, es1233⟩) f1231
  refine j_dup hc dX11_init_579 rfl ?_
  refine j_bipush hc dX11_init_580 (by decide) ?_
  refine j_bipush hc dX11_init_582 (by decide) ?_
  obtain ⟨b1235, h⟩ := h
  refine j_bast (jn := 89) hc (fun _ => ⟨f1234, rfl⟩) (wlit 89 (by decide)) b1235 rfl dX11_init_584 (fun s1236 es1236 => ?_)
  replace h := h s1236 es1236
  have f1237 := kI (Or.inl ⟨_, _, _, es1236⟩) f1234
  refine j_dup hc dX11_init_585 rfl ?_
  refine j_bipush hc dX11_init_586 (by decide) ?_
  refine j_bipush hc dX11_init_588 (by decide) ?_
  obtain ⟨b1238, h⟩ := h
  refine j_bast (jn := 90) hc (fun _ => ⟨f1237, rfl⟩) (wlit 90 (by decide)) b1238 rfl dX11_init_590 (fun s1239 es1239 => ?_)
  replace h := h s1239 es1239
  have f1240 := kI (Or.inl ⟨_, _, _, es1239⟩) f1237
  refine j_dup hc dX11_init_591 rfl ?_
  refine j_bipush hc dX11_init_592 (by decide) ?_
  refine j_bipush hc dX11_init_594 (by decide) ?_
  obtain ⟨b1241, h⟩ := h
  refine j_bast (jn := 91) hc (fun _ => ⟨f1240, rfl⟩) (wlit 91 (by decide)) b1241 rfl dX11_init_596 (fun s1242 es1242 => ?_)
  replace h := h s1242 es1242
  have f1243 := kI (Or.inl ⟨_, _, _, es1242⟩) f1240
  refine j_dup hc dX11_init_597 rfl ?_
  refine j_bipush hc dX11_init_598 (by decide) ?_
  refine j_bipush hc dX11_init_600 (by decide) ?_
  obtain ⟨b1244, h⟩ := h
  refine j_bast (jn := 92) hc (fun _ => ⟨f1243, rfl⟩) (wlit 92 (by decide)) b1244 rfl dX11_init_602 (fun s1245 es1245 => ?_)
  replace h := h s1245 es1245
  have f1246 := kI (Or.inl ⟨_, _, _, es1245⟩) f1243
  refine j_dup hc dX11_init_603 rfl ?_
  refine j_bipush hc dX11_init_604 (by decide) ?_
  refine j_bipush hc dX11_init_606 (by decide) ?_
  obtain ⟨b1247, h⟩ := h
  refine j_bast (jn := 93) hc (fun _ => ⟨f1246, rfl⟩) (wlit 93 (by decide)) b1247 rfl dX11_init_608 (fun s1248 es1248 => ?_)
  replace h := h s1248 es1248
  have f1249 := kI (Or.inl ⟨_, _, _, es1248⟩) f1246
  refine j_dup hc dX11_init_609 rfl ?_
  refine j_bipush hc dX11_init_610 (by decide) ?_
  refine j_bipush hc dX11_init_612 (by decide) ?_
  obtain ⟨b1250, h⟩ := h
  refine j_bast (jn := 94) hc (fun _ => ⟨f1249, rfl⟩) (wlit 94 (by decide)) b1250 rfl dX11_init_614 (fun s1251 es1251 => ?_)
  replace h := h s1251 es1251
  have f1252 := kI (Or.inl ⟨_, _, _, es1251⟩) f1249
  refine j_dup hc dX11_init_615 rfl ?_
  refine j_bipush hc dX11_init_616 (by decide) ?_
  refine j_bipush hc dX11_init_618 (by decide) ?_
  obtain ⟨b1253, h⟩ := h
  refine j_bast (jn := 95) hc (fun _ => ⟨f1252, rfl⟩) (wlit 95 (by decide)) b1253 rfl dX11_init_620 (fun s1254 es1254 => ?_)
  replace h := h s1254 es1254
  have f1255 := kI (Or.inl ⟨_, _, _, es1254⟩) f1252
  refine j_dup hc dX11_init_621 rfl ?_
  refine j_bipush hc dX11_init_622 (by decide) ?_
  refine j_bipush hc dX11_init_624 (by decide) ?_
  obtain ⟨b1256, h⟩ := h
  refine j_bast (jn := 96) hc (fun _ => ⟨f1255, rfl⟩) (wlit 96 (by decide)) b1256 rfl dX11_init_626 (fun s1257 es1257 => ?_)
  replace h := h s1257 es1257
  have f1258 := kI (Or.inl ⟨_, _, _, es1257⟩) f1255
  refine j_dup hc dX11_init_627 rfl ?_
  refine j_bipush hc dX11_init_628 (by decide) ?_
  refine j_bipush hc dX11_init_630 (by decide) ?_
  obtain ⟨b1259, h⟩ := h
  refine j_bast (jn := 97) hc (fun _ => ⟨f1258, rfl⟩) (wlit 97 (by decide)) b1259 rfl dX11_init_632 (fun s1260 es1260 => ?_)
  replace h := h s1260 es1260
  have f1261 := kI (Or.inl ⟨_, _, _, es1260⟩) f1258
  refine j_dup hc dX11_init_633 rfl ?_
  refine j_bipush hc dX11_init_634 (by decide) ?_
  refine j_bipush hc dX11_init_636 (by decide) ?_
  obtain ⟨b1262, h⟩ := h
  refine j_bast (jn := 98) hc (fun _ => ⟨f1261, rfl⟩) (wlit 98 (by decide)) b1262 rfl dX11_init_638 (fun s1263 es1263 => ?_)
  replace h := h s1263 es1263
  have f1264 := kI (Or.inl ⟨_, _, _, es1263⟩) f1261
  refine j_dup hc dX11_init_639 rfl ?_
  refine j_bipush hc dX11_init_640 (by decide) ?_
  refine j_bipush hc dX11_init_642 (by decide) ?_
  obtain ⟨b1265, h⟩ := h
  refine j_bast (jn := 99) hc (fun _ => ⟨f1264, rfl⟩) (wlit 99 (by decide)) b1265 rfl dX11_init_644 (fun s1266 es1266 => ?_)
  replace h := h s1266 es1266
  have f1267 := kI (Or.inl ⟨_, _, _, es1266⟩) f1264
  refine j_dup hc dX11_init_645 rfl ?_
  refine j_bipush hc dX11_init_646 (by decide) ?_
  refine j_bipush hc dX11_init_648 (by decide) ?_
  obtain ⟨b1268, h⟩ := h
  refine j_bast (jn := 100) hc (fun _ => ⟨f1267, rfl⟩) (wlit 100 (by decide)) b1268 rfl dX11_init_650 (fun s1269 es1269 => ?_)
  replace h := h s1269 es1269
  have f1270 := kI (Or.inl ⟨_, _, _, es1269⟩) f1267
  refine j_dup hc dX11_init_651 rfl ?_
  refine j_bipush hc dX11_init_652 (by decide) ?_
  refine j_bipush hc dX11_init_654 (by decide) ?_
  obtain ⟨b1271, h⟩ := h
  refine j_bast (jn := 101) hc (fun _ => ⟨f1270, rfl⟩) (wlit 101 (by decide)) b1271 rfl dX11_init_656 (fun s1272 es1272 => ?_)
  replace h := h s1272 es1272
  have f1273 := kI (Or.inl ⟨_, _, _, es1272⟩) f1270
  refine j_dup hc dX11_init_657 rfl ?_
  refine j_bipush hc dX11_init_658 (by decide) ?_
  refine j_bipush hc dX11_init_660 (by decide) ?_
  obtain ⟨b1274, h⟩ := h
  refine j_bast (jn := 102) hc (fun _ => ⟨f1273, rfl⟩) (wlit 102 (by decide)) b1274 rfl dX11_init_662 (fun s1275 es1275 => ?_)
  replace h := h s1275 es1275
  have f1276 := kI (Or.inl ⟨_, _, _, es1275⟩) f1273
  refine j_dup hc dX11_init_663 rfl ?_
  refine j_bipush hc dX11_init_664 (by decide) ?_
  refine j_bipush hc dX11_init_666 (by decide) ?_
  obtain ⟨b1277, h⟩ := h
  refine j_bast (jn := 103) hc (fun _ => ⟨f1276, rfl⟩) (wlit 103 (by decide)) b1277 rfl dX11_init_668 (fun s1278 es1278 => ?_)
  replace h := h s1278 es1278
  have f1279 := kI (Or.inl ⟨_, _, _, es1278⟩) f1276
  refine j_dup hc dX11_init_669 rfl ?_
  refine j_bipush hc dX11_init_670 (by decide) ?_
  refine j_bipush hc dX11_init_672 (by decide) ?_
  obtain ⟨b1280, h⟩ := h
  refine j_bast (jn := 104) hc (fun _ => ⟨f1279, rfl⟩) (wlit 104 (by decide)) b1280 rfl dX11_init_674 (fun s1281 es1281 => ?_)
  replace h := h s1281 es1281
  have f1282 := kI (Or.inl ⟨_, _, _, es1281⟩) f1279
  refine j_dup hc dX11_init_675 rfl ?_
  refine j_bipush hc dX11_init_676 (by decide) ?_
  refine j_bipush hc dX11_init_678 (by decide) ?_
  obtain ⟨b1283, h⟩ := h
  refine j_bast (jn := 105) hc (fun _ => ⟨f1282, rfl⟩) (wlit 105 (by decide)) b1283 rfl dX11_init_680 (fun s1284 es1284 => ?_)
  replace h := h s1284 es1284
  have f1285 := kI (Or.inl ⟨_, _, _, es1284⟩) f1282
  refine j_dup hc dX11_init_681 rfl ?_
  refine j_bipush hc dX11_init_682 (by decide) ?_
  refine j_bipush hc dX11_init_684 (by decide) ?_
  obtain ⟨b1286, h⟩ := h
  refine j_bast (jn := 106) hc (fun _ => ⟨f1285, rfl⟩) (wlit 106 (by decide)) b1286 rfl dX11_init_686 (fun s1287 es1287 => ?_)
  replace h := h s1287 es1287
  have f1288 := kI (Or.inl ⟨_, _, _, es1287⟩) f1285
  refine j_dup hc dX11_init_687 rfl ?_
  refine j_bipush hc dX11_init_688 (by decide) ?_
  refine j_bipush hc dX11_init_690 (by decide) ?_
  obtain ⟨b1289, h⟩ := h
  refine j_bast (jn := 107) hc (fun _ => ⟨f1288, rfl⟩) (wlit 107 (by decide)) b1289 rfl dX11_init_692 (fun s1290 es1290 => ?_)
  replace h := h s1290 es1290
  have f1291 := kI (Or.inl ⟨_, _, _, es1290⟩) f1288
  refine j_dup hc dX11_init_693 rfl ?_
  refine j_bipush hc dX11_init_694 (by decide) ?_
  refine j_bipush hc dX11_init_696 (by decide) ?_
  obtain ⟨b1292, h⟩ := h
  refine j_bast (jn := 108) hc (fun _ => ⟨f1291, rfl⟩) (wlit 108 (by decide)) b1292 rfl dX11_init_698 (fun s1293 es1293 => ?_)
  replace h := h s1293 es1293
  have f1294 := kI (Or.inl ⟨_, _, _, es1293⟩) f1291
  refine j_dup hc dX11_init_699 rfl ?_
  refine j_bipush hc dX11_init_700 (by decide) ?_
  refine j_bipush hc dX11_init_702 (by decide) ?_
  obtain ⟨b1295, h⟩ := h
  refine j_bast (jn := 109) hc (fun _ => ⟨f1294, rfl⟩) (wlit 109 (by decide)) b1295 rfl dX11_init_704 (fun s1296 es1296 => ?_)
  replace h := h s1296 es1296
  have f1297 := kI (Or.inl ⟨_, _, _, es1296⟩) f1294
  refine j_dup hc dX11_init_705 rfl ?_
  refine j_bipush hc dX11_init_706 (by decide) ?_
  refine j_bipush hc dX11_init_708 (by decide) ?_
  obtain ⟨b1298, h⟩ := h
  refine j_bast (jn := 110) hc (fun _ => ⟨f1297, rfl⟩) (wlit 110 (by decide)) b1298 rfl dX11_init_710 (fun s1299 es1299 => ?_)
  replace h := h s1299 es1299
  have f1300 := kI (Or.inl ⟨_, _, _, es1299⟩) f1297
  refine j_dup hc dX11_init_711 rfl ?_
  refine j_bipush hc dX11_init_712 (by decide) ?_
  refine j_bipush hc dX11_init_714 (by decide) ?_
  obtain ⟨b1301, h⟩ := h
  refine j_bast (jn := 111) hc (fun _ => ⟨f1300, rfl⟩) (wlit 111 (by decide)) b1301 rfl dX11_init_716 (fun s1302 es1302 => ?_)
  replace h := h s1302 es1302
  have f1303 := kI (Or.inl ⟨_, _, _, es1302⟩) f1300
  refine j_dup hc dX11_init_717 rfl ?_
  refine j_bipush hc dX11_init_718 (by decide) ?_
  refine j_bipush hc dX11_init_720 (by decide) ?_
  obtain ⟨b1304, h⟩ := h
  refine j_bast (jn := 112) hc (fun _ => ⟨f1303, rfl⟩) (wlit 112 (by decide)) b1304 rfl dX11_init_722 (fun s1305 es1305 => ?_)
  replace h := h s1305 es1305
  have f1306 := kI (Or.inl ⟨_, _, _, es1305⟩) f1303
  refine j_dup hc dX11_init_723 rfl ?_
  refine j_bipush hc dX11_init_724 (by decide) ?_
  refine j_bipush hc dX11_init_726 (by decide) ?_
  obtain ⟨b1307, h⟩ := h
  refine j_bast (jn := 113) hc (fun _ => ⟨f1306, rfl⟩) (wlit 113 (by decide)) b1307 rfl dX11_init_728 (fun s1308 es1308 => ?_)
  replace h := h s1308 es1308
  have f1309 := kI (Or.inl ⟨_, _, _, es1308⟩) f1306
  refine j_dup hc dX11_init_729 rfl ?_
  refine j_bipush hc dX11_init_730 (by decide) ?_
  refine j_bipush hc dX11_init_732 (by decide) ?_
  obtain ⟨b1310, h⟩ := h
  refine j_bast (jn := 114) hc (fun _ => ⟨f1309, rfl⟩) (wlit 114 (by decide)) b1310 rfl dX11_init_734 (fun s1311 es1311 => ?_)
  replace h := h s1311 es1311
  have f1312 := kI (Or.inl ⟨_, _, _, es1311⟩) f1309
  refine j_dup hc dX11_init_735 rfl ?_
  refine j_bipush hc dX11_init_736 (by decide) ?_
  refine j_bipush hc dX11_init_738 (by decide) ?_
  obtain ⟨b1313, h⟩ := h
  refine j_bast (jn := 115) hc (fun _ => ⟨f1312, rfl⟩) (wlit 115 (by decide)) b1313 rfl dX11_init_740 (fun s1314 es1314 => ?_)
  replace h := h s1314 es1314
  have f1315 := kI (Or.inl ⟨_, _, _, es1314⟩) f1312
  refine j_dup hc dX11_init_741 rfl ?_
  refine j_bipush hc dX11_init_742 (by decide) ?_
  refine j_bipush hc dX11_init_744 (by decide) ?_
  obtain ⟨b1316, h⟩ := h
  refine j_bast (jn := 116) hc (fun _ => ⟨f1315, rfl⟩) (wlit 116 (by decide)) b1316 rfl dX11_init_746 (fun s1317 es1317 => ?_)
  replace h := h s1317 es1317
  have f1318 := kI (Or.inl ⟨_, _, _, es1317⟩) f1315
  refine j_dup hc dX11_init_747 rfl ?_
  refine j_bipush hc dX11_init_748 (by decide) ?_
  refine j_bipush hc dX11_init_750 (by decide) ?_
  obtain ⟨b1319, h⟩ := h
  refine j_bast (jn := 117) hc (fun _ => ⟨f1318, rfl⟩) (wlit 117 (by decide)) b1319 rfl dX11_init_752 (fun s1320 es1320 => ?_)
  replace h := h s1320 es1320
  have f1321 := kI (Or.inl ⟨_, _, _, es1320⟩) f1318
  refine j_dup hc dX11_init_753 rfl ?_
  refine j_bipush hc dX11_init_754 (by decide) ?_
  refine j_bipush hc dX11_init_756 (by decide) ?_
  obtain ⟨b1322, h⟩ := h
  refine j_bast (jn := 118) hc (fun _ => ⟨f1321, rfl⟩) (wlit 118 (by decide)) b1322 rfl dX11_init_758 (fun s1323 es1323 => ?_)
  replace h := h s1323 es1323
  have f1324 := kI (Or.inl ⟨_, _, _, es1323⟩) f1321
  refine j_dup hc dX11_init_759 rfl ?_
  refine j_bipush hc dX11_init_760 (by decide) ?_
  refine j_bipush hc dX11_init_762 (by decide) ?_
  obtain ⟨b1325, h⟩ := h
  refine j_bast (jn := 119) hc (fun _ => ⟨f1324, rfl⟩) (wlit 119 (by decide)) b1325 rfl dX11_init_764 (fun s1326 es1326 => ?_)
  replace h := h s1326 es1326
  have f1327 := kI (Or.inl ⟨_, _, _, es1326⟩) f1324
  refine j_dup hc dX11_init_765 rfl ?_
  refine j_bipush hc dX11_init_766 (by decide) ?_
  refine j_bipush hc dX11_init_768 (by decide) ?_
  obtain ⟨b1328, h⟩ := h
  refine j_bast (jn := 120) hc (fun _ => ⟨f1327, rfl⟩) (wlit 120 (by decide)) b1328 rfl dX11_init_770 (fun s1329 es1329 => ?_)
  replace h := h s1329 es1329
  have f1330 := kI (Or.inl ⟨_, _, _, es1329⟩) f1327
  refine j_dup hc dX11_init_771 rfl ?_
  refine j_bipush hc dX11_init_772 (by decide) ?_
  refine j_bipush hc dX11_init_774 (by decide) ?_
  obtain ⟨b1331, h⟩ := h
  refine j_bast (jn := 121) hc (fun _ => ⟨f1330, rfl⟩) (wlit 121 (by decide)) b1331 rfl dX11_init_776 (fun s1332 es1332 => ?_)
  replace h := h s1332 es1332
  have f1333 := kI (Or.inl ⟨_, _, _, es1332⟩) f1330
  refine j_dup hc dX11_init_777 rfl ?_
  refine j_bipush hc dX11_init_778 (by decide) ?_
  refine j_bipush hc dX11_init_780 (by decide) ?_
  obtain ⟨b1334, h⟩ := h
  refine j_bast (jn := 122) hc (fun _ => ⟨f1333, rfl⟩) (wlit 122 (by decide)) b1334 rfl dX11_init_782 (fun s1335 es1335 => ?_)
  replace h := h s1335 es1335
  have f1336 := kI (Or.inl ⟨_, _, _, es1335⟩) f1333
  refine j_dup hc dX11_init_783 rfl ?_
  refine j_bipush hc dX11_init_784 (by decide) ?_
  refine j_bipush hc dX11_init_786 (by decide) ?_
  obtain ⟨b1337, h⟩ := h
  refine j_bast (jn := 123) hc (fun _ => ⟨f1336, rfl⟩) (wlit 123 (by decide)) b1337 rfl dX11_init_788 (fun s1338 es1338 => ?_)
  replace h := h s1338 es1338
  have f1339 := kI (Or.inl ⟨_, _, _, es1338⟩) f1336
  refine j_dup hc dX11_init_789 rfl ?_
  refine j_bipush hc dX11_init_790 (by decide) ?_
  refine j_bipush hc dX11_init_792 (by decide) ?_
  obtain ⟨b1340, h⟩ := h
  refine j_bast (jn := 124) hc (fun _ => ⟨f1339, rfl⟩) (wlit 124 (by decide)) b1340 rfl dX11_init_794 (fun s1341 es1341 => ?_)
  replace h := h s1341 es1341
  have f1342 := kI (Or.inl ⟨_, _, _, es1341⟩) f1339
  refine j_dup hc dX11_init_795 rfl ?_
  refine j_bipush hc dX11_init_796 (by decide) ?_
  refine j_bipush hc dX11_init_798 (by decide) ?_
  obtain ⟨b1343, h⟩ := h
  refine j_bast (jn := 125) hc (fun _ => ⟨f1342, rfl⟩) (wlit 125 (by decide)) b1343 rfl dX11_init_800 (fun s1344 es1344 => ?_)
  replace h := h s1344 es1344
  have f1345 := kI (Or.inl ⟨_, _, _, es1344⟩) f1342
  refine j_dup hc dX11_init_801 rfl ?_
  refine j_bipush hc dX11_init_802 (by decide) ?_
  refine j_bipush hc dX11_init_804 (by decide) ?_
  obtain ⟨b1346, h⟩ := h
  refine j_bast (jn := 126) hc (fun _ => ⟨f1345, rfl⟩) (wlit 126 (by decide)) b1346 rfl dX11_init_806 (fun s1347 es1347 => ?_)
  replace h := h s1347 es1347
  have f1348 := kI (Or.inl ⟨_, _, _, es1347⟩) f1345
  refine j_dup hc dX11_init_807 rfl ?_
  refine j_bipush hc dX11_init_808 (by decide) ?_
  refine j_bipush hc dX11_init_810 (by decide) ?_
  obtain ⟨b1349, h⟩ := h
  refine j_bast (jn := 127) hc (fun _ => ⟨f1348, rfl⟩) (wlit 127 (by decide)) b1349 rfl dX11_init_812 (fun s1350 es1350 => ?_)
  replace h := h s1350 es1350
  have f1351 := kI (Or.inl ⟨_, _, _, es1350⟩) f1348
  refine j_dup hc dX11_init_813 rfl ?_
  refine j_sipush hc dX11_init_814 (by decide) ?_
  refine j_bipush hc dX11_init_817 (by decide) ?_
  obtain ⟨b1352, h⟩ := h
  refine j_bast (jn := 128) hc (fun _ => ⟨f1351, rfl⟩) (wlit 128 (by decide)) b1352 rfl dX11_init_819 (fun s1353 es1353 => ?_)
  replace h := h s1353 es1353
  have f1354 := kI (Or.inl ⟨_, _, _, es1353⟩) f1351
  refine j_dup hc dX11_init_820 rfl ?_
  refine j_sipush hc dX11_init_821 (by decide) ?_
  refine j_bipush hc dX11_init_824 (by decide) ?_
  obtain ⟨b1355, h⟩ := h
  refine j_bast (jn := 129) hc (fun _ => ⟨f1354, rfl⟩) (wlit 129 (by decide)) b1355 rfl dX11_init_826 (fun s1356 es1356 => ?_)
  replace h := h s1356 es1356
  have f1357 := kI (Or.inl ⟨_, _, _, es1356⟩) f1354
  refine j_dup hc dX11_init_827 rfl ?_
  refine j_sipush hc dX11_init_828 (by decide) ?_
  refine j_bipush hc dX11_init_831 (by decide) ?_
  obtain ⟨b1358, h⟩ := h
  refine j_bast (jn := 130) hc (fun _ => ⟨f1357, rfl⟩) (wlit 130 (by decide)) b1358 rfl dX11_init_833 (fun s1359 es1359 => ?_)
  replace h := h s1359 es1359
  have f1360 := kI (Or.inl ⟨_, _, _, es1359⟩) f1357
  refine j_dup hc dX11_init_834 rfl ?_
  refine j_sipush hc dX11_init_835 (by decide) ?_
  refine j_bipush hc dX11_init_838 (by decide) ?_
  obtain ⟨b1361, h⟩ := h
  refine j_bast (jn := 131) hc (fun _ => ⟨f1360, rfl⟩) (wlit 131 (by decide)) b1361 rfl dX11_init_840 (fun s1362 es1362 => ?_)
  replace h := h s1362 es1362
  have f1363 := kI (Or.inl ⟨_, _, _, es1362⟩) f1360
  refine j_dup hc dX11_init_841 rfl ?_
  refine j_sipush hc dX11_init_842 (by decide) ?_
  refine j_bipush hc dX11_init_845 (by decide) ?_
  obtain ⟨b1364, h⟩ := h
  refine j_bast (jn := 132) hc (fun _ => ⟨f1363, rfl⟩) (wlit 132 (by decide)) b1364 rfl dX11_init_847 (fun s1365 es1365 => ?_)
  replace h := h s1365 es1365
  have f1366 := kI (Or.inl ⟨_, _, _, es1365⟩) f1363
  refine j_dup hc dX11_init_848 rfl ?_
  refine j_sipush hc dX11_init_849 (by decide) ?_
  refine j_bipush hc dX11_init_852 (by decide) ?_
  obtain ⟨b1367, h⟩ := h
  refine j_bast (jn := 133) hc (fun _ => ⟨f1366, rfl⟩) (wlit 133 (by decide)) b1367 rfl dX11_init_854 (fun s1368 es1368 => ?_)
  replace h := h s1368 es1368
  have f1369 := kI (Or.inl ⟨_, _, _, es1368⟩) f1366
  refine j_dup hc dX11_init_855 rfl ?_
  refine j_sipush hc dX11_init_856 (by decide) ?_
  refine j_bipush hc dX11_init_859 (by decide) ?_
  obtain ⟨b1370, h⟩ := h
  refine j_bast (jn := 134) hc (fun _ => ⟨f1369, rfl⟩) (wlit 134 (by decide)) b1370 rfl dX11_init_861 (fun s1371 es1371 => ?_)
  replace h := h s1371 es1371
  have f1372 := kI (Or.inl ⟨_, _, _, es1371⟩) f1369
  refine j_dup hc dX11_init_862 rfl ?_
  refine j_sipush hc dX11_init_863 (by decide) ?_
  refine j_bipush hc dX11_init_866 (by decide) ?_
  obtain ⟨b1373, h⟩ := h
  refine j_bast (jn := 135) hc (fun _ => ⟨f1372, rfl⟩) (wlit 135 (by decide)) b1373 rfl dX11_init_868 (fun s1374 es1374 => ?_)
  replace h := h s1374 es1374
  have f1375 := kI (Or.inl ⟨_, _, _, es1374⟩) f1372
  refine j_dup hc dX11_init_869 rfl ?_
  refine j_sipush hc dX11_init_870 (by decide) ?_
  refine j_bipush hc dX11_init_873 (by decide) ?_
  obtain ⟨b1376, h⟩ := h
  refine j_bast (jn := 136) hc (fun _ => ⟨f1375, rfl⟩) (wlit 136 (by decide)) b1376 rfl dX11_init_875 (fun s1377 es1377 => ?_)
  replace h := h s1377 es1377
  have f1378 := kI (Or.inl ⟨_, _, _, es1377⟩) f1375
  refine j_dup hc dX11_init_876 rfl ?_
  refine j_sipush hc dX11_init_877 (by decide) ?_
  refine j_bipush hc dX11_init_880 (by decide) ?_
  obtain ⟨b1379, h⟩ := h
  refine j_bast (jn := 137) hc (fun _ => ⟨f1378, rfl⟩) (wlit 137 (by decide)) b1379 rfl dX11_init_882 (fun s1380 es1380 => ?_)
  replace h := h s1380 es1380
  have f1381 := kI (Or.inl ⟨_, _, _, es1380⟩) f1378
  refine j_dup hc dX11_init_883 rfl ?_
  refine j_sipush hc dX11_init_884 (by decide) ?_
  refine j_bipush hc dX11_init_887 (by decide) ?_
  obtain ⟨b1382, h⟩ := h
  refine j_bast (jn := 138) hc (fun _ => ⟨f1381, rfl⟩) (wlit 138 (by decide)) b1382 rfl dX11_init_889 (fun s1383 es1383 => ?_)
  replace h := h s1383 es1383
  have f1384 := kI (Or.inl ⟨_, _, _, es1383⟩) f1381
  refine j_dup hc dX11_init_890 rfl ?_
  refine j_sipush hc dX11_init_891 (by decide) ?_
  refine j_bipush hc dX11_init_894 (by decide) ?_
  obtain ⟨b1385, h⟩ := h
  refine j_bast (jn := 139) hc (fun _ => ⟨f1384, rfl⟩) (wlit 139 (by decide)) b1385 rfl dX11_init_896 (fun s1386 es1386 => ?_)
  replace h := h s1386 es1386
  have f1387 := kI (Or.inl ⟨_, _, _, es1386⟩) f1384
  refine j_dup hc dX11_init_897 rfl ?_
  refine j_sipush hc dX11_init_898 (by decide) ?_
  refine j_bipush hc dX11_init_901 (by decide) ?_
  obtain ⟨b1388, h⟩ := h
  refine j_bast (jn := 140) hc (fun _ => ⟨f1387, rfl⟩) (wlit 140 (by decide)) b1388 rfl dX11_init_903 (fun s1389 es1389 => ?_)
  replace h := h s1389 es1389
  have f1390 := kI (Or.inl ⟨_, _, _, es1389⟩) f1387
  refine j_dup hc dX11_init_904 rfl ?_
  refine j_sipush hc dX11_init_905 (by decide) ?_
  refine j_bipush hc dX11_init_908 (by decide) ?_
  obtain ⟨b1391, h⟩ := h
  refine j_bast (jn := 141) hc (fun _ => ⟨f1390, rfl⟩) (wlit 141 (by decide)) b1391 rfl dX11_init_910 (fun s1392 es1392 => ?_)
  replace h := h s1392 es1392
  have f1393 := kI (Or.inl ⟨_, _, _, es1392⟩) f1390
  refine j_dup hc dX11_init_911 rfl ?_
  refine j_sipush hc dX11_init_912 (by decide) ?_
  refine j_bipush hc dX11_init_915 (by decide) ?_
  obtain ⟨b1394, h⟩ := h
  refine j_bast (jn := 142) hc (fun _ => ⟨f1393, rfl⟩) (wlit 142 (by decide)) b1394 rfl dX11_init_917 (fun s1395 es1395 => ?_)
  replace h := h s1395 es1395
  have f1396 := kI (Or.inl ⟨_, _, _, es1395⟩) f1393
  refine j_dup hc dX11_init_918 rfl ?_
  refine j_sipush hc dX11_init_919 (by decide) ?_
  refine j_bipush hc dX11_init_922 (by decide) ?_
  obtain ⟨b1397, h⟩ := h
  refine j_bast (jn := 143) hc (fun _ => ⟨f1396, rfl⟩) (wlit 143 (by decide)) b1397 rfl dX11_init_924 (fun s1398 es1398 => ?_)
  replace h := h s1398 es1398
  have f1399 := kI (Or.inl ⟨_, _, _, es1398⟩) f1396
  refine j_dup hc dX11_init_925 rfl ?_
  refine j_sipush hc dX11_init_926 (by decide) ?_
  refine j_bipush hc dX11_init_929 (by decide) ?_
  obtain ⟨b1400, h⟩ := h
  refine j_bast (jn := 144) hc (fun _ => ⟨f1399, rfl⟩) (wlit 144 (by decide)) b1400 rfl dX11_init_931 (fun s1401 es1401 => ?_)
  replace h := h s1401 es1401
  have f1402 := kI (Or.inl ⟨_, _, _, es1401⟩) f1399
  refine j_dup hc dX11_init_932 rfl ?_
  refine j_sipush hc dX11_init_933 (by decide) ?_
  refine j_bipush hc dX11_init_936 (by decide) ?_
  obtain ⟨b1403, h⟩ := h
  refine j_bast (jn := 145) hc (fun _ => ⟨f1402, rfl⟩) (wlit 145 (by decide)) b1403 rfl dX11_init_938 (fun s1404 es1404 => ?_)
  replace h := h s1404 es1404
  have f1405 := kI (Or.inl ⟨_, _, _, es1404⟩) f1402
  refine j_dup hc dX11_init_939 rfl ?_
  refine j_sipush hc dX11_init_940 (by decide) ?_
  refine j_bipush hc dX11_init_943 (by decide) ?_
  obtain ⟨b1406, h⟩ := h
  refine j_bast (jn := 146) hc (fun _ => ⟨f1405, rfl⟩) (wlit 146 (by decide)) b1406 rfl dX11_init_945 (fun s1407 es1407 => ?_)
  replace h := h s1407 es1407
  have f1408 := kI (Or.inl ⟨_, _, _, es1407⟩) f1405
  refine j_dup hc dX11_init_946 rfl ?_
  refine j_sipush hc dX11_init_947 (by decide) ?_
  refine j_bipush hc dX11_init_950 (by decide) ?_
  obtain ⟨b1409, h⟩ := h
  refine j_bast (jn := 147) hc (fun _ => ⟨f1408, rfl⟩) (wlit 147 (by decide)) b1409 rfl dX11_init_952 (fun s1410 es1410 => ?_)
  replace h := h s1410 es1410
  have f1411 := kI (Or.inl ⟨_, _, _, es1410⟩) f1408
  refine j_dup hc dX11_init_953 rfl ?_
  refine j_sipush hc dX11_init_954 (by decide) ?_
  refine j_bipush hc dX11_init_957 (by decide) ?_
  obtain ⟨b1412, h⟩ := h
  refine j_bast (jn := 148) hc (fun _ => ⟨f1411, rfl⟩) (wlit 148 (by decide)) b1412 rfl dX11_init_959 (fun s1413 es1413 => ?_)
  replace h := h s1413 es1413
  have f1414 := kI (Or.inl ⟨_, _, _, es1413⟩) f1411
  refine j_dup hc dX11_init_960 rfl ?_
  refine j_sipush hc dX11_init_961 (by decide) ?_
  refine j_bipush hc dX11_init_964 (by decide) ?_
  obtain ⟨b1415, h⟩ := h
  refine j_bast (jn := 149) hc (fun _ => ⟨f1414, rfl⟩) (wlit 149 (by decide)) b1415 rfl dX11_init_966 (fun s1416 es1416 => ?_)
  replace h := h s1416 es1416
  have f1417 := kI (Or.inl ⟨_, _, _, es1416⟩) f1414
  refine j_dup hc dX11_init_967 rfl ?_
  refine j_sipush hc dX11_init_968 (by decide) ?_
  refine j_bipush hc dX11_init_971 (by decide) ?_
  obtain ⟨b1418, h⟩ := h
  refine j_bast (jn := 150) hc (fun _ => ⟨f1417, rfl⟩) (wlit 150 (by decide)) b1418 rfl dX11_init_973 (fun s1419 es1419 => ?_)
  replace h := h s1419 es1419
  have f1420 := kI (Or.inl ⟨_, _, _, es1419⟩) f1417
  refine j_dup hc dX11_init_974 rfl ?_
  refine j_sipush hc dX11_init_975 (by decide) ?_
  refine j_bipush hc dX11_init_978 (by decide) ?_
  obtain ⟨b1421, h⟩ := h
  refine j_bast (jn := 151) hc (fun _ => ⟨f1420, rfl⟩) (wlit 151 (by decide)) b1421 rfl dX11_init_980 (fun s1422 es1422 => ?_)
  replace h := h s1422 es1422
  have f1423 := kI (Or.inl ⟨_, _, _, es1422⟩) f1420
  refine j_dup hc dX11_init_981 rfl ?_
  refine j_sipush hc dX11_init_982 (by decide) ?_
  refine j_bipush hc dX11_init_985 (by decide) ?_
  obtain ⟨b1424, h⟩ := h
  refine j_bast (jn := 152) hc (fun _ => ⟨f1423, rfl⟩) (wlit 152 (by decide)) b1424 rfl dX11_init_987 (fun s1425 es1425 => ?_)
  replace h := h s1425 es1425
  have f1426 := kI (Or.inl ⟨_, _, _, es1425⟩) f1423
  obtain ⟨f1427, h⟩ := h
  refine j_putR hc fl_RX11_37 rfl (Or.inr ⟨rfl, hnm, rfl⟩) (fun _ => Or.inr f1427) (fun _ => Or.inl f1427) dX11_init_988 (fun s1428 es1428 => ?_)
  replace h := h s1428 es1428
  have f1429 := kI (Or.inr ⟨_, _, _, es1428⟩) f1426
  have f1430 := kI (Or.inr ⟨_, _, _, es1428⟩) f1427
  refine j_aload_nR hc 0 dX11_init_991 rfl rfl ?_
  refine j_sipush hc dX11_init_992 (by decide) ?_
  refine j_newa (N := 400) hc (hM.at hc) nk_2 (by decide) (by decide) (by constructor <;> omega) dX11_init_995 (fun t1431 s1432 et1431 es1432 => ?_)
  replace h := h t1431 s1432 et1431 es1432
  obtain ⟨f1433, h⟩ := h
  refine j_putR hc fl_RX11_41 rfl (Or.inr ⟨rfl, hnm, rfl⟩) (fun _ => Or.inr f1433) (fun _ => Or.inl f1433) dX11_init_997 (fun s1434 es1434 => ?_)
  replace h := h s1434 es1434
  have f1435 := kI (Or.inr ⟨_, _, _, es1434⟩) (kNew et1431 es1432)
  have f1436 := kI (Or.inr ⟨_, _, _, es1434⟩) f1433
  refine j_aload_nR hc 0 dX11_init_1000 rfl rfl ?_
  refine j_iconst hc dX11_init_1001 ?_
  refine j_newa (N := 5) hc (hM.at hc) nk_0 (by decide) (by decide) (by constructor <;> omega) dX11_init_1002 (fun t1437 s1438 et1437 es1438 => ?_)
  replace h := h t1437 s1438 et1437 es1438
  obtain ⟨f1439, h⟩ := h
  refine j_putR hc fl_RX11_44 rfl (Or.inr ⟨rfl, hnm, rfl⟩) (fun _ => Or.inr f1439) (fun _ => Or.inl f1439) dX11_init_1004 (fun s1440 es1440 => ?_)
  replace h := h s1440 es1440
  have f1441 := kI (Or.inr ⟨_, _, _, es1440⟩) (kNew et1437 es1438)
  have f1442 := kI (Or.inr ⟨_, _, _, es1440⟩) f1439
  refine j_aload_nR hc 0 dX11_init_1007 rfl rfl ?_
  refine j_iconst hc dX11_init_1008 ?_
  refine j_putI hc fl_RX11_47 rfl rfl (fun _ => Or.inr f1442) (wlit (-1) (by decide)) dX11_init_1009 (fun s1443 es1443 => ?_)
  replace h := h s1443 es1443
  have f1444 := kI (Or.inl ⟨_, _, _, es1443⟩) f1441
  have f1445 := kI (Or.inl ⟨_, _, _, es1443⟩) f1442
  refine j_aload_nR hc 0 dX11_init_1012 rfl rfl ?_
  refine j_sipush hc dX11_init_1013 (by decide) ?_
  refine j_newa (N := 401) hc (hM.at hc) nk_0 (by decide) (by decide) (by constructor <;> omega) dX11_init_1016 (fun t1446 s1447 et1446 es1447 => ?_)
  replace h := h t1446 s1447 et1446 es1447
  obtain ⟨f1448, h⟩ := h
  refine j_putR hc fl_RX11_50 rfl (Or.inr ⟨rfl, hnm, rfl⟩) (fun _ => Or.inr f1448) (fun _ => Or.inl f1448) dX11_init_1018 (fun s1449 es1449 => ?_)
  replace h := h s1449 es1449
  have f1450 := kI (Or.inr ⟨_, _, _, es1449⟩) (kNew et1446 es1447)
  have f1451 := kI (Or.inr ⟨_, _, _, es1449⟩) f1448
  refine j_aload_nR hc 0 dX11_init_1021 rfl rfl ?_
  refine j_sipush hc dX11_init_1022 (by decide) ?_
  refine j_newa (N := 401) hc (hM.at hc) nk_0 (by decide) (by decide) (by constructor <;> omega) dX11_init_1025 (fun t1452 s1453 et1452 es1453 => ?_)
  replace h := h t1452 s1453 et1452 es1453
  obtain ⟨f1454, h⟩ := h
  refine j_putR hc fl_RX11_53 rfl (Or.inr ⟨rfl, hnm, rfl⟩) (fun _ => Or.inr f1454) (fun _ => Or.inl f1454) dX11_init_1027 (fun s1455 es1455 => ?_)
  replace h := h s1455 es1455
  have f1456 := kI (Or.inr ⟨_, _, _, es1455⟩) (kNew et1452 es1453)
  have f1457 := kI (Or.inr ⟨_, _, _, es1455⟩) f1454
  refine j_aload_nR hc 0 dX11_init_1030 rfl rfl ?_
  refine j_sipush hc dX11_init_1031 (by decide) ?_
  refine j_newa (N := 401) hc (hM.at hc) nk_0 (by decide) (by decide) (by constructor <;> omega) dX11_init_1034 (fun t1458 s1459 et1458 es1459 => ?_)
  replace h := h t1458 s1459 et1458 es1459
  obtain ⟨f1460, h⟩ := h
  refine j_putR hc fl_RX11_56 rfl (Or.inr ⟨rfl, hnm, rfl⟩) (fun _ => Or.inr f1460) (fun _ => Or.inl f1460) dX11_init_1036 (fun s1461 es1461 => ?_)
  replace h := h s1461 es1461
  have f1462 := kI (Or.inr ⟨_, _, _, es1461⟩) (kNew et1458 es1459)
  have f1463 := kI (Or.inr ⟨_, _, _, es1461⟩) f1460
  refine j_aload_nR hc 0 dX11_init_1039 rfl rfl ?_
  refine j_bipush hc dX11_init_1040 (by decide) ?_
  refine j_newa (N := 10) hc (hM.at hc) nk_0 (by decide) (by decide) (by constructor <;> omega) dX11_init_1042 (fun t1464 s1465 et1464 es1465 => ?_)
  replace h := h t1464 s1465 et1464 es1465
  obtain ⟨f1466, h⟩ := h
  refine j_putR hc fl_RX11_59 rfl (Or.inr ⟨rfl, hnm, rfl⟩) (fun _ => Or.inr f1466) (fun _ => Or.inl f1466) dX11_init_1044 (fun s1467 es1467 => ?_)
  replace h := h s1467 es1467
  have f1468 := kI (Or.inr ⟨_, _, _, es1467⟩) (kNew et1464 es1465)
  have f1469 := kI (Or.inr ⟨_, _, _, es1467⟩) f1466
  refine j_aload_nR hc 0 dX11_init_1047 rfl rfl ?_
  refine j_sipush hc dX11_init_1048 (by decide) ?_
  refine j_newa (N := 560) hc (hM.at hc) nk_0 (by decide) (by decide) (by constructor <;> omega) dX11_init_1051 (fun t1470 s1471 et1470 es1471 => ?_)
  replace h := h t1470 s1471 et1470 es1471
  obtain ⟨f1472, h⟩ := h
  refine j_putR hc fl_RX11_62 rfl (Or.inr ⟨rfl, hnm, rfl⟩) (fun _ => Or.inr f1472) (fun _ => Or.inl f1472) dX11_init_1053 (fun s1473 es1473 => ?_)
  replace h := h s1473 es1473
  have f1474 := kI (Or.inr ⟨_, _, _, es1473⟩) (kNew et1470 es1471)
  have f1475 := kI (Or.inr ⟨_, _, _, es1473⟩) f1472
  refine j_aload_nR hc 0 dX11_init_1056 rfl rfl ?_
  refine j_sipush hc dX11_init_1057 (by decide) ?_
  refine j_newa (N := 560) hc (hM.at hc) nk_0 (by decide) (by decide) (by constructor <;> omega) dX11_init_1060 (fun t1476 s1477 et1476 es1477 => ?_)
  replace h := h t1476 s1477 et1476 es1477
  obtain ⟨f1478, h⟩ := h
  refine j_putR hc fl_RX11_65 rfl (Or.inr ⟨rfl, hnm, rfl⟩) (fun _ => Or.inr f1478) (fun _ => Or.inl f1478) dX11_init_1062 (fun s1479 es1479 => ?_)
  replace h := h s1479 es1479
  have f1480 := kI (Or.inr ⟨_, _, _, es1479⟩) (kNew et1476 es1477)
  have f1481 := kI (Or.inr ⟨_, _, _, es1479⟩) f1478
  refine j_aload_nR hc 0 dX11_init_1065 rfl rfl ?_
  refine j_bipush hc dX11_init_1066 (by decide) ?_
  refine j_newa (N := 10) hc (hM.at hc) nk_0 (by decide) (by decide) (by constructor <;> omega) dX11_init_1068 (fun t1482 s1483 et1482 es1483 => ?_)
  replace h := h t1482 s1483 et1482 es1483
  obtain ⟨f1484, h⟩ := h
  refine j_putR hc fl_RX11_68 rfl (Or.inr ⟨rfl, hnm, rfl⟩) (fun _ => Or.inr f1484) (fun _ => Or.inl f1484) dX11_init_1070 (fun s1485 es1485 => ?_)
  replace h := h s1485 es1485
  have f1486 := kI (Or.inr ⟨_, _, _, es1485⟩) (kNew et1482 es1483)
  have f1487 := kI (Or.inr ⟨_, _, _, es1485⟩) f1484
  refine j_aload_nR hc 0 dX11_init_1073 rfl rfl ?_
  refine j_bipush hc dX11_init_1074 (by decide) ?_
  refine j_newa (N := 100) hc (hM.at hc) nk_0 (by decide) (by decide) (by constructor <;> omega) dX11_init_1076 (fun t1488 s1489 et1488 es1489 => ?_)
  replace h := h t1488 s1489 et1488 es1489
  obtain ⟨f1490, h⟩ := h
  refine j_putR hc fl_RX11_71 rfl (Or.inr ⟨rfl, hnm, rfl⟩) (fun _ => Or.inr f1490) (fun _ => Or.inl f1490) dX11_init_1078 (fun s1491 es1491 => ?_)
  replace h := h s1491 es1491
  have f1492 := kI (Or.inr ⟨_, _, _, es1491⟩) (kNew et1488 es1489)
  have f1493 := kI (Or.inr ⟨_, _, _, es1491⟩) f1490
  refine j_aload_nR hc 0 dX11_init_1081 rfl rfl ?_
  refine j_sipush hc dX11_init_1082 (by decide) ?_
  refine j_newa (N := 330) hc (hM.at hc) nk_2 (by decide) (by decide) (by constructor <;> omega) dX11_init_1085 (fun t1494 s1495 et1494 es1495 => ?_)
  replace h := h t1494 s1495 et1494 es1495
  obtain ⟨f1496, h⟩ := h
  refine j_putR hc fl_RX11_74 rfl (Or.inr ⟨rfl, hnm, rfl⟩) (fun _ => Or.inr f1496) (fun _ => Or.inl f1496) dX11_init_1087 (fun s1497 es1497 => ?_)
  replace h := h s1497 es1497
  have f1498 := kI (Or.inr ⟨_, _, _, es1497⟩) (kNew et1494 es1495)
  have f1499 := kI (Or.inr ⟨_, _, _, es1497⟩) f1496
  refine j_aload_nR hc 0 dX11_init_1090 rfl rfl ?_
  refine j_bipush hc dX11_init_1091 (by decide) ?_
  refine j_newa (N := 10) hc (hM.at hc) nk_0 (by decide) (by decide) (by constructor <;> omega) dX11_init_1093 (fun t1500 s1501 et1500 es1501 => ?_)
  replace h := h t1500 s1501 et1500 es1501
  obtain ⟨f1502, h⟩ := h
  refine j_putR hc fl_RX11_77 rfl (Or.inr ⟨rfl, hnm, rfl⟩) (fun _ => Or.inr f1502) (fun _ => Or.inl f1502) dX11_init_1095 (fun s1503 es1503 => ?_)
  replace h := h s1503 es1503
  have f1504 := kI (Or.inr ⟨_, _, _, es1503⟩) (kNew et1500 es1501)
  have f1505 := kI (Or.inr ⟨_, _, _, es1503⟩) f1502
  refine j_aload_nR hc 0 dX11_init_1098 rfl rfl ?_
  refine j_sipush hc dX11_init_1099 (by decide) ?_
  refine j_newa (N := 11264) hc (hM.at hc) nk_2 (by decide) (by decide) (by constructor <;> omega) dX11_init_1102 (fun t1506 s1507 et1506 es1507 => ?_)
  replace h := h t1506 s1507 et1506 es1507
  obtain ⟨f1508, h⟩ := h
  refine j_putR hc fl_RX11_80 rfl (Or.inr ⟨rfl, hnm, rfl⟩) (fun _ => Or.inr f1508) (fun _ => Or.inl f1508) dX11_init_1104 (fun s1509 es1509 => ?_)
  replace h := h s1509 es1509
  have f1510 := kI (Or.inr ⟨_, _, _, es1509⟩) (kNew et1506 es1507)
  have f1511 := kI (Or.inr ⟨_, _, _, es1509⟩) f1508
  refine j_aload_nR hc 0 dX11_init_1107 rfl rfl ?_
  refine j_sipush hc dX11_init_1108 (by decide) ?_
  refine j_newa (N := 11264) hc (hM.at hc) nk_0 (by decide) (by decide) (by constructor <;> omega) dX11_init_1111 (fun t1512 s1513 et1512 es1513 => ?_)
  replace h := h t1512 s1513 et1512 es1513
  obtain ⟨f1514, h⟩ := h
  refine j_putR hc fl_RX11_83 rfl (Or.inr ⟨rfl, hnm, rfl⟩) (fun _ => Or.inr f1514) (fun _ => Or.inl f1514) dX11_init_1113 (fun s1515 es1515 => ?_)
  replace h := h s1515 es1515
  have f1516 := kI (Or.inr ⟨_, _, _, es1515⟩) (kNew et1512 es1513)
  have f1517 := kI (Or.inr ⟨_, _, _, es1515⟩) f1514
  refine j_aload_nR hc 0 dX11_init_1116 rfl rfl ?_
  refine j_sipush hc dX11_init_1117 (by decide) ?_
  refine j_newa (N := 11264) hc (hM.at hc) nk_1 (by decide) (by decide) (by constructor <;> omega) dX11_init_1120 (fun t1518 s1519 et1518 es1519 => ?_)
  replace h := h t1518 s1519 et1518 es1519
  obtain ⟨f1520, h⟩ := h
  refine j_putR hc fl_RX11_86 rfl (Or.inr ⟨rfl, hnm, rfl⟩) (fun _ => Or.inr f1520) (fun _ => Or.inl f1520) dX11_init_1122 (fun s1521 es1521 => ?_)
  replace h := h s1521 es1521
  have f1522 := kI (Or.inr ⟨_, _, _, es1521⟩) (kNew et1518 es1519)
  have f1523 := kI (Or.inr ⟨_, _, _, es1521⟩) f1520
  refine j_aload_nR hc 0 dX11_init_1125 rfl rfl ?_
  refine j_bipush hc dX11_init_1126 (by decide) ?_
  refine j_newa (N := 10) hc (hM.at hc) nk_0 (by decide) (by decide) (by constructor <;> omega) dX11_init_1128 (fun t1524 s1525 et1524 es1525 => ?_)
  replace h := h t1524 s1525 et1524 es1525
  obtain ⟨f1526, h⟩ := h
  refine j_putR hc fl_RX11_90 rfl (Or.inr ⟨rfl, hnm, rfl⟩) (fun _ => Or.inr f1526) (fun _ => Or.inl f1526) dX11_init_1130 (fun s1527 es1527 => ?_)
  replace h := h s1527 es1527
  have f1528 := kI (Or.inr ⟨_, _, _, es1527⟩) (kNew et1524 es1525)
  have f1529 := kI (Or.inr ⟨_, _, _, es1527⟩) f1526
  refine j_aload_nR hc 0 dX11_init_1133 rfl rfl ?_
  refine j_sipush hc dX11_init_1134 (by decide) ?_
  refine j_newa (N := 11264) hc (hM.at hc) nk_3 (by decide) (by decide) (by constructor <;> omega) dX11_init_1137 (fun t1530 s1531 et1530 es1531 => ?_)
  replace h := h t1530 s1531 et1530 es1531
  obtain ⟨f1532, h⟩ := h
  refine j_putR hc fl_RX11_93 rfl (Or.inr ⟨rfl, hnm, rfl⟩) (fun _ => Or.inr f1532) (fun _ => Or.inl f1532) dX11_init_1139 (fun s1533 es1533 => ?_)
  replace h := h s1533 es1533
  have f1534 := kI (Or.inr ⟨_, _, _, es1533⟩) (kNew et1530 es1531)
  have f1535 := kI (Or.inr ⟨_, _, _, es1533⟩) f1532
  refine j_aload_nR hc 0 dX11_init_1142 rfl rfl ?_
  refine j_ldc (x := 180224) hc (by decide) kc_RX11_96 dX11_init_1143 ?_
  refine j_newa (N := 180224) hc (hM.at hc) nk_2 (by decide) (by decide) (by constructor <;> omega) dX11_init_1145 (fun t1536 s1537 et1536 es1537 => ?_)
  replace h := h t1536 s1537 et1536 es1537
  obtain ⟨f1538, h⟩ := h
  refine j_putR hc fl_RX11_97 rfl (Or.inr ⟨rfl, hnm, rfl⟩) (fun _ => Or.inr f1538) (fun _ => Or.inl f1538) dX11_init_1147 (fun s1539 es1539 => ?_)
  replace h := h s1539 es1539
  have f1540 := kI (Or.inr ⟨_, _, _, es1539⟩) (kNew et1536 es1537)
  have f1541 := kI (Or.inr ⟨_, _, _, es1539⟩) f1538
  refine j_aload_nR hc 0 dX11_init_1150 rfl rfl ?_
  refine j_iconst hc dX11_init_1151 ?_
  refine j_putI hc fl_RX11_100 rfl rfl (fun _ => Or.inr f1541) (wlit (-1) (by decide)) dX11_init_1152 (fun s1542 es1542 => ?_)
  replace h := h s1542 es1542
  have f1543 := kI (Or.inl ⟨_, _, _, es1542⟩) f1540
  have f1544 := kI (Or.inl ⟨_, _, _, es1542⟩) f1541
  refine j_aload_nR hc 0 dX11_init_1155 rfl rfl ?_
  refine j_bipush hc dX11_init_1156 (by decide) ?_
  refine j_newa (N := 60) hc (hM.at hc) nk_0 (by decide) (by decide) (by constructor <;> omega) dX11_init_1158 (fun t1545 s1546 et1545 es1546 => ?_)
  replace h := h t1545 s1546 et1545 es1546
  obtain ⟨f1547, h⟩ := h
  refine j_putR hc fl_RX11_103 rfl (Or.inr ⟨rfl, hnm, rfl⟩) (fun _ => Or.inr f1547) (fun _ => Or.inl f1547) dX11_init_1160 (fun s1548 es1548 => ?_)
  replace h := h s1548 es1548
  have f1549 := kI (Or.inr ⟨_, _, _, es1548⟩) (kNew et1545 es1546)
  have f1550 := kI (Or.inr ⟨_, _, _, es1548⟩) f1547
  refine j_aload_nR hc 0 dX11_init_1163 rfl rfl ?_
  refine j_getO hc fl_RX11_24 rfl (fun _ => Or.inr f1550) dX11_init_1164 ?_
  obtain ⟨t1551, et1551, h⟩ := h
  refine j_some et1551 ?_
  refine j_sipush hc dX11_init_1167 (by decide) ?_
  refine j_iconst hc dX11_init_1170 ?_
  obtain ⟨f1552, h⟩ := h
  obtain ⟨b1553, h⟩ := h
  refine j_iast (jn := 254) hc (fun _ => ⟨f1552, rfl⟩) (wlit 254 (by decide)) b1553 rfl (wlit 3 (by decide)) dX11_init_1171 (fun s1554 es1554 => ?_)
  replace h := h s1554 es1554
  have f1555 := kI (Or.inl ⟨_, _, _, es1554⟩) f1549
  have f1556 := kI (Or.inl ⟨_, _, _, es1554⟩) f1550
  have f1557 := kI (Or.inl ⟨_, _, _, es1554⟩) f1552
  refine j_aload_nR hc 0 dX11_init_1172 rfl rfl ?_
  refine j_getO hc fl_RX11_24 rfl (fun _ => Or.inr f1556) dX11_init_1173 ?_
  obtain ⟨t1558, et1558, h⟩ := h
  refine j_some et1558 ?_
  refine j_sipush hc dX11_init_1176 (by decide) ?_
  refine j_iconst hc dX11_init_1179 ?_
  obtain ⟨f1559, h⟩ := h
  obtain ⟨b1560, h⟩ := h
  refine j_iast (jn := 258) hc (fun _ => ⟨f1559, rfl⟩) (wlit 258 (by decide)) b1560 rfl (wlit (-1) (by decide)) dX11_init_1180 (fun s1561 es1561 => ?_)
  replace h := h s1561 es1561
  have f1562 := kI (Or.inl ⟨_, _, _, es1561⟩) f1555
  have f1563 := kI (Or.inl ⟨_, _, _, es1561⟩) f1556
  have f1564 := kI (Or.inl ⟨_, _, _, es1561⟩) f1557
  have f1565 := kI (Or.inl ⟨_, _, _, es1561⟩) f1559
  refine j_wide (slots' := 246332) (by omega) ?_
  exact j_vret hc hr h dX11_init_1181
