def f_X8_aboutRod (x1 : Int32) (x2 : Int32) (σ : gs_H) : Option (Int32) :=
if x2 = 0 then (
if inb ((2 : Int32) * x1) 10 then
some (σ 10 ((2 : Int32) * x1).toNatClampNeg) else none)
else (
if x2 = 1 then (
if inb (((2 : Int32) * x1) + (1 : Int32)) 10 then
some (σ 10 (((2 : Int32) * x1) + (1 : Int32)).toNatClampNeg) else none)
else (
if x2 = 2 then (
(f_X3_hangingFrom ((2 : Int32) * x1) σ).bind fun q4 =>
some q4)
else (
if x2 = 3 then (
(f_X3_hangingFrom (((2 : Int32) * x1) + (1 : Int32)) σ).bind fun q5 =>
some q5)
else (
if x2 = 4 then (
if inb ((2 : Int32) * x1) 10 then
some ((σ 36 ((2 : Int32) * x1).toNatClampNeg) + (10000 : Int32)) else none)
else (
if x2 = 5 then (
if inb (((2 : Int32) * x1) + (1 : Int32)) 10 then
some ((σ 36 (((2 : Int32) * x1) + (1 : Int32)).toNatClampNeg) + (10000 : Int32)) else none)
else (
if x2 = 6 then (
if inb x1 5 then
some ((σ 37 x1.toNatClampNeg) + (10000 : Int32)) else none)
else (
if x2 = 7 then (
if inb x1 5 then
if (σ 37 x1.toNatClampNeg) = 0 then (
some (1 : Int32))
else (
some (0 : Int32)) else none)
else (
if x2 = 8 then (
if inb x1 5 then
if (σ 38 x1.toNatClampNeg) = 0 then (
some (0 : Int32))
else (
some (1 : Int32)) else none)
else (
if x2 = 9 then (
(f_X6_hookFor x1 σ).bind fun q13 =>
some q13)
else (
(f_X6_beadToAdd x1 σ).bind fun q14 =>
some q14))))))))))
set_option maxHeartbeats 4000000 in
set_option maxRecDepth 20000 in
theorem m_X8_aboutRod {E : gs_E} {l : Launch} {x1 : Int32} {x2 : Int32} {σ : gs_H} {g : Int64} {r0 : Int32} (h : f_X8_aboutRod x1 x2 σ = some r0) : gs_M l E yX8_aboutRod cX8_aboutRod 3 (some .int) (1, 24) [.ref (gs_a E 0), .int x1, .int x2] σ g (some (.int r0)) σ g := by
  refine x_enter (lv := [(0, .ref (gs_a E 0)), (1, .int x1), (2, .int x2)]) (by decide +kernel) (Nat.le_of_ble_eq_true rfl) rfl (fun p e s m args below meth c C hr => ?_)
  unfold f_X8_aboutRod at h
  refine x_iload_n C dX8_aboutRod_0 rfl 2 rfl ?_
  by_cases hs1_0 : x2 = 0
  · replace h := (if_pos hs1_0).symm.trans h
    refine x_tsw C dX8_aboutRod_1 0 hs1_0 (by decide) (by decide) (off := 55) rfl (tgt := 56) (by decide) ?_
    refine x_aload_n C dX8_aboutRod_56 rfl 0 rfl ?_
    refine x_getr C 0 rfl rfl inX8 2 (by decide) rfl kF_X8_26 rfl dX8_aboutRod_57 ?_
    refine x_getr C 9 rfl rfl inX3 3 (by decide) rfl kF_X8_135 rfl dX8_aboutRod_60 ?_
    refine x_iconst C dX8_aboutRod_63 (v := 2) (by decide) ?_
    refine x_iload_n C dX8_aboutRod_64 rfl 1 rfl ?_
    refine x_imul C dX8_aboutRod_65 ?_
    obtain ⟨hb2, h⟩ := ck_some h
    refine x_iald C 10 rfl hb2 (v := (σ 10 ((2 : Int32) * x1).toNatClampNeg)) rfl dX8_aboutRod_66 ?_
    replace h := Option.some.inj h
    subst h
    exact x_ret C hr rfl rfl dX8_aboutRod_67
  · replace h := (if_neg hs1_0).symm.trans h
    by_cases hs1_1 : x2 = 1
    · replace h := (if_pos hs1_1).symm.trans h
      refine x_tsw C dX8_aboutRod_1 1 hs1_1 (by decide) (by decide) (off := 67) rfl (tgt := 68) (by decide) ?_
      refine x_aload_n C dX8_aboutRod_68 rfl 0 rfl ?_
      refine x_getr C 0 rfl rfl inX8 2 (by decide) rfl kF_X8_26 rfl dX8_aboutRod_69 ?_
      refine x_getr C 9 rfl rfl inX3 3 (by decide) rfl kF_X8_135 rfl dX8_aboutRod_72 ?_
      refine x_iconst C dX8_aboutRod_75 (v := 2) (by decide) ?_
      refine x_iload_n C dX8_aboutRod_76 rfl 1 rfl ?_
      refine x_imul C dX8_aboutRod_77 ?_
      refine x_iconst C dX8_aboutRod_78 (v := 1) (by decide) ?_
      refine x_iadd C dX8_aboutRod_79 ?_
      obtain ⟨hb3, h⟩ := ck_some h
      refine x_iald C 10 rfl hb3 (v := (σ 10 (((2 : Int32) * x1) + (1 : Int32)).toNatClampNeg)) rfl dX8_aboutRod_80 ?_
      replace h := Option.some.inj h
      subst h
      exact x_ret C hr rfl rfl dX8_aboutRod_81
    · replace h := (if_neg hs1_1).symm.trans h
      by_cases hs1_2 : x2 = 2
      · replace h := (if_pos hs1_2).symm.trans h
        refine x_tsw C dX8_aboutRod_1 2 hs1_2 (by decide) (by decide) (off := 81) rfl (tgt := 82) (by decide) ?_
        refine x_aload_n C dX8_aboutRod_82 rfl 0 rfl ?_
        refine x_getr C 0 rfl rfl inX8 2 (by decide) rfl kF_X8_26 rfl dX8_aboutRod_83 ?_
        refine x_iconst C dX8_aboutRod_86 (v := 2) (by decide) ?_
        refine x_iload_n C dX8_aboutRod_87 rfl 1 rfl ?_
        refine x_imul C dX8_aboutRod_88 ?_
        obtain ⟨v4, hv4, h⟩ := Option.bind_eq_some_iff.mp h
        refine x_callV C 9 (m_X3_hangingFrom hv4) rfl rfl kM_X8_237 kI_X3_hangingFrom kS_X3_hangingFrom kN_X3 kC_X3_hangingFrom kD_X3_hangingFrom rfl ⟨Nat.le_of_ble_eq_true rfl, Nat.le_of_ble_eq_true rfl⟩ ⟨Nat.le_refl _, Nat.le_refl _⟩ (rest := []) rfl (Nat.le_of_ble_eq_true rfl) dX8_aboutRod_89 (st' := [.int v4]) rfl ?_
        replace h := Option.some.inj h
        subst h
        exact x_ret C hr rfl rfl dX8_aboutRod_92
      · replace h := (if_neg hs1_2).symm.trans h
        by_cases hs1_3 : x2 = 3
        · replace h := (if_pos hs1_3).symm.trans h
          refine x_tsw C dX8_aboutRod_1 3 hs1_3 (by decide) (by decide) (off := 92) rfl (tgt := 93) (by decide) ?_
          refine x_aload_n C dX8_aboutRod_93 rfl 0 rfl ?_
          refine x_getr C 0 rfl rfl inX8 2 (by decide) rfl kF_X8_26 rfl dX8_aboutRod_94 ?_
          refine x_iconst C dX8_aboutRod_97 (v := 2) (by decide) ?_
          refine x_iload_n C dX8_aboutRod_98 rfl 1 rfl ?_
          refine x_imul C dX8_aboutRod_99 ?_
          refine x_iconst C dX8_aboutRod_100 (v := 1) (by decide) ?_
          refine x_iadd C dX8_aboutRod_101 ?_
          obtain ⟨v5, hv5, h⟩ := Option.bind_eq_some_iff.mp h
          refine x_callV C 9 (m_X3_hangingFrom hv5) rfl rfl kM_X8_237 kI_X3_hangingFrom kS_X3_hangingFrom kN_X3 kC_X3_hangingFrom kD_X3_hangingFrom rfl ⟨Nat.le_of_ble_eq_true rfl, Nat.le_of_ble_eq_true rfl⟩ ⟨Nat.le_refl _, Nat.le_refl _⟩ (rest := []) rfl (Nat.le_of_ble_eq_true rfl) dX8_aboutRod_102 (st' := [.int v5]) rfl ?_
          replace h := Option.some.inj h
          subst h
          exact x_ret C hr rfl rfl dX8_aboutRod_105
        · replace h := (if_neg hs1_3).symm.trans h
          by_cases hs1_4 : x2 = 4
          · replace h := (if_pos hs1_4).symm.trans h
            refine x_tsw C dX8_aboutRod_1 4 hs1_4 (by decide) (by decide) (off := 105) rfl (tgt := 106) (by decide) ?_
            refine x_aload_n C dX8_aboutRod_106 rfl 0 rfl ?_
            refine x_getr C 0 rfl rfl inX8 4 (by decide) rfl kF_X8_36 rfl dX8_aboutRod_107 ?_
            refine x_getr C 35 rfl rfl inX6 0 (by decide) rfl kF_X8_240 rfl dX8_aboutRod_110 ?_
            refine x_iconst C dX8_aboutRod_113 (v := 2) (by decide) ?_
            refine x_iload_n C dX8_aboutRod_114 rfl 1 rfl ?_
            refine x_imul C dX8_aboutRod_115 ?_
            obtain ⟨hb6, h⟩ := ck_some h
            refine x_iald C 36 rfl hb6 (v := (σ 36 ((2 : Int32) * x1).toNatClampNeg)) rfl dX8_aboutRod_116 ?_
            refine x_sipush C dX8_aboutRod_117 (v := 10000) (by decide) ?_
            refine x_iadd C dX8_aboutRod_120 ?_
            replace h := Option.some.inj h
            subst h
            exact x_ret C hr rfl rfl dX8_aboutRod_121
          · replace h := (if_neg hs1_4).symm.trans h
            by_cases hs1_5 : x2 = 5
            · replace h := (if_pos hs1_5).symm.trans h
              refine x_tsw C dX8_aboutRod_1 5 hs1_5 (by decide) (by decide) (off := 121) rfl (tgt := 122) (by decide) ?_
              refine x_aload_n C dX8_aboutRod_122 rfl 0 rfl ?_
              refine x_getr C 0 rfl rfl inX8 4 (by decide) rfl kF_X8_36 rfl dX8_aboutRod_123 ?_
              refine x_getr C 35 rfl rfl inX6 0 (by decide) rfl kF_X8_240 rfl dX8_aboutRod_126 ?_
              refine x_iconst C dX8_aboutRod_129 (v := 2) (by decide) ?_
              refine x_iload_n C dX8_aboutRod_130 rfl 1 rfl ?_
              refine x_imul C dX8_aboutRod_131 ?_
              refine x_iconst C dX8_aboutRod_132 (v := 1) (by decide) ?_
              refine x_iadd C dX8_aboutRod_133 ?_
              obtain ⟨hb7, h⟩ := ck_some h
              refine x_iald C 36 rfl hb7 (v := (σ 36 (((2 : Int32) * x1) + (1 : Int32)).toNatClampNeg)) rfl dX8_aboutRod_134 ?_
              refine x_sipush C dX8_aboutRod_135 (v := 10000) (by decide) ?_
              refine x_iadd C dX8_aboutRod_138 ?_
              replace h := Option.some.inj h
              subst h
              exact x_ret C hr rfl rfl dX8_aboutRod_139
            · replace h := (if_neg hs1_5).symm.trans h
              by_cases hs1_6 : x2 = 6
              · replace h := (if_pos hs1_6).symm.trans h
                refine x_tsw C dX8_aboutRod_1 6 hs1_6 (by decide) (by decide) (off := 139) rfl (tgt := 140) (by decide) ?_
                refine x_aload_n C dX8_aboutRod_140 rfl 0 rfl ?_
                refine x_getr C 0 rfl rfl inX8 4 (by decide) rfl kF_X8_36 rfl dX8_aboutRod_141 ?_
                refine x_getr C 35 rfl rfl inX6 1 (by decide) rfl kF_X8_243 rfl dX8_aboutRod_144 ?_
                refine x_iload_n C dX8_aboutRod_147 rfl 1 rfl ?_
                obtain ⟨hb8, h⟩ := ck_some h
                refine x_iald C 37 rfl hb8 (v := (σ 37 x1.toNatClampNeg)) rfl dX8_aboutRod_148 ?_
                refine x_sipush C dX8_aboutRod_149 (v := 10000) (by decide) ?_
                refine x_iadd C dX8_aboutRod_152 ?_
                replace h := Option.some.inj h
                subst h
                exact x_ret C hr rfl rfl dX8_aboutRod_153
              · replace h := (if_neg hs1_6).symm.trans h
                by_cases hs1_7 : x2 = 7
                · replace h := (if_pos hs1_7).symm.trans h
                  refine x_tsw C dX8_aboutRod_1 7 hs1_7 (by decide) (by decide) (off := 153) rfl (tgt := 154) (by decide) ?_
                  refine x_aload_n C dX8_aboutRod_154 rfl 0 rfl ?_
                  refine x_getr C 0 rfl rfl inX8 4 (by decide) rfl kF_X8_36 rfl dX8_aboutRod_155 ?_
                  refine x_getr C 35 rfl rfl inX6 1 (by decide) rfl kF_X8_243 rfl dX8_aboutRod_158 ?_
                  refine x_iload_n C dX8_aboutRod_161 rfl 1 rfl ?_
                  obtain ⟨hb9, h⟩ := ck_some h
                  refine x_iald C 37 rfl hb9 (v := (σ 37 x1.toNatClampNeg)) rfl dX8_aboutRod_162 ?_
                  by_cases hc10 : (σ 37 x1.toNatClampNeg) = 0
                  · replace h := (if_pos hc10).symm.trans h
                    refine x_if_neF C dX8_aboutRod_163 (tgt := 170) (by decide) hc10 ?_
                    refine x_iconst C dX8_aboutRod_166 (v := 1) (by decide) ?_
                    refine x_goto C dX8_aboutRod_167 (tgt := 171) (by decide) ?_
                    replace h := Option.some.inj h
                    subst h
                    exact x_ret C hr rfl rfl dX8_aboutRod_171
                  · replace h := (if_neg hc10).symm.trans h
                    refine x_if_neT C dX8_aboutRod_163 (tgt := 170) (by decide) hc10 ?_
                    refine x_iconst C dX8_aboutRod_170 (v := 0) (by decide) ?_
                    replace h := Option.some.inj h
                    subst h
                    exact x_ret C hr rfl rfl dX8_aboutRod_171
                · replace h := (if_neg hs1_7).symm.trans h
                  by_cases hs1_8 : x2 = 8
                  · replace h := (if_pos hs1_8).symm.trans h
                    refine x_tsw C dX8_aboutRod_1 8 hs1_8 (by decide) (by decide) (off := 171) rfl (tgt := 172) (by decide) ?_
                    refine x_aload_n C dX8_aboutRod_172 rfl 0 rfl ?_
                    refine x_getr C 0 rfl rfl inX8 4 (by decide) rfl kF_X8_36 rfl dX8_aboutRod_173 ?_
                    refine x_getr C 35 rfl rfl inX6 2 (by decide) rfl kF_X8_246 rfl dX8_aboutRod_176 ?_
                    refine x_iload_n C dX8_aboutRod_179 rfl 1 rfl ?_
                    obtain ⟨hb11, h⟩ := ck_some h
                    refine x_zald C 38 rfl hb11 (v := (σ 38 x1.toNatClampNeg)) rfl dX8_aboutRod_180 ?_
                    by_cases hc12 : (σ 38 x1.toNatClampNeg) = 0
                    · replace h := (if_pos hc12).symm.trans h
                      refine x_if_eqT C dX8_aboutRod_181 (tgt := 188) (by decide) hc12 ?_
                      refine x_iconst C dX8_aboutRod_188 (v := 0) (by decide) ?_
                      replace h := Option.some.inj h
                      subst h
                      exact x_ret C hr rfl rfl dX8_aboutRod_189
                    · replace h := (if_neg hc12).symm.trans h
                      refine x_if_eqF C dX8_aboutRod_181 (tgt := 188) (by decide) hc12 ?_
                      refine x_iconst C dX8_aboutRod_184 (v := 1) (by decide) ?_
                      refine x_goto C dX8_aboutRod_185 (tgt := 189) (by decide) ?_
                      replace h := Option.some.inj h
                      subst h
                      exact x_ret C hr rfl rfl dX8_aboutRod_189
                  · replace h := (if_neg hs1_8).symm.trans h
                    by_cases hs1_9 : x2 = 9
                    · replace h := (if_pos hs1_9).symm.trans h
                      refine x_tsw C dX8_aboutRod_1 9 hs1_9 (by decide) (by decide) (off := 189) rfl (tgt := 190) (by decide) ?_
                      refine x_aload_n C dX8_aboutRod_190 rfl 0 rfl ?_
                      refine x_getr C 0 rfl rfl inX8 4 (by decide) rfl kF_X8_36 rfl dX8_aboutRod_191 ?_
                      refine x_aload_n C dX8_aboutRod_194 rfl 0 rfl ?_
                      refine x_getr C 0 rfl rfl inX8 2 (by decide) rfl kF_X8_26 rfl dX8_aboutRod_195 ?_
                      refine x_iload_n C dX8_aboutRod_198 rfl 1 rfl ?_
                      obtain ⟨v13, hv13, h⟩ := Option.bind_eq_some_iff.mp h
                      refine x_callV C 35 (m_X6_hookFor hv13) rfl rfl kM_X8_249 kI_X6_hookFor kS_X6_hookFor kN_X6 kC_X6_hookFor kD_X6_hookFor rfl ⟨Nat.le_of_ble_eq_true rfl, Nat.le_of_ble_eq_true rfl⟩ ⟨Nat.le_refl _, Nat.le_refl _⟩ (rest := []) rfl (Nat.le_of_ble_eq_true rfl) dX8_aboutRod_199 (st' := [.int v13]) rfl ?_
                      replace h := Option.some.inj h
                      subst h
                      exact x_ret C hr rfl rfl dX8_aboutRod_202
                    · replace h := (if_neg hs1_9).symm.trans h
                      refine x_tswD C dX8_aboutRod_1 (tgt := 203) (by have e0 := lv_neT hs1_0 (a := 0) rfl; have e1 := lv_neT hs1_1 (a := 1) rfl; have e2 := lv_neT hs1_2 (a := 2) rfl; have e3 := lv_neT hs1_3 (a := 3) rfl; have e4 := lv_neT hs1_4 (a := 4) rfl; have e5 := lv_neT hs1_5 (a := 5) rfl; have e6 := lv_neT hs1_6 (a := 6) rfl; have e7 := lv_neT hs1_7 (a := 7) rfl; have e8 := lv_neT hs1_8 (a := 8) rfl; have e9 := lv_neT hs1_9 (a := 9) rfl; omega) (by decide) ?_
                      refine x_aload_n C dX8_aboutRod_203 rfl 0 rfl ?_
                      refine x_getr C 0 rfl rfl inX8 4 (by decide) rfl kF_X8_36 rfl dX8_aboutRod_204 ?_
                      refine x_aload_n C dX8_aboutRod_207 rfl 0 rfl ?_
                      refine x_getr C 0 rfl rfl inX8 2 (by decide) rfl kF_X8_26 rfl dX8_aboutRod_208 ?_
                      refine x_iload_n C dX8_aboutRod_211 rfl 1 rfl ?_
                      obtain ⟨v14, hv14, h⟩ := Option.bind_eq_some_iff.mp h
                      refine x_callV C 35 (m_X6_beadToAdd hv14) rfl rfl kM_X8_253 kI_X6_beadToAdd kS_X6_beadToAdd kN_X6 kC_X6_beadToAdd kD_X6_beadToAdd rfl ⟨Nat.le_of_ble_eq_true rfl, Nat.le_of_ble_eq_true rfl⟩ ⟨Nat.le_refl _, Nat.le_refl _⟩ (rest := []) rfl (Nat.le_of_ble_eq_true rfl) dX8_aboutRod_212 (st' := [.int v14]) rfl ?_
                      replace h := Option.some.inj h
                      subst h
                      exact x_ret C hr rfl rfl dX8_aboutRod_215
def f_X8_aboutThing (x1 : Int32) (x2 : Int32) (σ : gs_H) : Option (Int32) :=
if x2 = 0 then (
if inb x1 6 then
some (σ 13 x1.toNatClampNeg) else none)
else (
if x2 = 1 then (
if inb x1 6 then
some (σ 14 x1.toNatClampNeg) else none)
else (
if x2 = 2 then (
if inb x1 6 then
if inb x1 6 then
some ((f_X1_weight (σ 13 x1.toNatClampNeg) (σ 14 x1.toNatClampNeg) (σ 9 2)) + (10000 : Int32)) else none else none)
else (
if x2 = 3 then (
if inb x1 6 then
if (σ 15 x1.toNatClampNeg) = 0 then (
some (0 : Int32))
else (
some (1 : Int32)) else none)
else (
if x2 = 4 then (
(f_X3_armOf x1 σ).bind fun q9 =>
some (q9 / (2 : Int32)))
else (
if x2 = 5 then (
(f_X3_armOf x1 σ).bind fun q10 =>
some (q10 - q10 / (2 : Int32) * (2 : Int32)))
else (
(f_X7_sizesOf x1 σ).bind fun q11 =>
some q11))))))
set_option maxHeartbeats 4000000 in
set_option maxRecDepth 20000 in
theorem m_X8_aboutThing {E : gs_E} {l : Launch} {x1 : Int32} {x2 : Int32} {σ : gs_H} {g : Int64} {r0 : Int32} (h : f_X8_aboutThing x1 x2 σ = some r0) : gs_M l E yX8_aboutThing cX8_aboutThing 3 (some .int) (4, 96) [.ref (gs_a E 0), .int x1, .int x2] σ g (some (.int r0)) σ g := by
  refine x_enter (lv := [(0, .ref (gs_a E 0)), (1, .int x1), (2, .int x2)]) (by decide +kernel) (Nat.le_of_ble_eq_true rfl) rfl (fun p e s m args below meth c C hr => ?_)
  unfold f_X8_aboutThing at h
  refine x_iload_n C dX8_aboutThing_0 rfl 2 rfl ?_
  by_cases hs1_0 : x2 = 0
  · replace h := (if_pos hs1_0).symm.trans h
    refine x_tsw C dX8_aboutThing_1 0 hs1_0 (by decide) (by decide) (off := 39) rfl (tgt := 40) (by decide) ?_
    refine x_aload_n C dX8_aboutThing_40 rfl 0 rfl ?_
    refine x_getr C 0 rfl rfl inX8 2 (by decide) rfl kF_X8_26 rfl dX8_aboutThing_41 ?_
    refine x_getr C 9 rfl rfl inX3 6 (by decide) rfl kF_X8_107 rfl dX8_aboutThing_44 ?_
    refine x_iload_n C dX8_aboutThing_47 rfl 1 rfl ?_
    obtain ⟨hb2, h⟩ := ck_some h
    refine x_iald C 13 rfl hb2 (v := (σ 13 x1.toNatClampNeg)) rfl dX8_aboutThing_48 ?_
    replace h := Option.some.inj h
    subst h
    exact x_ret C hr rfl rfl dX8_aboutThing_49
  · replace h := (if_neg hs1_0).symm.trans h
    by_cases hs1_1 : x2 = 1
    · replace h := (if_pos hs1_1).symm.trans h
      refine x_tsw C dX8_aboutThing_1 1 hs1_1 (by decide) (by decide) (off := 49) rfl (tgt := 50) (by decide) ?_
      refine x_aload_n C dX8_aboutThing_50 rfl 0 rfl ?_
      refine x_getr C 0 rfl rfl inX8 2 (by decide) rfl kF_X8_26 rfl dX8_aboutThing_51 ?_
      refine x_getr C 9 rfl rfl inX3 7 (by decide) rfl kF_X8_151 rfl dX8_aboutThing_54 ?_
      refine x_iload_n C dX8_aboutThing_57 rfl 1 rfl ?_
      obtain ⟨hb3, h⟩ := ck_some h
      refine x_iald C 14 rfl hb3 (v := (σ 14 x1.toNatClampNeg)) rfl dX8_aboutThing_58 ?_
      replace h := Option.some.inj h
      subst h
      exact x_ret C hr rfl rfl dX8_aboutThing_59
    · replace h := (if_neg hs1_1).symm.trans h
      by_cases hs1_2 : x2 = 2
      · replace h := (if_pos hs1_2).symm.trans h
        refine x_tsw C dX8_aboutThing_1 2 hs1_2 (by decide) (by decide) (off := 59) rfl (tgt := 60) (by decide) ?_
        refine x_aload_n C dX8_aboutThing_60 rfl 0 rfl ?_
        refine x_getr C 0 rfl rfl inX8 2 (by decide) rfl kF_X8_26 rfl dX8_aboutThing_61 ?_
        refine x_getr C 9 rfl rfl inX3 6 (by decide) rfl kF_X8_107 rfl dX8_aboutThing_64 ?_
        refine x_iload_n C dX8_aboutThing_67 rfl 1 rfl ?_
        obtain ⟨hb4, h⟩ := ck_some h
        refine x_iald C 13 rfl hb4 (v := (σ 13 x1.toNatClampNeg)) rfl dX8_aboutThing_68 ?_
        refine x_aload_n C dX8_aboutThing_69 rfl 0 rfl ?_
        refine x_getr C 0 rfl rfl inX8 2 (by decide) rfl kF_X8_26 rfl dX8_aboutThing_70 ?_
        refine x_getr C 9 rfl rfl inX3 7 (by decide) rfl kF_X8_151 rfl dX8_aboutThing_73 ?_
        refine x_iload_n C dX8_aboutThing_76 rfl 1 rfl ?_
        obtain ⟨hb5, h⟩ := ck_some h
        refine x_iald C 14 rfl hb5 (v := (σ 14 x1.toNatClampNeg)) rfl dX8_aboutThing_77 ?_
        refine x_aload_n C dX8_aboutThing_78 rfl 0 rfl ?_
        refine x_getr C 0 rfl rfl inX8 2 (by decide) rfl kF_X8_26 rfl dX8_aboutThing_79 ?_
        refine x_geti C 9 rfl rfl inX3 2 (by decide) rfl kF_X8_117 rfl (v := (σ 9 2)) rfl dX8_aboutThing_82 ?_
        refine x_callS C (m_X1_weight rfl) kM_X8_256 kT_X1_weight kN_X1 kC_X1_weight kD_X1_weight rfl ⟨Nat.le_of_ble_eq_true rfl, Nat.le_of_ble_eq_true rfl⟩ ⟨Nat.le_refl _, Nat.le_refl _⟩ (rest := []) rfl (Nat.le_of_ble_eq_true rfl) dX8_aboutThing_85 (st' := [.int (f_X1_weight (σ 13 x1.toNatClampNeg) (σ 14 x1.toNatClampNeg) (σ 9 2))]) rfl ?_
        refine x_sipush C dX8_aboutThing_88 (v := 10000) (by decide) ?_
        refine x_iadd C dX8_aboutThing_91 ?_
        replace h := Option.some.inj h
        subst h
        exact x_ret C hr rfl rfl dX8_aboutThing_92
      · replace h := (if_neg hs1_2).symm.trans h
        by_cases hs1_3 : x2 = 3
        · replace h := (if_pos hs1_3).symm.trans h
          refine x_tsw C dX8_aboutThing_1 3 hs1_3 (by decide) (by decide) (off := 92) rfl (tgt := 93) (by decide) ?_
          refine x_aload_n C dX8_aboutThing_93 rfl 0 rfl ?_
          refine x_getr C 0 rfl rfl inX8 2 (by decide) rfl kF_X8_26 rfl dX8_aboutThing_94 ?_
          refine x_getr C 9 rfl rfl inX3 8 (by decide) rfl kF_X8_120 rfl dX8_aboutThing_97 ?_
          refine x_iload_n C dX8_aboutThing_100 rfl 1 rfl ?_
          obtain ⟨hb7, h⟩ := ck_some h
          refine x_zald C 15 rfl hb7 (v := (σ 15 x1.toNatClampNeg)) rfl dX8_aboutThing_101 ?_
          by_cases hc8 : (σ 15 x1.toNatClampNeg) = 0
          · replace h := (if_pos hc8).symm.trans h
            refine x_if_eqT C dX8_aboutThing_102 (tgt := 109) (by decide) hc8 ?_
            refine x_iconst C dX8_aboutThing_109 (v := 0) (by decide) ?_
            replace h := Option.some.inj h
            subst h
            exact x_ret C hr rfl rfl dX8_aboutThing_110
          · replace h := (if_neg hc8).symm.trans h
            refine x_if_eqF C dX8_aboutThing_102 (tgt := 109) (by decide) hc8 ?_
            refine x_iconst C dX8_aboutThing_105 (v := 1) (by decide) ?_
            refine x_goto C dX8_aboutThing_106 (tgt := 110) (by decide) ?_
            replace h := Option.some.inj h
            subst h
            exact x_ret C hr rfl rfl dX8_aboutThing_110
        · replace h := (if_neg hs1_3).symm.trans h
          by_cases hs1_4 : x2 = 4
          · replace h := (if_pos hs1_4).symm.trans h
            refine x_tsw C dX8_aboutThing_1 4 hs1_4 (by decide) (by decide) (off := 110) rfl (tgt := 111) (by decide) ?_
            refine x_aload_n C dX8_aboutThing_111 rfl 0 rfl ?_
            refine x_getr C 0 rfl rfl inX8 2 (by decide) rfl kF_X8_26 rfl dX8_aboutThing_112 ?_
            refine x_iload_n C dX8_aboutThing_115 rfl 1 rfl ?_
            obtain ⟨v9, hv9, h⟩ := Option.bind_eq_some_iff.mp h
            refine x_callV C 9 (m_X3_armOf hv9) rfl rfl kM_X8_260 kI_X3_armOf kS_X3_armOf kN_X3 kC_X3_armOf kD_X3_armOf rfl ⟨Nat.le_of_ble_eq_true rfl, Nat.le_of_ble_eq_true rfl⟩ ⟨Nat.le_refl _, Nat.le_refl _⟩ (rest := []) rfl (Nat.le_of_ble_eq_true rfl) dX8_aboutThing_116 (st' := [.int v9]) rfl ?_
            refine x_iconst C dX8_aboutThing_119 (v := 2) (by decide) ?_
            refine x_idiv C dX8_aboutThing_120 (by decide) ?_
            replace h := Option.some.inj h
            subst h
            exact x_ret C hr rfl rfl dX8_aboutThing_121
          · replace h := (if_neg hs1_4).symm.trans h
            by_cases hs1_5 : x2 = 5
            · replace h := (if_pos hs1_5).symm.trans h
              refine x_tsw C dX8_aboutThing_1 5 hs1_5 (by decide) (by decide) (off := 121) rfl (tgt := 122) (by decide) ?_
              refine x_aload_n C dX8_aboutThing_122 rfl 0 rfl ?_
              refine x_getr C 0 rfl rfl inX8 2 (by decide) rfl kF_X8_26 rfl dX8_aboutThing_123 ?_
              refine x_iload_n C dX8_aboutThing_126 rfl 1 rfl ?_
              obtain ⟨v10, hv10, h⟩ := Option.bind_eq_some_iff.mp h
              refine x_callV C 9 (m_X3_armOf hv10) rfl rfl kM_X8_260 kI_X3_armOf kS_X3_armOf kN_X3 kC_X3_armOf kD_X3_armOf rfl ⟨Nat.le_of_ble_eq_true rfl, Nat.le_of_ble_eq_true rfl⟩ ⟨Nat.le_refl _, Nat.le_refl _⟩ (rest := []) rfl (Nat.le_of_ble_eq_true rfl) dX8_aboutThing_127 (st' := [.int v10]) rfl ?_
              refine x_iconst C dX8_aboutThing_130 (v := 2) (by decide) ?_
              refine x_irem C dX8_aboutThing_131 (by decide) ?_
              replace h := Option.some.inj h
              subst h
              exact x_ret C hr rfl rfl dX8_aboutThing_132
            · replace h := (if_neg hs1_5).symm.trans h
              refine x_tswD C dX8_aboutThing_1 (tgt := 133) (by have e0 := lv_neT hs1_0 (a := 0) rfl; have e1 := lv_neT hs1_1 (a := 1) rfl; have e2 := lv_neT hs1_2 (a := 2) rfl; have e3 := lv_neT hs1_3 (a := 3) rfl; have e4 := lv_neT hs1_4 (a := 4) rfl; have e5 := lv_neT hs1_5 (a := 5) rfl; omega) (by decide) ?_
              refine x_aload_n C dX8_aboutThing_133 rfl 0 rfl ?_
              refine x_getr C 0 rfl rfl inX8 2 (by decide) rfl kF_X8_26 rfl dX8_aboutThing_134 ?_
              refine x_getr C 9 rfl rfl inX3 10 (by decide) rfl kF_X8_186 rfl dX8_aboutThing_137 ?_
              refine x_aload_n C dX8_aboutThing_140 rfl 0 rfl ?_
              refine x_getr C 0 rfl rfl inX8 2 (by decide) rfl kF_X8_26 rfl dX8_aboutThing_141 ?_
              refine x_iload_n C dX8_aboutThing_144 rfl 1 rfl ?_
              obtain ⟨v11, hv11, h⟩ := Option.bind_eq_some_iff.mp h
              refine x_callV C 17 (m_X7_sizesOf hv11) rfl rfl kM_X8_263 kI_X7_sizesOf kS_X7_sizesOf kN_X7 kC_X7_sizesOf kD_X7_sizesOf rfl ⟨Nat.le_of_ble_eq_true rfl, Nat.le_of_ble_eq_true rfl⟩ ⟨Nat.le_refl _, Nat.le_refl _⟩ (rest := []) rfl (Nat.le_of_ble_eq_true rfl) dX8_aboutThing_145 (st' := [.int v11]) rfl ?_
              replace h := Option.some.inj h
              subst h
              exact x_ret C hr rfl rfl dX8_aboutThing_148
def f_X8_isThing (x1 : Int32) (σ : gs_H) : Int32 :=
if x1 < 0 then (
(0 : Int32))
else (
if (σ 9 1) ≤ x1 then (
(0 : Int32))
else (
(1 : Int32)))
set_option maxHeartbeats 4000000 in
set_option maxRecDepth 20000 in
theorem m_X8_isThing {E : gs_E} {l : Launch} {x1 : Int32} {σ : gs_H} {g : Int64} {r0 : Int32} (h : f_X8_isThing x1 σ = r0) : gs_M l E yX8_isThing cX8_isThing 2 (some .boolean) (0, 0) [.ref (gs_a E 0), .int x1] σ g (some (.int r0)) σ g := by
  refine x_enter (lv := [(0, .ref (gs_a E 0)), (1, .int x1)]) (by decide +kernel) (Nat.le_of_ble_eq_true rfl) rfl (fun p e s m args below meth c C hr => ?_)
  unfold f_X8_isThing at h
  refine x_iload_n C dX8_isThing_0 rfl 1 rfl ?_
  by_cases hc1 : x1 < 0
  · replace h := (if_pos hc1).symm.trans h
    refine x_if_ltT C dX8_isThing_1 (tgt := 19) (by decide) hc1 ?_
    refine x_iconst C dX8_isThing_19 (v := 0) (by decide) ?_
    subst h
    exact x_retb C hr (by decide) rfl dX8_isThing_20
  · replace h := (if_neg hc1).symm.trans h
    refine x_if_ltF C dX8_isThing_1 (tgt := 19) (by decide) hc1 ?_
    refine x_iload_n C dX8_isThing_4 rfl 1 rfl ?_
    refine x_aload_n C dX8_isThing_5 rfl 0 rfl ?_
    refine x_getr C 0 rfl rfl inX8 2 (by decide) rfl kF_X8_26 rfl dX8_isThing_6 ?_
    refine x_geti C 9 rfl rfl inX3 1 (by decide) rfl kF_X8_81 rfl (v := (σ 9 1)) rfl dX8_isThing_9 ?_
    by_cases hc2 : (σ 9 1) ≤ x1
    · replace h := (if_pos hc2).symm.trans h
      refine x_icmp_geT C dX8_isThing_12 (tgt := 19) (by decide) hc2 ?_
      refine x_iconst C dX8_isThing_19 (v := 0) (by decide) ?_
      subst h
      exact x_retb C hr (by decide) rfl dX8_isThing_20
    · replace h := (if_neg hc2).symm.trans h
      refine x_icmp_geF C dX8_isThing_12 (tgt := 19) (by decide) hc2 ?_
      refine x_iconst C dX8_isThing_15 (v := 1) (by decide) ?_
      refine x_goto C dX8_isThing_16 (tgt := 20) (by decide) ?_
      subst h
      exact x_retb C hr (by decide) rfl dX8_isThing_20
def f_X8_as (x1 : Int32) (x2 : Int32) (σ : gs_H) : Option (Int32) :=
if (f_X8_isThing x1 σ) = 0 then (
some (-101 : Int32))
else (
if (f_X1_isKind x2) = 0 then (
some (-102 : Int32))
else (
if inb x1 6 then
if (f_X1_isA (σ 13 x1.toNatClampNeg) x2) = 0 then (
some (-1 : Int32))
else (
some x1) else none))
set_option maxHeartbeats 4000000 in
set_option maxRecDepth 20000 in
theorem m_X8_as {E : gs_E} {l : Launch} {x1 : Int32} {x2 : Int32} {σ : gs_H} {g : Int64} {r0 : Int32} (h : f_X8_as x1 x2 σ = some r0) : gs_M l E yX8_as cX8_as 3 (some .int) (1, 21) [.ref (gs_a E 0), .int x1, .int x2] σ g (some (.int r0)) σ g := by
  refine x_enter (lv := [(0, .ref (gs_a E 0)), (1, .int x1), (2, .int x2)]) (by decide +kernel) (Nat.le_of_ble_eq_true rfl) rfl (fun p e s m args below meth c C hr => ?_)
  unfold f_X8_as at h
  refine x_aload_n C dX8_as_0 rfl 0 rfl ?_
  refine x_iload_n C dX8_as_1 rfl 1 rfl ?_
  refine x_callV C 0 (m_X8_isThing rfl) rfl rfl kM_X8_96 kI_X8_isThing kS_X8_isThing kN_X8 kC_X8_isThing kD_X8_isThing rfl ⟨Nat.le_of_ble_eq_true rfl, Nat.le_of_ble_eq_true rfl⟩ ⟨Nat.le_refl _, Nat.le_refl _⟩ (rest := []) rfl (Nat.le_of_ble_eq_true rfl) dX8_as_2 (st' := [.int (f_X8_isThing x1 σ)]) rfl ?_
  by_cases hc2 : (f_X8_isThing x1 σ) = 0
  · replace h := (if_pos hc2).symm.trans h
    refine x_if_neF C dX8_as_5 (tgt := 11) (by decide) hc2 ?_
    refine x_bipush C dX8_as_8 (v := -101) (by decide) ?_
    replace h := Option.some.inj h
    subst h
    exact x_ret C hr rfl rfl dX8_as_10
  · replace h := (if_neg hc2).symm.trans h
    refine x_if_neT C dX8_as_5 (tgt := 11) (by decide) hc2 ?_
    refine x_iload_n C dX8_as_11 rfl 2 rfl ?_
    refine x_callS C (m_X1_isKind rfl) kM_X8_102 kT_X1_isKind kN_X1 kC_X1_isKind kD_X1_isKind rfl ⟨Nat.le_of_ble_eq_true rfl, Nat.le_of_ble_eq_true rfl⟩ ⟨Nat.le_refl _, Nat.le_refl _⟩ (rest := []) rfl (Nat.le_of_ble_eq_true rfl) dX8_as_12 (st' := [.int (f_X1_isKind x2)]) rfl ?_
    by_cases hc4 : (f_X1_isKind x2) = 0
    · replace h := (if_pos hc4).symm.trans h
      refine x_if_neF C dX8_as_15 (tgt := 21) (by decide) hc4 ?_
      refine x_bipush C dX8_as_18 (v := -102) (by decide) ?_
      replace h := Option.some.inj h
      subst h
      exact x_ret C hr rfl rfl dX8_as_20
    · replace h := (if_neg hc4).symm.trans h
      refine x_if_neT C dX8_as_15 (tgt := 21) (by decide) hc4 ?_
      refine x_aload_n C dX8_as_21 rfl 0 rfl ?_
      refine x_getr C 0 rfl rfl inX8 2 (by decide) rfl kF_X8_26 rfl dX8_as_22 ?_
      refine x_getr C 9 rfl rfl inX3 6 (by decide) rfl kF_X8_107 rfl dX8_as_25 ?_
      refine x_iload_n C dX8_as_28 rfl 1 rfl ?_
      obtain ⟨hb5, h⟩ := ck_some h
      refine x_iald C 13 rfl hb5 (v := (σ 13 x1.toNatClampNeg)) rfl dX8_as_29 ?_
      refine x_iload_n C dX8_as_30 rfl 2 rfl ?_
      refine x_callS C (m_X1_isA rfl) kM_X8_110 kT_X1_isA kN_X1 kC_X1_isA kD_X1_isA rfl ⟨Nat.le_of_ble_eq_true rfl, Nat.le_of_ble_eq_true rfl⟩ ⟨Nat.le_refl _, Nat.le_refl _⟩ (rest := []) rfl (Nat.le_of_ble_eq_true rfl) dX8_as_31 (st' := [.int (f_X1_isA (σ 13 x1.toNatClampNeg) x2)]) rfl ?_
      by_cases hc7 : (f_X1_isA (σ 13 x1.toNatClampNeg) x2) = 0
      · replace h := (if_pos hc7).symm.trans h
        refine x_if_eqT C dX8_as_34 (tgt := 41) (by decide) hc7 ?_
        refine x_iconst C dX8_as_41 (v := -1) (by decide) ?_
        replace h := Option.some.inj h
        subst h
        exact x_ret C hr rfl rfl dX8_as_42
      · replace h := (if_neg hc7).symm.trans h
        refine x_if_eqF C dX8_as_34 (tgt := 41) (by decide) hc7 ?_
        refine x_iload_n C dX8_as_37 rfl 1 rfl ?_
        refine x_goto C dX8_as_38 (tgt := 42) (by decide) ?_
        replace h := Option.some.inj h
        subst h
        exact x_ret C hr rfl rfl dX8_as_42
def f_X8_hasMobile (σ : gs_H) : Int32 :=
if (σ 9 0) ≤ 0 then (
(0 : Int32))
else (
(1 : Int32))
set_option maxHeartbeats 4000000 in
set_option maxRecDepth 20000 in
theorem m_X8_hasMobile {E : gs_E} {l : Launch} {σ : gs_H} {g : Int64} {r0 : Int32} (h : f_X8_hasMobile σ = r0) : gs_M l E yX8_hasMobile cX8_hasMobile 1 (some .boolean) (0, 0) [.ref (gs_a E 0)] σ g (some (.int r0)) σ g := by
  refine x_enter (lv := [(0, .ref (gs_a E 0))]) (by decide +kernel) (Nat.le_of_ble_eq_true rfl) rfl (fun p e s m args below meth c C hr => ?_)
  unfold f_X8_hasMobile at h
  refine x_aload_n C dX8_hasMobile_0 rfl 0 rfl ?_
  refine x_getr C 0 rfl rfl inX8 2 (by decide) rfl kF_X8_26 rfl dX8_hasMobile_1 ?_
  refine x_geti C 9 rfl rfl inX3 0 (by decide) rfl kF_X8_223 rfl (v := (σ 9 0)) rfl dX8_hasMobile_4 ?_
  by_cases hc1 : (σ 9 0) ≤ 0
  · replace h := (if_pos hc1).symm.trans h
    refine x_if_leT C dX8_hasMobile_7 (tgt := 14) (by decide) hc1 ?_
    refine x_iconst C dX8_hasMobile_14 (v := 0) (by decide) ?_
    subst h
    exact x_retb C hr (by decide) rfl dX8_hasMobile_15
  · replace h := (if_neg hc1).symm.trans h
    refine x_if_leF C dX8_hasMobile_7 (tgt := 14) (by decide) hc1 ?_
    refine x_iconst C dX8_hasMobile_10 (v := 1) (by decide) ?_
    refine x_goto C dX8_hasMobile_11 (tgt := 15) (by decide) ?_
    subst h
    exact x_retb C hr (by decide) rfl dX8_hasMobile_15
def f_X8_best (σ : gs_H) : Option (Int32 × gs_H) :=
if (f_X8_hasMobile σ) = 0 then (
some ((-103 : Int32), σ))
else (
(f_X2_bestExchange σ).bind fun q3 =>
some (q3.1, q3.2))
set_option maxHeartbeats 4000000 in
set_option maxRecDepth 20000 in
theorem m_X8_best {E : gs_E} {l : Launch} {σ : gs_H} {g : Int64} {r0 : Int32} {σ0 : gs_H} (h : f_X8_best σ = some (r0, σ0)) : gs_M l E yX8_best cX8_best 1 (some .int) (5, 121) [.ref (gs_a E 0)] σ g (some (.int r0)) σ0 g := by
  refine x_enter (lv := [(0, .ref (gs_a E 0))]) (by decide +kernel) (Nat.le_of_ble_eq_true rfl) rfl (fun p e s m args below meth c C hr => ?_)
  unfold f_X8_best at h
  refine x_aload_n C dX8_best_0 rfl 0 rfl ?_
  refine x_callV C 0 (m_X8_hasMobile rfl) rfl rfl kM_X8_114 kI_X8_hasMobile kS_X8_hasMobile kN_X8 kC_X8_hasMobile kD_X8_hasMobile rfl ⟨Nat.le_of_ble_eq_true rfl, Nat.le_of_ble_eq_true rfl⟩ ⟨Nat.le_refl _, Nat.le_refl _⟩ (rest := []) rfl (Nat.le_of_ble_eq_true rfl) dX8_best_1 (st' := [.int (f_X8_hasMobile σ)]) rfl ?_
  by_cases hc2 : (f_X8_hasMobile σ) = 0
  · replace h := (if_pos hc2).symm.trans h
    refine x_if_eqT C dX8_best_4 (tgt := 21) (by decide) hc2 ?_
    refine x_bipush C dX8_best_21 (v := -103) (by decide) ?_
    replace h := Option.some.inj h
    obtain ⟨rfl, rfl⟩ := Prod.mk.inj h
    exact x_ret C hr rfl rfl dX8_best_23
  · replace h := (if_neg hc2).symm.trans h
    refine x_if_eqF C dX8_best_4 (tgt := 21) (by decide) hc2 ?_
    refine x_aload_n C dX8_best_7 rfl 0 rfl ?_
    refine x_getr C 0 rfl rfl inX8 5 (by decide) rfl kF_X8_43 rfl dX8_best_8 ?_
    refine x_aload_n C dX8_best_11 rfl 0 rfl ?_
    refine x_getr C 0 rfl rfl inX8 2 (by decide) rfl kF_X8_26 rfl dX8_best_12 ?_
    obtain ⟨⟨v3, s3⟩, hv3, h⟩ := Option.bind_eq_some_iff.mp h
    try dsimp only at h
    refine x_callV C 40 (m_X2_bestExchange hv3) rfl rfl kM_X8_154 kI_X2_bestExchange kS_X2_bestExchange kN_X2 kC_X2_bestExchange kD_X2_bestExchange rfl ⟨Nat.le_of_ble_eq_true rfl, Nat.le_of_ble_eq_true rfl⟩ ⟨Nat.le_refl _, Nat.le_refl _⟩ (rest := []) rfl (Nat.le_of_ble_eq_true rfl) dX8_best_15 (st' := [.int v3]) rfl ?_
    refine x_goto C dX8_best_18 (tgt := 23) (by decide) ?_
    replace h := Option.some.inj h
    obtain ⟨rfl, rfl⟩ := Prod.mk.inj h
    exact x_ret C hr rfl rfl dX8_best_23
def f_X8_blank (σ : gs_H) : Int32 × gs_H :=
((σ 1 1), (up2 σ 1 1 (0 : Int32)))
set_option maxHeartbeats 4000000 in
set_option maxRecDepth 20000 in
theorem m_X8_blank {E : gs_E} {l : Launch} {σ : gs_H} {g : Int64} {r0 : Int32} {σ0 : gs_H} (h : f_X8_blank σ = (r0, σ0)) : gs_M l E yX8_blank cX8_blank 2 (some .int) (0, 0) [.ref (gs_a E 0)] σ g (some (.int r0)) σ0 g := by
  refine x_enter (lv := [(0, .ref (gs_a E 0))]) (by decide +kernel) (Nat.le_of_ble_eq_true rfl) rfl (fun p e s m args below meth c C hr => ?_)
  unfold f_X8_blank at h
  refine x_aload_n C dX8_blank_0 rfl 0 rfl ?_
  refine x_getr C 0 rfl rfl inX8 0 (by decide) rfl kF_X8_12 rfl dX8_blank_1 ?_
  refine x_geti C 1 rfl rfl inX4 1 (by decide) rfl kF_X8_54 rfl (v := (σ 1 1)) rfl dX8_blank_4 ?_
  refine x_istore_n C dX8_blank_7 rfl (lv2 := [(0, .ref (gs_a E 0)), (1, .int (σ 1 1))]) (by decide) rfl [1, 0] rfl ?_
  refine x_aload_n C dX8_blank_8 rfl 0 rfl ?_
  refine x_getr C 0 rfl rfl inX8 0 (by decide) rfl kF_X8_12 rfl dX8_blank_9 ?_
  refine x_iconst C dX8_blank_12 (v := 0) (by decide) ?_
  refine x_puti C 1 rfl rfl inX4 tyX4 tyX4_ok nmX4 1 (by decide) rfl kF_X8_54 rfl rfl rfl rfl dX8_blank_13 ?_
  refine x_iload_n C dX8_blank_16 rfl 1 rfl ?_
  obtain ⟨rfl, rfl⟩ := Prod.mk.inj h
  exact x_ret C hr rfl rfl dX8_blank_17
def f_X8_isSize (x0 : Int32) : Int32 :=
if x0 < 0 then (
(0 : Int32))
else (
if (10 : Int32) ≤ x0 then (
(0 : Int32))
else (
(1 : Int32)))
set_option maxHeartbeats 4000000 in
set_option maxRecDepth 20000 in
theorem m_X8_isSize {E : gs_E} {l : Launch} {x0 : Int32} {σ : gs_H} {g : Int64} {r0 : Int32} (h : f_X8_isSize x0 = r0) : gs_M l E yX8_isSize cX8_isSize 1 (some .boolean) (0, 0) [.int x0] σ g (some (.int r0)) σ g := by
  refine x_enter (lv := [(0, .int x0)]) (by decide +kernel) (Nat.le_of_ble_eq_true rfl) rfl (fun p e s m args below meth c C hr => ?_)
  unfold f_X8_isSize at h
  refine x_iload_n C dX8_isSize_0 rfl 0 rfl ?_
  by_cases hc1 : x0 < 0
  · replace h := (if_pos hc1).symm.trans h
    refine x_if_ltT C dX8_isSize_1 (tgt := 14) (by decide) hc1 ?_
    refine x_iconst C dX8_isSize_14 (v := 0) (by decide) ?_
    subst h
    exact x_retb C hr (by decide) rfl dX8_isSize_15
  · replace h := (if_neg hc1).symm.trans h
    refine x_if_ltF C dX8_isSize_1 (tgt := 14) (by decide) hc1 ?_
    refine x_iload_n C dX8_isSize_4 rfl 0 rfl ?_
    refine x_bipush C dX8_isSize_5 (v := 10) (by decide) ?_
    by_cases hc2 : (10 : Int32) ≤ x0
    · replace h := (if_pos hc2).symm.trans h
      refine x_icmp_geT C dX8_isSize_7 (tgt := 14) (by decide) hc2 ?_
      refine x_iconst C dX8_isSize_14 (v := 0) (by decide) ?_
      subst h
      exact x_retb C hr (by decide) rfl dX8_isSize_15
    · replace h := (if_neg hc2).symm.trans h
      refine x_icmp_geF C dX8_isSize_7 (tgt := 14) (by decide) hc2 ?_
      refine x_iconst C dX8_isSize_10 (v := 1) (by decide) ?_
      refine x_goto C dX8_isSize_11 (tgt := 15) (by decide) ?_
      subst h
      exact x_retb C hr (by decide) rfl dX8_isSize_15
def f_X8_change (x1 : Int32) (x2 : Int32) (x3 : Int32) (σ : gs_H) : Option (Int32 × gs_H) :=
if (f_X8_isThing x1 σ) = 0 then (
some ((-101 : Int32), σ))
else (
if (f_X1_isKind x2) = 0 then (
some ((-102 : Int32), σ))
else (
if (f_X8_isSize x3) = 0 then (
some ((-102 : Int32), σ))
else (
if inb x1 6 then
if inb x1 6 then
if inb x1 6 then
some ((σ 13 x1.toNatClampNeg), (up2 (up2 σ 13 x1.toNatClampNeg x2) 14 x1.toNatClampNeg x3)) else none else none else none)))
set_option maxHeartbeats 4000000 in
set_option maxRecDepth 20000 in
theorem m_X8_change {E : gs_E} {l : Launch} {x1 : Int32} {x2 : Int32} {x3 : Int32} {σ : gs_H} {g : Int64} {r0 : Int32} {σ0 : gs_H} (h : f_X8_change x1 x2 x3 σ = some (r0, σ0)) : gs_M l E yX8_change cX8_change 5 (some .int) (1, 21) [.ref (gs_a E 0), .int x1, .int x2, .int x3] σ g (some (.int r0)) σ0 g := by
  refine x_enter (lv := [(0, .ref (gs_a E 0)), (1, .int x1), (2, .int x2), (3, .int x3)]) (by decide +kernel) (Nat.le_of_ble_eq_true rfl) rfl (fun p e s m args below meth c C hr => ?_)
  unfold f_X8_change at h
  refine x_aload_n C dX8_change_0 rfl 0 rfl ?_
  refine x_iload_n C dX8_change_1 rfl 1 rfl ?_
  refine x_callV C 0 (m_X8_isThing rfl) rfl rfl kM_X8_96 kI_X8_isThing kS_X8_isThing kN_X8 kC_X8_isThing kD_X8_isThing rfl ⟨Nat.le_of_ble_eq_true rfl, Nat.le_of_ble_eq_true rfl⟩ ⟨Nat.le_refl _, Nat.le_refl _⟩ (rest := []) rfl (Nat.le_of_ble_eq_true rfl) dX8_change_2 (st' := [.int (f_X8_isThing x1 σ)]) rfl ?_
  by_cases hc2 : (f_X8_isThing x1 σ) = 0
  · replace h := (if_pos hc2).symm.trans h
    refine x_if_neF C dX8_change_5 (tgt := 11) (by decide) hc2 ?_
    refine x_bipush C dX8_change_8 (v := -101) (by decide) ?_
    replace h := Option.some.inj h
    obtain ⟨rfl, rfl⟩ := Prod.mk.inj h
    exact x_ret C hr rfl rfl dX8_change_10
  · replace h := (if_neg hc2).symm.trans h
    refine x_if_neT C dX8_change_5 (tgt := 11) (by decide) hc2 ?_
    refine x_iload_n C dX8_change_11 rfl 2 rfl ?_
    refine x_callS C (m_X1_isKind rfl) kM_X8_102 kT_X1_isKind kN_X1 kC_X1_isKind kD_X1_isKind rfl ⟨Nat.le_of_ble_eq_true rfl, Nat.le_of_ble_eq_true rfl⟩ ⟨Nat.le_refl _, Nat.le_refl _⟩ (rest := []) rfl (Nat.le_of_ble_eq_true rfl) dX8_change_12 (st' := [.int (f_X1_isKind x2)]) rfl ?_
    by_cases hc4 : (f_X1_isKind x2) = 0
    · replace h := (if_pos hc4).symm.trans h
      refine x_if_eqT C dX8_change_15 (tgt := 25) (by decide) hc4 ?_
      refine x_bipush C dX8_change_25 (v := -102) (by decide) ?_
      replace h := Option.some.inj h
      obtain ⟨rfl, rfl⟩ := Prod.mk.inj h
      exact x_ret C hr rfl rfl dX8_change_27
    · replace h := (if_neg hc4).symm.trans h
      refine x_if_eqF C dX8_change_15 (tgt := 25) (by decide) hc4 ?_
      refine x_iload_n C dX8_change_18 rfl 3 rfl ?_
      refine x_callS C (m_X8_isSize rfl) kM_X8_148 kT_X8_isSize kN_X8 kC_X8_isSize kD_X8_isSize rfl ⟨Nat.le_of_ble_eq_true rfl, Nat.le_of_ble_eq_true rfl⟩ ⟨Nat.le_refl _, Nat.le_refl _⟩ (rest := []) rfl (Nat.le_of_ble_eq_true rfl) dX8_change_19 (st' := [.int (f_X8_isSize x3)]) rfl ?_
      by_cases hc6 : (f_X8_isSize x3) = 0
      · replace h := (if_pos hc6).symm.trans h
        refine x_if_neF C dX8_change_22 (tgt := 28) (by decide) hc6 ?_
        refine x_bipush C dX8_change_25 (v := -102) (by decide) ?_
        replace h := Option.some.inj h
        obtain ⟨rfl, rfl⟩ := Prod.mk.inj h
        exact x_ret C hr rfl rfl dX8_change_27
      · replace h := (if_neg hc6).symm.trans h
        refine x_if_neT C dX8_change_22 (tgt := 28) (by decide) hc6 ?_
        refine x_aload_n C dX8_change_28 rfl 0 rfl ?_
        refine x_getr C 0 rfl rfl inX8 2 (by decide) rfl kF_X8_26 rfl dX8_change_29 ?_
        refine x_getr C 9 rfl rfl inX3 6 (by decide) rfl kF_X8_107 rfl dX8_change_32 ?_
        refine x_iload_n C dX8_change_35 rfl 1 rfl ?_
        obtain ⟨hb7, h⟩ := ck_some h
        refine x_iald C 13 rfl hb7 (v := (σ 13 x1.toNatClampNeg)) rfl dX8_change_36 ?_
        refine x_istore C dX8_change_37 (lv2 := [(0, .ref (gs_a E 0)), (1, .int x1), (2, .int x2), (3, .int x3), (4, .int (σ 13 x1.toNatClampNeg))]) (by decide) rfl [1, 2, 3, 4, 0] rfl ?_
        refine x_aload_n C dX8_change_39 rfl 0 rfl ?_
        refine x_getr C 0 rfl rfl inX8 2 (by decide) rfl kF_X8_26 rfl dX8_change_40 ?_
        refine x_getr C 9 rfl rfl inX3 6 (by decide) rfl kF_X8_107 rfl dX8_change_43 ?_
        refine x_iload_n C dX8_change_46 rfl 1 rfl ?_
        refine x_iload_n C dX8_change_47 rfl 2 rfl ?_
        obtain ⟨hb8, h⟩ := ck_some h
        refine x_iast C 13 rfl hb8 dX8_change_48 ?_
        refine x_aload_n C dX8_change_49 rfl 0 rfl ?_
        refine x_getr C 0 rfl rfl inX8 2 (by decide) rfl kF_X8_26 rfl dX8_change_50 ?_
        refine x_getr C 9 rfl rfl inX3 7 (by decide) rfl kF_X8_151 rfl dX8_change_53 ?_
        refine x_iload_n C dX8_change_56 rfl 1 rfl ?_
        refine x_iload_n C dX8_change_57 rfl 3 rfl ?_
        obtain ⟨hb9, h⟩ := ck_some h
        refine x_iast C 14 rfl hb9 dX8_change_58 ?_
        refine x_iload C dX8_change_59 4 rfl ?_
        replace h := Option.some.inj h
        obtain ⟨rfl, rfl⟩ := Prod.mk.inj h
        exact x_ret C hr rfl rfl dX8_change_61
def f_X8_countOf (x1 : Int32) (σ : gs_H) : Option (Int32) :=
if x1 = 0 then (
some (σ 9 0))
else (
if x1 = 1 then (
some (σ 9 1))
else (
if x1 = 2 then (
(f_X6_rodsThere σ).bind fun q2 =>
some q2)
else (
if x1 = 3 then (
(f_X6_rodsLevel 35 σ).bind fun q3 =>
some q3)
else (
if x1 = 4 then (
(f_X6_thingsThere σ).bind fun q4 =>
some q4)
else (
if x1 = 5 then (
some (σ 9 2))
else (
if x1 = 6 then (
if (f_X8_hasMobile σ) = 0 then (
some (10000 : Int32))
else (
if inb (0 : Int32) 10 then
if inb (1 : Int32) 10 then
some (((σ 36 (0 : Int32).toNatClampNeg) + (σ 36 (1 : Int32).toNatClampNeg)) + (10000 : Int32)) else none else none))
else (
if x1 = 7 then (
some (σ 17 0))
else (
if x1 = 8 then (
some (σ 1 1))
else (
if x1 = 9 then (
some (σ 0 8))
else (
some (σ 0 9)))))))))))
set_option maxHeartbeats 4000000 in
set_option maxRecDepth 20000 in
theorem m_X8_countOf {E : gs_E} {l : Launch} {x1 : Int32} {σ : gs_H} {g : Int64} {r0 : Int32} (h : f_X8_countOf x1 σ = some r0) : gs_M l E yX8_countOf cX8_countOf 2 (some .int) (3, 68) [.ref (gs_a E 0), .int x1] σ g (some (.int r0)) σ g := by
  refine x_enter (lv := [(0, .ref (gs_a E 0)), (1, .int x1)]) (by decide +kernel) (Nat.le_of_ble_eq_true rfl) rfl (fun p e s m args below meth c C hr => ?_)
  unfold f_X8_countOf at h
  refine x_iload_n C dX8_countOf_0 rfl 1 rfl ?_
  by_cases hs1_0 : x1 = 0
  · replace h := (if_pos hs1_0).symm.trans h
    refine x_tsw C dX8_countOf_1 0 hs1_0 (by decide) (by decide) (off := 55) rfl (tgt := 56) (by decide) ?_
    refine x_aload_n C dX8_countOf_56 rfl 0 rfl ?_
    refine x_getr C 0 rfl rfl inX8 2 (by decide) rfl kF_X8_26 rfl dX8_countOf_57 ?_
    refine x_geti C 9 rfl rfl inX3 0 (by decide) rfl kF_X8_223 rfl (v := (σ 9 0)) rfl dX8_countOf_60 ?_
    replace h := Option.some.inj h
    subst h
    exact x_ret C hr rfl rfl dX8_countOf_63
  · replace h := (if_neg hs1_0).symm.trans h
    by_cases hs1_1 : x1 = 1
    · replace h := (if_pos hs1_1).symm.trans h
      refine x_tsw C dX8_countOf_1 1 hs1_1 (by decide) (by decide) (off := 63) rfl (tgt := 64) (by decide) ?_
      refine x_aload_n C dX8_countOf_64 rfl 0 rfl ?_
      refine x_getr C 0 rfl rfl inX8 2 (by decide) rfl kF_X8_26 rfl dX8_countOf_65 ?_
      refine x_geti C 9 rfl rfl inX3 1 (by decide) rfl kF_X8_81 rfl (v := (σ 9 1)) rfl dX8_countOf_68 ?_
      replace h := Option.some.inj h
      subst h
      exact x_ret C hr rfl rfl dX8_countOf_71
    · replace h := (if_neg hs1_1).symm.trans h
      by_cases hs1_2 : x1 = 2
      · replace h := (if_pos hs1_2).symm.trans h
        refine x_tsw C dX8_countOf_1 2 hs1_2 (by decide) (by decide) (off := 71) rfl (tgt := 72) (by decide) ?_
        refine x_aload_n C dX8_countOf_72 rfl 0 rfl ?_
        refine x_getr C 0 rfl rfl inX8 4 (by decide) rfl kF_X8_36 rfl dX8_countOf_73 ?_
        refine x_aload_n C dX8_countOf_76 rfl 0 rfl ?_
        refine x_getr C 0 rfl rfl inX8 2 (by decide) rfl kF_X8_26 rfl dX8_countOf_77 ?_
        obtain ⟨v2, hv2, h⟩ := Option.bind_eq_some_iff.mp h
        refine x_callV C 35 (m_X6_rodsThere hv2) rfl rfl kM_X8_141 kI_X6_rodsThere kS_X6_rodsThere kN_X6 kC_X6_rodsThere kD_X6_rodsThere rfl ⟨Nat.le_of_ble_eq_true rfl, Nat.le_of_ble_eq_true rfl⟩ ⟨Nat.le_refl _, Nat.le_refl _⟩ (rest := []) rfl (Nat.le_of_ble_eq_true rfl) dX8_countOf_80 (st' := [.int v2]) rfl ?_
        replace h := Option.some.inj h
        subst h
        exact x_ret C hr rfl rfl dX8_countOf_83
      · replace h := (if_neg hs1_2).symm.trans h
        by_cases hs1_3 : x1 = 3
        · replace h := (if_pos hs1_3).symm.trans h
          refine x_tsw C dX8_countOf_1 3 hs1_3 (by decide) (by decide) (off := 83) rfl (tgt := 84) (by decide) ?_
          refine x_aload_n C dX8_countOf_84 rfl 0 rfl ?_
          refine x_getr C 0 rfl rfl inX8 4 (by decide) rfl kF_X8_36 rfl dX8_countOf_85 ?_
          refine x_aload_n C dX8_countOf_88 rfl 0 rfl ?_
          refine x_getr C 0 rfl rfl inX8 2 (by decide) rfl kF_X8_26 rfl dX8_countOf_89 ?_
          obtain ⟨v3, hv3, h⟩ := Option.bind_eq_some_iff.mp h
          refine x_callV C 35 (m_X6_rodsLevel_35 hv3) rfl rfl kM_X8_234 kI_X6_rodsLevel kS_X6_rodsLevel kN_X6 kC_X6_rodsLevel kD_X6_rodsLevel rfl ⟨Nat.le_of_ble_eq_true rfl, Nat.le_of_ble_eq_true rfl⟩ ⟨Nat.le_refl _, Nat.le_refl _⟩ (rest := []) rfl (Nat.le_of_ble_eq_true rfl) dX8_countOf_92 (st' := [.int v3]) rfl ?_
          replace h := Option.some.inj h
          subst h
          exact x_ret C hr rfl rfl dX8_countOf_95
        · replace h := (if_neg hs1_3).symm.trans h
          by_cases hs1_4 : x1 = 4
          · replace h := (if_pos hs1_4).symm.trans h
            refine x_tsw C dX8_countOf_1 4 hs1_4 (by decide) (by decide) (off := 95) rfl (tgt := 96) (by decide) ?_
            refine x_aload_n C dX8_countOf_96 rfl 0 rfl ?_
            refine x_getr C 0 rfl rfl inX8 4 (by decide) rfl kF_X8_36 rfl dX8_countOf_97 ?_
            refine x_aload_n C dX8_countOf_100 rfl 0 rfl ?_
            refine x_getr C 0 rfl rfl inX8 2 (by decide) rfl kF_X8_26 rfl dX8_countOf_101 ?_
            obtain ⟨v4, hv4, h⟩ := Option.bind_eq_some_iff.mp h
            refine x_callV C 35 (m_X6_thingsThere hv4) rfl rfl kM_X8_266 kI_X6_thingsThere kS_X6_thingsThere kN_X6 kC_X6_thingsThere kD_X6_thingsThere rfl ⟨Nat.le_of_ble_eq_true rfl, Nat.le_of_ble_eq_true rfl⟩ ⟨Nat.le_refl _, Nat.le_refl _⟩ (rest := []) rfl (Nat.le_of_ble_eq_true rfl) dX8_countOf_104 (st' := [.int v4]) rfl ?_
            replace h := Option.some.inj h
            subst h
            exact x_ret C hr rfl rfl dX8_countOf_107
          · replace h := (if_neg hs1_4).symm.trans h
            by_cases hs1_5 : x1 = 5
            · replace h := (if_pos hs1_5).symm.trans h
              refine x_tsw C dX8_countOf_1 5 hs1_5 (by decide) (by decide) (off := 107) rfl (tgt := 108) (by decide) ?_
              refine x_aload_n C dX8_countOf_108 rfl 0 rfl ?_
              refine x_getr C 0 rfl rfl inX8 2 (by decide) rfl kF_X8_26 rfl dX8_countOf_109 ?_
              refine x_geti C 9 rfl rfl inX3 2 (by decide) rfl kF_X8_117 rfl (v := (σ 9 2)) rfl dX8_countOf_112 ?_
              replace h := Option.some.inj h
              subst h
              exact x_ret C hr rfl rfl dX8_countOf_115
            · replace h := (if_neg hs1_5).symm.trans h
              by_cases hs1_6 : x1 = 6
              · replace h := (if_pos hs1_6).symm.trans h
                refine x_tsw C dX8_countOf_1 6 hs1_6 (by decide) (by decide) (off := 115) rfl (tgt := 116) (by decide) ?_
                refine x_aload_n C dX8_countOf_116 rfl 0 rfl ?_
                refine x_callV C 0 (m_X8_hasMobile rfl) rfl rfl kM_X8_114 kI_X8_hasMobile kS_X8_hasMobile kN_X8 kC_X8_hasMobile kD_X8_hasMobile rfl ⟨Nat.le_of_ble_eq_true rfl, Nat.le_of_ble_eq_true rfl⟩ ⟨Nat.le_refl _, Nat.le_refl _⟩ (rest := []) rfl (Nat.le_of_ble_eq_true rfl) dX8_countOf_117 (st' := [.int (f_X8_hasMobile σ)]) rfl ?_
                by_cases hc6 : (f_X8_hasMobile σ) = 0
                · replace h := (if_pos hc6).symm.trans h
                  refine x_if_eqT C dX8_countOf_120 (tgt := 149) (by decide) hc6 ?_
                  refine x_sipush C dX8_countOf_149 (v := 10000) (by decide) ?_
                  replace h := Option.some.inj h
                  subst h
                  exact x_ret C hr rfl rfl dX8_countOf_152
                · replace h := (if_neg hc6).symm.trans h
                  refine x_if_eqF C dX8_countOf_120 (tgt := 149) (by decide) hc6 ?_
                  refine x_aload_n C dX8_countOf_123 rfl 0 rfl ?_
                  refine x_getr C 0 rfl rfl inX8 4 (by decide) rfl kF_X8_36 rfl dX8_countOf_124 ?_
                  refine x_getr C 35 rfl rfl inX6 0 (by decide) rfl kF_X8_240 rfl dX8_countOf_127 ?_
                  refine x_iconst C dX8_countOf_130 (v := 0) (by decide) ?_
                  obtain ⟨hb7, h⟩ := ck_some h
                  refine x_iald C 36 rfl hb7 (v := (σ 36 (0 : Int32).toNatClampNeg)) rfl dX8_countOf_131 ?_
                  refine x_aload_n C dX8_countOf_132 rfl 0 rfl ?_
                  refine x_getr C 0 rfl rfl inX8 4 (by decide) rfl kF_X8_36 rfl dX8_countOf_133 ?_
                  refine x_getr C 35 rfl rfl inX6 0 (by decide) rfl kF_X8_240 rfl dX8_countOf_136 ?_
                  refine x_iconst C dX8_countOf_139 (v := 1) (by decide) ?_
                  obtain ⟨hb8, h⟩ := ck_some h
                  refine x_iald C 36 rfl hb8 (v := (σ 36 (1 : Int32).toNatClampNeg)) rfl dX8_countOf_140 ?_
                  refine x_iadd C dX8_countOf_141 ?_
                  refine x_sipush C dX8_countOf_142 (v := 10000) (by decide) ?_
                  refine x_iadd C dX8_countOf_145 ?_
                  refine x_goto C dX8_countOf_146 (tgt := 152) (by decide) ?_
                  replace h := Option.some.inj h
                  subst h
                  exact x_ret C hr rfl rfl dX8_countOf_152
              · replace h := (if_neg hs1_6).symm.trans h
                by_cases hs1_7 : x1 = 7
                · replace h := (if_pos hs1_7).symm.trans h
                  refine x_tsw C dX8_countOf_1 7 hs1_7 (by decide) (by decide) (off := 152) rfl (tgt := 153) (by decide) ?_
                  refine x_aload_n C dX8_countOf_153 rfl 0 rfl ?_
                  refine x_getr C 0 rfl rfl inX8 2 (by decide) rfl kF_X8_26 rfl dX8_countOf_154 ?_
                  refine x_getr C 9 rfl rfl inX3 10 (by decide) rfl kF_X8_186 rfl dX8_countOf_157 ?_
                  refine x_geti C 17 rfl rfl inX7 0 (by decide) rfl kF_X8_190 rfl (v := (σ 17 0)) rfl dX8_countOf_160 ?_
                  replace h := Option.some.inj h
                  subst h
                  exact x_ret C hr rfl rfl dX8_countOf_163
                · replace h := (if_neg hs1_7).symm.trans h
                  by_cases hs1_8 : x1 = 8
                  · replace h := (if_pos hs1_8).symm.trans h
                    refine x_tsw C dX8_countOf_1 8 hs1_8 (by decide) (by decide) (off := 163) rfl (tgt := 164) (by decide) ?_
                    refine x_aload_n C dX8_countOf_164 rfl 0 rfl ?_
                    refine x_getr C 0 rfl rfl inX8 0 (by decide) rfl kF_X8_12 rfl dX8_countOf_165 ?_
                    refine x_geti C 1 rfl rfl inX4 1 (by decide) rfl kF_X8_54 rfl (v := (σ 1 1)) rfl dX8_countOf_168 ?_
                    replace h := Option.some.inj h
                    subst h
                    exact x_ret C hr rfl rfl dX8_countOf_171
                  · replace h := (if_neg hs1_8).symm.trans h
                    by_cases hs1_9 : x1 = 9
                    · replace h := (if_pos hs1_9).symm.trans h
                      refine x_tsw C dX8_countOf_1 9 hs1_9 (by decide) (by decide) (off := 171) rfl (tgt := 172) (by decide) ?_
                      refine x_aload_n C dX8_countOf_172 rfl 0 rfl ?_
                      refine x_geti C 0 rfl rfl inX8 8 (by decide) rfl kF_X8_78 rfl (v := (σ 0 8)) rfl dX8_countOf_173 ?_
                      replace h := Option.some.inj h
                      subst h
                      exact x_ret C hr rfl rfl dX8_countOf_176
                    · replace h := (if_neg hs1_9).symm.trans h
                      refine x_tswD C dX8_countOf_1 (tgt := 177) (by have e0 := lv_neT hs1_0 (a := 0) rfl; have e1 := lv_neT hs1_1 (a := 1) rfl; have e2 := lv_neT hs1_2 (a := 2) rfl; have e3 := lv_neT hs1_3 (a := 3) rfl; have e4 := lv_neT hs1_4 (a := 4) rfl; have e5 := lv_neT hs1_5 (a := 5) rfl; have e6 := lv_neT hs1_6 (a := 6) rfl; have e7 := lv_neT hs1_7 (a := 7) rfl; have e8 := lv_neT hs1_8 (a := 8) rfl; have e9 := lv_neT hs1_9 (a := 9) rfl; omega) (by decide) ?_
                      refine x_aload_n C dX8_countOf_177 rfl 0 rfl ?_
                      refine x_geti C 0 rfl rfl inX8 9 (by decide) rfl kF_X8_157 rfl (v := (σ 0 9)) rfl dX8_countOf_178 ?_
                      replace h := Option.some.inj h
                      subst h
                      exact x_ret C hr rfl rfl dX8_countOf_181
def f_X8_count (x1 : Int32) (σ : gs_H) : Option (Int32 × gs_H) :=
if x1 < 0 then (
some ((-102 : Int32), σ))
else (
if x1 < (11 : Int32) then (
(f_X6_weigh 35 σ).bind fun q3 =>
(f_X8_countOf x1 q3).bind fun q4 =>
some (q4, q3))
else (
some ((-102 : Int32), σ)))
set_option maxHeartbeats 4000000 in
set_option maxRecDepth 20000 in
theorem m_X8_count {E : gs_E} {l : Launch} {x1 : Int32} {σ : gs_H} {g : Int64} {r0 : Int32} {σ0 : gs_H} (h : f_X8_count x1 σ = some (r0, σ0)) : gs_M l E yX8_count cX8_count 2 (some .int) (4, 93) [.ref (gs_a E 0), .int x1] σ g (some (.int r0)) σ0 g := by
  refine x_enter (lv := [(0, .ref (gs_a E 0)), (1, .int x1)]) (by decide +kernel) (Nat.le_of_ble_eq_true rfl) rfl (fun p e s m args below meth c C hr => ?_)
  unfold f_X8_count at h
  refine x_iload_n C dX8_count_0 rfl 1 rfl ?_
  by_cases hc1 : x1 < 0
  · replace h := (if_pos hc1).symm.trans h
    refine x_if_ltT C dX8_count_1 (tgt := 10) (by decide) hc1 ?_
    refine x_bipush C dX8_count_10 (v := -102) (by decide) ?_
    replace h := Option.some.inj h
    obtain ⟨rfl, rfl⟩ := Prod.mk.inj h
    exact x_ret C hr rfl rfl dX8_count_12
  · replace h := (if_neg hc1).symm.trans h
    refine x_if_ltF C dX8_count_1 (tgt := 10) (by decide) hc1 ?_
    refine x_iload_n C dX8_count_4 rfl 1 rfl ?_
    refine x_bipush C dX8_count_5 (v := 11) (by decide) ?_
    by_cases hc2 : x1 < (11 : Int32)
    · replace h := (if_pos hc2).symm.trans h
      refine x_icmp_ltT C dX8_count_7 (tgt := 13) (by decide) hc2 ?_
      refine x_aload_n C dX8_count_13 rfl 0 rfl ?_
      refine x_getr C 0 rfl rfl inX8 4 (by decide) rfl kF_X8_36 rfl dX8_count_14 ?_
      refine x_aload_n C dX8_count_17 rfl 0 rfl ?_
      refine x_getr C 0 rfl rfl inX8 2 (by decide) rfl kF_X8_26 rfl dX8_count_18 ?_
      obtain ⟨s3, hv3, h⟩ := Option.bind_eq_some_iff.mp h
      refine x_callV C 35 (m_X6_weigh_35 hv3) rfl rfl kM_X8_88 kI_X6_weigh kS_X6_weigh kN_X6 kC_X6_weigh kD_X6_weigh rfl ⟨Nat.le_of_ble_eq_true rfl, Nat.le_of_ble_eq_true rfl⟩ ⟨Nat.le_refl _, Nat.le_refl _⟩ (rest := []) rfl (Nat.le_of_ble_eq_true rfl) dX8_count_21 (st' := []) rfl ?_
      refine x_aload_n C dX8_count_24 rfl 0 rfl ?_
      refine x_iload_n C dX8_count_25 rfl 1 rfl ?_
      obtain ⟨v4, hv4, h⟩ := Option.bind_eq_some_iff.mp h
      refine x_callV C 0 (m_X8_countOf hv4) rfl rfl kM_X8_217 kI_X8_countOf kS_X8_countOf kN_X8 kC_X8_countOf kD_X8_countOf rfl ⟨Nat.le_of_ble_eq_true rfl, Nat.le_of_ble_eq_true rfl⟩ ⟨Nat.le_refl _, Nat.le_refl _⟩ (rest := []) rfl (Nat.le_of_ble_eq_true rfl) dX8_count_26 (st' := [.int v4]) rfl ?_
      replace h := Option.some.inj h
      obtain ⟨rfl, rfl⟩ := Prod.mk.inj h
      exact x_ret C hr rfl rfl dX8_count_29
    · replace h := (if_neg hc2).symm.trans h
      refine x_icmp_ltF C dX8_count_7 (tgt := 13) (by decide) hc2 ?_
      refine x_bipush C dX8_count_10 (v := -102) (by decide) ?_
      replace h := Option.some.inj h
      obtain ⟨rfl, rfl⟩ := Prod.mk.inj h
      exact x_ret C hr rfl rfl dX8_count_12
def f_X8_levelNow (σ : gs_H) : Option (Int32 × gs_H) :=
(f_X6_weigh 35 σ).bind fun q1 =>
(f_X6_rodsLevel 35 q1).bind fun q2 =>
some (q2, q1)
set_option maxHeartbeats 4000000 in
set_option maxRecDepth 20000 in
theorem m_X8_levelNow {E : gs_E} {l : Launch} {σ : gs_H} {g : Int64} {r0 : Int32} {σ0 : gs_H} (h : f_X8_levelNow σ = some (r0, σ0)) : gs_M l E yX8_levelNow cX8_levelNow 1 (some .int) (4, 93) [.ref (gs_a E 0)] σ g (some (.int r0)) σ0 g := by
  refine x_enter (lv := [(0, .ref (gs_a E 0))]) (by decide +kernel) (Nat.le_of_ble_eq_true rfl) rfl (fun p e s m args below meth c C hr => ?_)
  unfold f_X8_levelNow at h
  refine x_aload_n C dX8_levelNow_0 rfl 0 rfl ?_
  refine x_getr C 0 rfl rfl inX8 4 (by decide) rfl kF_X8_36 rfl dX8_levelNow_1 ?_
  refine x_aload_n C dX8_levelNow_4 rfl 0 rfl ?_
  refine x_getr C 0 rfl rfl inX8 2 (by decide) rfl kF_X8_26 rfl dX8_levelNow_5 ?_
  obtain ⟨s1, hv1, h⟩ := Option.bind_eq_some_iff.mp h
  refine x_callV C 35 (m_X6_weigh_35 hv1) rfl rfl kM_X8_88 kI_X6_weigh kS_X6_weigh kN_X6 kC_X6_weigh kD_X6_weigh rfl ⟨Nat.le_of_ble_eq_true rfl, Nat.le_of_ble_eq_true rfl⟩ ⟨Nat.le_refl _, Nat.le_refl _⟩ (rest := []) rfl (Nat.le_of_ble_eq_true rfl) dX8_levelNow_8 (st' := []) rfl ?_
  refine x_aload_n C dX8_levelNow_11 rfl 0 rfl ?_
  refine x_getr C 0 rfl rfl inX8 4 (by decide) rfl kF_X8_36 rfl dX8_levelNow_12 ?_
  refine x_aload_n C dX8_levelNow_15 rfl 0 rfl ?_
  refine x_getr C 0 rfl rfl inX8 2 (by decide) rfl kF_X8_26 rfl dX8_levelNow_16 ?_
  obtain ⟨v2, hv2, h⟩ := Option.bind_eq_some_iff.mp h
  refine x_callV C 35 (m_X6_rodsLevel_35 hv2) rfl rfl kM_X8_234 kI_X6_rodsLevel kS_X6_rodsLevel kN_X6 kC_X6_rodsLevel kD_X6_rodsLevel rfl ⟨Nat.le_of_ble_eq_true rfl, Nat.le_of_ble_eq_true rfl⟩ ⟨Nat.le_refl _, Nat.le_refl _⟩ (rest := []) rfl (Nat.le_of_ble_eq_true rfl) dX8_levelNow_19 (st' := [.int v2]) rfl ?_
  replace h := Option.some.inj h
  obtain ⟨rfl, rfl⟩ := Prod.mk.inj h
  exact x_ret C hr rfl rfl dX8_levelNow_22
def f_X8_cut (x1 : Int32) (σ : gs_H) : Option (Int32 × gs_H) :=
if (f_X8_isThing x1 σ) = 0 then (
some ((-101 : Int32), σ))
else (
if inb x1 6 then
if (σ 15 x1.toNatClampNeg) = 0 then (
if inb x1 6 then
(f_X8_levelNow (up2 σ 15 x1.toNatClampNeg (1 : Int32))).bind fun q6 =>
some (q6.1, q6.2) else none)
else (
some ((-103 : Int32), σ)) else none)
set_option maxHeartbeats 4000000 in
set_option maxRecDepth 20000 in
theorem m_X8_cut {E : gs_E} {l : Launch} {x1 : Int32} {σ : gs_H} {g : Int64} {r0 : Int32} {σ0 : gs_H} (h : f_X8_cut x1 σ = some (r0, σ0)) : gs_M l E yX8_cut cX8_cut 2 (some .int) (5, 113) [.ref (gs_a E 0), .int x1] σ g (some (.int r0)) σ0 g := by
  refine x_enter (lv := [(0, .ref (gs_a E 0)), (1, .int x1)]) (by decide +kernel) (Nat.le_of_ble_eq_true rfl) rfl (fun p e s m args below meth c C hr => ?_)
  unfold f_X8_cut at h
  refine x_aload_n C dX8_cut_0 rfl 0 rfl ?_
  refine x_iload_n C dX8_cut_1 rfl 1 rfl ?_
  refine x_callV C 0 (m_X8_isThing rfl) rfl rfl kM_X8_96 kI_X8_isThing kS_X8_isThing kN_X8 kC_X8_isThing kD_X8_isThing rfl ⟨Nat.le_of_ble_eq_true rfl, Nat.le_of_ble_eq_true rfl⟩ ⟨Nat.le_refl _, Nat.le_refl _⟩ (rest := []) rfl (Nat.le_of_ble_eq_true rfl) dX8_cut_2 (st' := [.int (f_X8_isThing x1 σ)]) rfl ?_
  by_cases hc2 : (f_X8_isThing x1 σ) = 0
  · replace h := (if_pos hc2).symm.trans h
    refine x_if_neF C dX8_cut_5 (tgt := 11) (by decide) hc2 ?_
    refine x_bipush C dX8_cut_8 (v := -101) (by decide) ?_
    replace h := Option.some.inj h
    obtain ⟨rfl, rfl⟩ := Prod.mk.inj h
    exact x_ret C hr rfl rfl dX8_cut_10
  · replace h := (if_neg hc2).symm.trans h
    refine x_if_neT C dX8_cut_5 (tgt := 11) (by decide) hc2 ?_
    refine x_aload_n C dX8_cut_11 rfl 0 rfl ?_
    refine x_getr C 0 rfl rfl inX8 2 (by decide) rfl kF_X8_26 rfl dX8_cut_12 ?_
    refine x_getr C 9 rfl rfl inX3 8 (by decide) rfl kF_X8_120 rfl dX8_cut_15 ?_
    refine x_iload_n C dX8_cut_18 rfl 1 rfl ?_
    obtain ⟨hb3, h⟩ := ck_some h
    refine x_zald C 15 rfl hb3 (v := (σ 15 x1.toNatClampNeg)) rfl dX8_cut_19 ?_
    by_cases hc4 : (σ 15 x1.toNatClampNeg) = 0
    · replace h := (if_pos hc4).symm.trans h
      refine x_if_eqT C dX8_cut_20 (tgt := 26) (by decide) hc4 ?_
      refine x_aload_n C dX8_cut_26 rfl 0 rfl ?_
      refine x_getr C 0 rfl rfl inX8 2 (by decide) rfl kF_X8_26 rfl dX8_cut_27 ?_
      refine x_getr C 9 rfl rfl inX3 8 (by decide) rfl kF_X8_120 rfl dX8_cut_30 ?_
      refine x_iload_n C dX8_cut_33 rfl 1 rfl ?_
      refine x_iconst C dX8_cut_34 (v := 1) (by decide) ?_
      obtain ⟨hb5, h⟩ := ck_some h
      refine x_zast C 15 rfl hb5 (by decide) dX8_cut_35 ?_
      refine x_aload_n C dX8_cut_36 rfl 0 rfl ?_
      obtain ⟨⟨v6, s6⟩, hv6, h⟩ := Option.bind_eq_some_iff.mp h
      try dsimp only at h
      refine x_callV C 0 (m_X8_levelNow hv6) rfl rfl kM_X8_131 kI_X8_levelNow kS_X8_levelNow kN_X8 kC_X8_levelNow kD_X8_levelNow rfl ⟨Nat.le_of_ble_eq_true rfl, Nat.le_of_ble_eq_true rfl⟩ ⟨Nat.le_refl _, Nat.le_refl _⟩ (rest := []) rfl (Nat.le_of_ble_eq_true rfl) dX8_cut_37 (st' := [.int v6]) rfl ?_
      replace h := Option.some.inj h
      obtain ⟨rfl, rfl⟩ := Prod.mk.inj h
      exact x_ret C hr rfl rfl dX8_cut_40
    · replace h := (if_neg hc4).symm.trans h
      refine x_if_eqF C dX8_cut_20 (tgt := 26) (by decide) hc4 ?_
      refine x_bipush C dX8_cut_23 (v := -103) (by decide) ?_
      replace h := Option.some.inj h
      obtain ⟨rfl, rfl⟩ := Prod.mk.inj h
      exact x_ret C hr rfl rfl dX8_cut_25
def f_X8_even (σ : gs_H) : Option (Int32 × gs_H) :=
if (f_X8_hasMobile σ) = 0 then (
some ((-103 : Int32), σ))
else (
(f_X0_hoursUntilLevel σ).bind fun q3 =>
some (q3.1, q3.2))
set_option maxHeartbeats 4000000 in
set_option maxRecDepth 20000 in
theorem m_X8_even {E : gs_E} {l : Launch} {σ : gs_H} {g : Int64} {r0 : Int32} {σ0 : gs_H} (h : f_X8_even σ = some (r0, σ0)) : gs_M l E yX8_even cX8_even 1 (some .int) (4, 94) [.ref (gs_a E 0)] σ g (some (.int r0)) σ0 g := by
  refine x_enter (lv := [(0, .ref (gs_a E 0))]) (by decide +kernel) (Nat.le_of_ble_eq_true rfl) rfl (fun p e s m args below meth c C hr => ?_)
  unfold f_X8_even at h
  refine x_aload_n C dX8_even_0 rfl 0 rfl ?_
  refine x_callV C 0 (m_X8_hasMobile rfl) rfl rfl kM_X8_114 kI_X8_hasMobile kS_X8_hasMobile kN_X8 kC_X8_hasMobile kD_X8_hasMobile rfl ⟨Nat.le_of_ble_eq_true rfl, Nat.le_of_ble_eq_true rfl⟩ ⟨Nat.le_refl _, Nat.le_refl _⟩ (rest := []) rfl (Nat.le_of_ble_eq_true rfl) dX8_even_1 (st' := [.int (f_X8_hasMobile σ)]) rfl ?_
  by_cases hc2 : (f_X8_hasMobile σ) = 0
  · replace h := (if_pos hc2).symm.trans h
    refine x_if_eqT C dX8_even_4 (tgt := 21) (by decide) hc2 ?_
    refine x_bipush C dX8_even_21 (v := -103) (by decide) ?_
    replace h := Option.some.inj h
    obtain ⟨rfl, rfl⟩ := Prod.mk.inj h
    exact x_ret C hr rfl rfl dX8_even_23
  · replace h := (if_neg hc2).symm.trans h
    refine x_if_eqF C dX8_even_4 (tgt := 21) (by decide) hc2 ?_
    refine x_aload_n C dX8_even_7 rfl 0 rfl ?_
    refine x_getr C 0 rfl rfl inX8 6 (by decide) rfl kF_X8_50 rfl dX8_even_8 ?_
    refine x_aload_n C dX8_even_11 rfl 0 rfl ?_
    refine x_getr C 0 rfl rfl inX8 2 (by decide) rfl kF_X8_26 rfl dX8_even_12 ?_
    obtain ⟨⟨v3, s3⟩, hv3, h⟩ := Option.bind_eq_some_iff.mp h
    try dsimp only at h
    refine x_callV C 50 (m_X0_hoursUntilLevel hv3) rfl rfl kM_X8_172 kI_X0_hoursUntilLevel kS_X0_hoursUntilLevel kN_X0 kC_X0_hoursUntilLevel kD_X0_hoursUntilLevel rfl ⟨Nat.le_of_ble_eq_true rfl, Nat.le_of_ble_eq_true rfl⟩ ⟨Nat.le_refl _, Nat.le_refl _⟩ (rest := []) rfl (Nat.le_of_ble_eq_true rfl) dX8_even_15 (st' := [.int v3]) rfl ?_
    refine x_goto C dX8_even_18 (tgt := 23) (by decide) ?_
    replace h := Option.some.inj h
    obtain ⟨rfl, rfl⟩ := Prod.mk.inj h
    exact x_ret C hr rfl rfl dX8_even_23
def b_X8_digest_249 (σ : gs_H) (y : Int64 × Int32) : Option ((Int64 × Int32) ⊕ ((Int64))) :=
if (11 : Int32) ≤ y.2 then (
some (Sum.inr y.1))
else (
(f_X8_countOf y.2 σ).bind fun q14 =>
some (Sum.inl ((((31 : Int64) * y.1) + q14.toInt64), (y.2 + (1 : Int32)))))
def b_X8_digest_213 (σ : gs_H) (y : Int64 × Int32) : Option ((Int64 × Int32) ⊕ ((Int64))) :=
if (σ 1 1) ≤ y.2 then (
some (Sum.inr y.1))
else (
if inb y.2 46 then
some (Sum.inl ((((31 : Int64) * y.1) + (σ 2 y.2.toNatClampNeg).toInt64), (y.2 + (1 : Int32)))) else none)
def b_X8_digest_81 (x3 : Int32) (σ : gs_H) (y : Int64 × Int32) : Option ((Int64 × Int32) ⊕ ((Int64))) :=
if (7 : Int32) ≤ y.2 then (
some (Sum.inr y.1))
else (
(f_X8_aboutThing x3 y.2 σ).bind fun q18 =>
some (Sum.inl ((((31 : Int64) * y.1) + q18.toInt64), (y.2 + (1 : Int32)))))
def b_X8_digest_67 (σ : gs_H) (y : Int64 × Int32) : Option ((Int64 × Int32) ⊕ ((Int64))) :=
if (σ 9 1) ≤ y.2 then (
some (Sum.inr y.1))
else (
(lp (b_X8_digest_81 y.2 σ) 1000 (y.1, (0 : Int32))).bind fun q20 =>
(f_X7_beadToTry y.2 (0 : Int32) σ).bind fun q21 =>
some (Sum.inl ((((31 : Int64) * q20) + q21.toInt64), (y.2 + (1 : Int32)))))
def b_X8_digest_31 (x3 : Int32) (σ : gs_H) (y : Int64 × Int32) : Option ((Int64 × Int32) ⊕ ((Int64))) :=
if (11 : Int32) ≤ y.2 then (
some (Sum.inr y.1))
else (
(f_X8_aboutRod x3 y.2 σ).bind fun q23 =>
some (Sum.inl ((((31 : Int64) * y.1) + q23.toInt64), (y.2 + (1 : Int32)))))
def b_X8_digest_17 (σ : gs_H) (y : Int64 × Int32) : Option ((Int64 × Int32) ⊕ ((Int64))) :=
if (σ 9 0) ≤ y.2 then (
some (Sum.inr y.1))
else (
(lp (b_X8_digest_31 y.2 σ) 1000 (y.1, (0 : Int32))).bind fun q25 =>
some (Sum.inl (q25, (y.2 + (1 : Int32)))))
def f_X8_digest (σ : gs_H) : Option (Int64 × gs_H) :=
(f_X6_weigh 35 σ).bind fun q1 =>
(lp (b_X8_digest_17 q1) 1000 ((1303 : Int64), (0 : Int32))).bind fun q2 =>
(lp (b_X8_digest_67 q1) 1000 (q2, (0 : Int32))).bind fun q3 =>
if (f_X8_hasMobile q1) = 0 then (
(lp (b_X8_digest_213 q1) 1000 (q3, (0 : Int32))).bind fun q6 =>
(lp (b_X8_digest_249 q1) 1000 (q6, (0 : Int32))).bind fun q7 =>
some (q7, q1))
else (
(f_X8_best q1).bind fun q8 =>
(f_X8_even q8.2).bind fun q9 =>
(f_X2_findOdds q9.2).bind fun q10 =>
(lp (b_X8_digest_213 q10) 1000 ((((31 : Int64) * (((31 : Int64) * (((31 : Int64) * (((31 : Int64) * q3) + q8.1.toInt64)) + q9.1.toInt64)) + (q10 40 3).toInt64)) + (q10 40 4).toInt64), (0 : Int32))).bind fun q11 =>
(lp (b_X8_digest_249 q10) 1000 (q11, (0 : Int32))).bind fun q12 =>
some (q12, q10))
set_option maxHeartbeats 4000000 in
set_option maxRecDepth 20000 in
theorem wl_X8_digest_249 {E : gs_E} {l : Launch} {p : Program} {e : Env} {s : State} {m : MethodId} {args : Array Value} {below : List Frame} {meth : Method} {c : Code} (C : gs_X E RX8 cX8_digest 5 p s m args meth c) {ov : Option Value} {σ0 : gs_H} {g0 : Int64} {σ : gs_H} {g : Int64} {q : (Int64)} (hx0 : ∀ (z1 : Int64), q = z1 → gs_V E 5 (6, 141) p l e s m args below meth c ov σ0 g0 274 [(1, .long z1)] [] σ g) : ∀ (n : Nat) (y1 : Int64) (y3 : Int32), lp (b_X8_digest_249 σ) n (y1, y3) = some q → gs_V E 5 (6, 141) p l e s m args below meth c ov σ0 g0 249 [(0, .ref (gs_a E 0)), (1, .long y1), (3, .int y3)] [] σ g := by
  intro n
  induction n with
  | zero => intro y1 y3 h; cases h
  | succ n ih =>
    intro y1 y3 h
    obtain ⟨r, h, hl, he⟩ := lp_step h
    have hc := fun (y1 : Int64) (y3 : Int32) (hr : r = Sum.inl (y1, y3)) => ih y1 y3 (hl _ hr)
    have hk0 := fun (z1 : Int64) (hr : r = Sum.inr z1) => hx0 z1 (he _ hr).symm
    unfold b_X8_digest_249 at h
    try dsimp only at h
    refine x_iload_n C dX8_digest_249 rfl 2 rfl ?_
    refine x_bipush C dX8_digest_250 (v := 11) (by decide) ?_
    by_cases hc1 : (11 : Int32) ≤ y3
    · replace h := (if_pos hc1).symm.trans h
      refine x_icmp_geT C dX8_digest_252 (tgt := 274) (by decide) hc1 ?_
      refine x_lv (lv' := [(1, .long y1)]) [1] rfl ?_
      obtain rfl := Option.some.inj h
      exact hk0 y1 rfl
    · replace h := (if_neg hc1).symm.trans h
      refine x_icmp_geF C dX8_digest_252 (tgt := 274) (by decide) hc1 ?_
      refine x_ldc2 C kK_X8_226 dX8_digest_255 ?_
      refine x_lload_n C dX8_digest_258 rfl 1 rfl ?_
      refine x_lmul C dX8_digest_259 ?_
      refine x_aload_n C dX8_digest_260 rfl 0 rfl ?_
      refine x_iload_n C dX8_digest_261 rfl 2 rfl ?_
      obtain ⟨v2, hv2, h⟩ := Option.bind_eq_some_iff.mp h
      refine x_callV C 0 (m_X8_countOf hv2) rfl rfl kM_X8_217 kI_X8_countOf kS_X8_countOf kN_X8 kC_X8_countOf kD_X8_countOf rfl ⟨Nat.le_of_ble_eq_true rfl, Nat.le_of_ble_eq_true rfl⟩ ⟨Nat.le_refl _, Nat.le_refl _⟩ (rest := [.long ((31 : Int64) * y1)]) rfl (Nat.le_of_ble_eq_true rfl) dX8_digest_262 (st' := [.int v2, .long ((31 : Int64) * y1)]) rfl ?_
      refine x_i2l C dX8_digest_265 ?_
      refine x_ladd C dX8_digest_266 ?_
      refine x_lstore_n C dX8_digest_267 rfl (lv2 := [(0, .ref (gs_a E 0)), (1, .long (((31 : Int64) * y1) + v2.toInt64)), (3, .int y3)]) (by decide) rfl [1, 0, 2] rfl ?_
      refine x_iinc C dX8_digest_268 2 rfl (v := (y3 + (1 : Int32))) rfl (lv2 := [(0, .ref (gs_a E 0)), (1, .long (((31 : Int64) * y1) + v2.toInt64)), (3, .int (y3 + (1 : Int32)))]) (by decide) rfl [1, 2, 0] rfl ?_
      refine x_goto C dX8_digest_271 (tgt := 249) (by decide) ?_
      obtain rfl := Option.some.inj h
      exact hc (((31 : Int64) * y1) + v2.toInt64) (y3 + (1 : Int32)) rfl
set_option maxHeartbeats 4000000 in
set_option maxRecDepth 20000 in
theorem wl_X8_digest_213 {E : gs_E} {l : Launch} {p : Program} {e : Env} {s : State} {m : MethodId} {args : Array Value} {below : List Frame} {meth : Method} {c : Code} (C : gs_X E RX8 cX8_digest 5 p s m args meth c) {ov : Option Value} {σ0 : gs_H} {g0 : Int64} {σ : gs_H} {g : Int64} {q : (Int64)} (hx0 : ∀ (z1 : Int64), q = z1 → gs_V E 5 (6, 141) p l e s m args below meth c ov σ0 g0 247 [(0, .ref (gs_a E 0)), (1, .long z1)] [] σ g) : ∀ (n : Nat) (y1 : Int64) (y3 : Int32), lp (b_X8_digest_213 σ) n (y1, y3) = some q → gs_V E 5 (6, 141) p l e s m args below meth c ov σ0 g0 213 [(0, .ref (gs_a E 0)), (1, .long y1), (3, .int y3)] [] σ g := by
  intro n
  induction n with
  | zero => intro y1 y3 h; cases h
  | succ n ih =>
    intro y1 y3 h
    obtain ⟨r, h, hl, he⟩ := lp_step h
    have hc := fun (y1 : Int64) (y3 : Int32) (hr : r = Sum.inl (y1, y3)) => ih y1 y3 (hl _ hr)
    have hk0 := fun (z1 : Int64) (hr : r = Sum.inr z1) => hx0 z1 (he _ hr).symm
    unfold b_X8_digest_213 at h
    try dsimp only at h
    refine x_iload_n C dX8_digest_213 rfl 2 rfl ?_
    refine x_aload_n C dX8_digest_214 rfl 0 rfl ?_
    refine x_getr C 0 rfl rfl inX8 0 (by decide) rfl kF_X8_12 rfl dX8_digest_215 ?_
    refine x_geti C 1 rfl rfl inX4 1 (by decide) rfl kF_X8_54 rfl (v := (σ 1 1)) rfl dX8_digest_218 ?_
    by_cases hc1 : (σ 1 1) ≤ y3
    · replace h := (if_pos hc1).symm.trans h
      refine x_icmp_geT C dX8_digest_221 (tgt := 247) (by decide) hc1 ?_
      refine x_lv (lv' := [(0, .ref (gs_a E 0)), (1, .long y1)]) [0, 1] rfl ?_
      obtain rfl := Option.some.inj h
      exact hk0 y1 rfl
    · replace h := (if_neg hc1).symm.trans h
      refine x_icmp_geF C dX8_digest_221 (tgt := 247) (by decide) hc1 ?_
      refine x_ldc2 C kK_X8_226 dX8_digest_224 ?_
      refine x_lload_n C dX8_digest_227 rfl 1 rfl ?_
      refine x_lmul C dX8_digest_228 ?_
      refine x_aload_n C dX8_digest_229 rfl 0 rfl ?_
      refine x_getr C 0 rfl rfl inX8 0 (by decide) rfl kF_X8_12 rfl dX8_digest_230 ?_
      refine x_getr C 1 rfl rfl inX4 0 (by decide) rfl kF_X8_58 rfl dX8_digest_233 ?_
      refine x_iload_n C dX8_digest_236 rfl 2 rfl ?_
      obtain ⟨hb2, h⟩ := ck_some h
      refine x_iald C 2 rfl hb2 (v := (σ 2 y3.toNatClampNeg)) rfl dX8_digest_237 ?_
      refine x_i2l C dX8_digest_238 ?_
      refine x_ladd C dX8_digest_239 ?_
      refine x_lstore_n C dX8_digest_240 rfl (lv2 := [(0, .ref (gs_a E 0)), (1, .long (((31 : Int64) * y1) + (σ 2 y3.toNatClampNeg).toInt64)), (3, .int y3)]) (by decide) rfl [1, 0, 2] rfl ?_
      refine x_iinc C dX8_digest_241 2 rfl (v := (y3 + (1 : Int32))) rfl (lv2 := [(0, .ref (gs_a E 0)), (1, .long (((31 : Int64) * y1) + (σ 2 y3.toNatClampNeg).toInt64)), (3, .int (y3 + (1 : Int32)))]) (by decide) rfl [1, 2, 0] rfl ?_
      refine x_goto C dX8_digest_244 (tgt := 213) (by decide) ?_
      obtain rfl := Option.some.inj h
      exact hc (((31 : Int64) * y1) + (σ 2 y3.toNatClampNeg).toInt64) (y3 + (1 : Int32)) rfl
set_option maxHeartbeats 4000000 in
set_option maxRecDepth 20000 in
theorem wl_X8_digest_81 {E : gs_E} {l : Launch} {p : Program} {e : Env} {s : State} {m : MethodId} {args : Array Value} {below : List Frame} {meth : Method} {c : Code} (C : gs_X E RX8 cX8_digest 5 p s m args meth c) {ov : Option Value} {σ0 : gs_H} {g0 : Int64} {x3 : Int32} {σ : gs_H} {g : Int64} {q : (Int64)} (hx0 : ∀ (z1 : Int64), q = z1 → gs_V E 5 (6, 141) p l e s m args below meth c ov σ0 g0 109 [(0, .ref (gs_a E 0)), (1, .long z1), (3, .int x3)] [] σ g) : ∀ (n : Nat) (y1 : Int64) (y4 : Int32), lp (b_X8_digest_81 x3 σ) n (y1, y4) = some q → gs_V E 5 (6, 141) p l e s m args below meth c ov σ0 g0 81 [(0, .ref (gs_a E 0)), (1, .long y1), (3, .int x3), (4, .int y4)] [] σ g := by
  intro n
  induction n with
  | zero => intro y1 y4 h; cases h
  | succ n ih =>
    intro y1 y4 h
    obtain ⟨r, h, hl, he⟩ := lp_step h
    have hc := fun (y1 : Int64) (y4 : Int32) (hr : r = Sum.inl (y1, y4)) => ih y1 y4 (hl _ hr)
    have hk0 := fun (z1 : Int64) (hr : r = Sum.inr z1) => hx0 z1 (he _ hr).symm
    unfold b_X8_digest_81 at h
    try dsimp only at h
    refine x_iload C dX8_digest_81 3 rfl ?_
    refine x_bipush C dX8_digest_83 (v := 7) (by decide) ?_
    by_cases hc1 : (7 : Int32) ≤ y4
    · replace h := (if_pos hc1).symm.trans h
      refine x_icmp_geT C dX8_digest_85 (tgt := 109) (by decide) hc1 ?_
      refine x_lv (lv' := [(0, .ref (gs_a E 0)), (1, .long y1), (3, .int x3)]) [0, 1, 2] rfl ?_
      obtain rfl := Option.some.inj h
      exact hk0 y1 rfl
    · replace h := (if_neg hc1).symm.trans h
      refine x_icmp_geF C dX8_digest_85 (tgt := 109) (by decide) hc1 ?_
      refine x_ldc2 C kK_X8_226 dX8_digest_88 ?_
      refine x_lload_n C dX8_digest_91 rfl 1 rfl ?_
      refine x_lmul C dX8_digest_92 ?_
      refine x_aload_n C dX8_digest_93 rfl 0 rfl ?_
      refine x_iload_n C dX8_digest_94 rfl 2 rfl ?_
      refine x_iload C dX8_digest_95 3 rfl ?_
      obtain ⟨v2, hv2, h⟩ := Option.bind_eq_some_iff.mp h
      refine x_callV C 0 (m_X8_aboutThing hv2) rfl rfl kM_X8_99 kI_X8_aboutThing kS_X8_aboutThing kN_X8 kC_X8_aboutThing kD_X8_aboutThing rfl ⟨Nat.le_of_ble_eq_true rfl, Nat.le_of_ble_eq_true rfl⟩ ⟨Nat.le_refl _, Nat.le_refl _⟩ (rest := [.long ((31 : Int64) * y1)]) rfl (Nat.le_of_ble_eq_true rfl) dX8_digest_97 (st' := [.int v2, .long ((31 : Int64) * y1)]) rfl ?_
      refine x_i2l C dX8_digest_100 ?_
      refine x_ladd C dX8_digest_101 ?_
      refine x_lstore_n C dX8_digest_102 rfl (lv2 := [(0, .ref (gs_a E 0)), (1, .long (((31 : Int64) * y1) + v2.toInt64)), (3, .int x3), (4, .int y4)]) (by decide) rfl [1, 0, 2, 3] rfl ?_
      refine x_iinc C dX8_digest_103 3 rfl (v := (y4 + (1 : Int32))) rfl (lv2 := [(0, .ref (gs_a E 0)), (1, .long (((31 : Int64) * y1) + v2.toInt64)), (3, .int x3), (4, .int (y4 + (1 : Int32)))]) (by decide) rfl [1, 2, 3, 0] rfl ?_
      refine x_goto C dX8_digest_106 (tgt := 81) (by decide) ?_
      obtain rfl := Option.some.inj h
      exact hc (((31 : Int64) * y1) + v2.toInt64) (y4 + (1 : Int32)) rfl
set_option maxHeartbeats 4000000 in
set_option maxRecDepth 20000 in
theorem wl_X8_digest_67 {E : gs_E} {l : Launch} {p : Program} {e : Env} {s : State} {m : MethodId} {args : Array Value} {below : List Frame} {meth : Method} {c : Code} (C : gs_X E RX8 cX8_digest 5 p s m args meth c) {ov : Option Value} {σ0 : gs_H} {g0 : Int64} {σ : gs_H} {g : Int64} {q : (Int64)} (hx0 : ∀ (z1 : Int64), q = z1 → gs_V E 5 (6, 141) p l e s m args below meth c ov σ0 g0 139 [(0, .ref (gs_a E 0)), (1, .long z1)] [] σ g) : ∀ (n : Nat) (y1 : Int64) (y3 : Int32), lp (b_X8_digest_67 σ) n (y1, y3) = some q → gs_V E 5 (6, 141) p l e s m args below meth c ov σ0 g0 67 [(0, .ref (gs_a E 0)), (1, .long y1), (3, .int y3)] [] σ g := by
  intro n
  induction n with
  | zero => intro y1 y3 h; cases h
  | succ n ih =>
    intro y1 y3 h
    obtain ⟨r, h, hl, he⟩ := lp_step h
    have hc := fun (y1 : Int64) (y3 : Int32) (hr : r = Sum.inl (y1, y3)) => ih y1 y3 (hl _ hr)
    have hk0 := fun (z1 : Int64) (hr : r = Sum.inr z1) => hx0 z1 (he _ hr).symm
    unfold b_X8_digest_67 at h
    try dsimp only at h
    refine x_iload_n C dX8_digest_67 rfl 2 rfl ?_
    refine x_aload_n C dX8_digest_68 rfl 0 rfl ?_
    refine x_getr C 0 rfl rfl inX8 2 (by decide) rfl kF_X8_26 rfl dX8_digest_69 ?_
    refine x_geti C 9 rfl rfl inX3 1 (by decide) rfl kF_X8_81 rfl (v := (σ 9 1)) rfl dX8_digest_72 ?_
    by_cases hc1 : (σ 9 1) ≤ y3
    · replace h := (if_pos hc1).symm.trans h
      refine x_icmp_geT C dX8_digest_75 (tgt := 139) (by decide) hc1 ?_
      refine x_lv (lv' := [(0, .ref (gs_a E 0)), (1, .long y1)]) [0, 1] rfl ?_
      obtain rfl := Option.some.inj h
      exact hk0 y1 rfl
    · replace h := (if_neg hc1).symm.trans h
      refine x_icmp_geF C dX8_digest_75 (tgt := 139) (by decide) hc1 ?_
      refine x_iconst C dX8_digest_78 (v := 0) (by decide) ?_
      refine x_istore C dX8_digest_79 (lv2 := [(0, .ref (gs_a E 0)), (1, .long y1), (3, .int y3), (4, .int (0 : Int32))]) (by decide) rfl [1, 2, 3, 0] rfl ?_
      obtain ⟨q2, hq2, h⟩ := Option.bind_eq_some_iff.mp h
      refine wl_X8_digest_81 C (fun v2_0_1 hz => ?_) 1000 _ _ hq2
      subst q2
      try dsimp only at h
      refine x_ldc2 C kK_X8_226 dX8_digest_109 ?_
      refine x_lload_n C dX8_digest_112 rfl 1 rfl ?_
      refine x_lmul C dX8_digest_113 ?_
      refine x_aload_n C dX8_digest_114 rfl 0 rfl ?_
      refine x_getr C 0 rfl rfl inX8 2 (by decide) rfl kF_X8_26 rfl dX8_digest_115 ?_
      refine x_getr C 9 rfl rfl inX3 10 (by decide) rfl kF_X8_186 rfl dX8_digest_118 ?_
      refine x_aload_n C dX8_digest_121 rfl 0 rfl ?_
      refine x_getr C 0 rfl rfl inX8 2 (by decide) rfl kF_X8_26 rfl dX8_digest_122 ?_
      refine x_iload_n C dX8_digest_125 rfl 2 rfl ?_
      refine x_iconst C dX8_digest_126 (v := 0) (by decide) ?_
      obtain ⟨v3, hv3, h⟩ := Option.bind_eq_some_iff.mp h
      refine x_callV C 17 (m_X7_beadToTry hv3) rfl rfl kM_X8_197 kI_X7_beadToTry kS_X7_beadToTry kN_X7 kC_X7_beadToTry kD_X7_beadToTry rfl ⟨Nat.le_of_ble_eq_true rfl, Nat.le_of_ble_eq_true rfl⟩ ⟨Nat.le_refl _, Nat.le_refl _⟩ (rest := [.long ((31 : Int64) * v2_0_1)]) rfl (Nat.le_of_ble_eq_true rfl) dX8_digest_127 (st' := [.int v3, .long ((31 : Int64) * v2_0_1)]) rfl ?_
      refine x_i2l C dX8_digest_130 ?_
      refine x_ladd C dX8_digest_131 ?_
      refine x_lstore_n C dX8_digest_132 rfl (lv2 := [(0, .ref (gs_a E 0)), (1, .long (((31 : Int64) * v2_0_1) + v3.toInt64)), (3, .int y3)]) (by decide) rfl [1, 0, 2] rfl ?_
      refine x_iinc C dX8_digest_133 2 rfl (v := (y3 + (1 : Int32))) rfl (lv2 := [(0, .ref (gs_a E 0)), (1, .long (((31 : Int64) * v2_0_1) + v3.toInt64)), (3, .int (y3 + (1 : Int32)))]) (by decide) rfl [1, 2, 0] rfl ?_
      refine x_goto C dX8_digest_136 (tgt := 67) (by decide) ?_
      obtain rfl := Option.some.inj h
      exact hc (((31 : Int64) * v2_0_1) + v3.toInt64) (y3 + (1 : Int32)) rfl
set_option maxHeartbeats 4000000 in
set_option maxRecDepth 20000 in
theorem wl_X8_digest_31 {E : gs_E} {l : Launch} {p : Program} {e : Env} {s : State} {m : MethodId} {args : Array Value} {below : List Frame} {meth : Method} {c : Code} (C : gs_X E RX8 cX8_digest 5 p s m args meth c) {ov : Option Value} {σ0 : gs_H} {g0 : Int64} {x3 : Int32} {σ : gs_H} {g : Int64} {q : (Int64)} (hx0 : ∀ (z1 : Int64), q = z1 → gs_V E 5 (6, 141) p l e s m args below meth c ov σ0 g0 59 [(0, .ref (gs_a E 0)), (1, .long z1), (3, .int x3)] [] σ g) : ∀ (n : Nat) (y1 : Int64) (y4 : Int32), lp (b_X8_digest_31 x3 σ) n (y1, y4) = some q → gs_V E 5 (6, 141) p l e s m args below meth c ov σ0 g0 31 [(0, .ref (gs_a E 0)), (1, .long y1), (3, .int x3), (4, .int y4)] [] σ g := by
  intro n
  induction n with
  | zero => intro y1 y4 h; cases h
  | succ n ih =>
    intro y1 y4 h
    obtain ⟨r, h, hl, he⟩ := lp_step h
    have hc := fun (y1 : Int64) (y4 : Int32) (hr : r = Sum.inl (y1, y4)) => ih y1 y4 (hl _ hr)
    have hk0 := fun (z1 : Int64) (hr : r = Sum.inr z1) => hx0 z1 (he _ hr).symm
    unfold b_X8_digest_31 at h
    try dsimp only at h
    refine x_iload C dX8_digest_31 3 rfl ?_
    refine x_bipush C dX8_digest_33 (v := 11) (by decide) ?_
    by_cases hc1 : (11 : Int32) ≤ y4
    · replace h := (if_pos hc1).symm.trans h
      refine x_icmp_geT C dX8_digest_35 (tgt := 59) (by decide) hc1 ?_
      refine x_lv (lv' := [(0, .ref (gs_a E 0)), (1, .long y1), (3, .int x3)]) [0, 1, 2] rfl ?_
      obtain rfl := Option.some.inj h
      exact hk0 y1 rfl
    · replace h := (if_neg hc1).symm.trans h
      refine x_icmp_geF C dX8_digest_35 (tgt := 59) (by decide) hc1 ?_
      refine x_ldc2 C kK_X8_226 dX8_digest_38 ?_
      refine x_lload_n C dX8_digest_41 rfl 1 rfl ?_
      refine x_lmul C dX8_digest_42 ?_
      refine x_aload_n C dX8_digest_43 rfl 0 rfl ?_
      refine x_iload_n C dX8_digest_44 rfl 2 rfl ?_
      refine x_iload C dX8_digest_45 3 rfl ?_
      obtain ⟨v2, hv2, h⟩ := Option.bind_eq_some_iff.mp h
      refine x_callV C 0 (m_X8_aboutRod hv2) rfl rfl kM_X8_92 kI_X8_aboutRod kS_X8_aboutRod kN_X8 kC_X8_aboutRod kD_X8_aboutRod rfl ⟨Nat.le_of_ble_eq_true rfl, Nat.le_of_ble_eq_true rfl⟩ ⟨Nat.le_refl _, Nat.le_refl _⟩ (rest := [.long ((31 : Int64) * y1)]) rfl (Nat.le_of_ble_eq_true rfl) dX8_digest_47 (st' := [.int v2, .long ((31 : Int64) * y1)]) rfl ?_
      refine x_i2l C dX8_digest_50 ?_
      refine x_ladd C dX8_digest_51 ?_
      refine x_lstore_n C dX8_digest_52 rfl (lv2 := [(0, .ref (gs_a E 0)), (1, .long (((31 : Int64) * y1) + v2.toInt64)), (3, .int x3), (4, .int y4)]) (by decide) rfl [1, 0, 2, 3] rfl ?_
      refine x_iinc C dX8_digest_53 3 rfl (v := (y4 + (1 : Int32))) rfl (lv2 := [(0, .ref (gs_a E 0)), (1, .long (((31 : Int64) * y1) + v2.toInt64)), (3, .int x3), (4, .int (y4 + (1 : Int32)))]) (by decide) rfl [1, 2, 3, 0] rfl ?_
      refine x_goto C dX8_digest_56 (tgt := 31) (by decide) ?_
      obtain rfl := Option.some.inj h
      exact hc (((31 : Int64) * y1) + v2.toInt64) (y4 + (1 : Int32)) rfl
set_option maxHeartbeats 4000000 in
set_option maxRecDepth 20000 in
theorem wl_X8_digest_17 {E : gs_E} {l : Launch} {p : Program} {e : Env} {s : State} {m : MethodId} {args : Array Value} {below : List Frame} {meth : Method} {c : Code} (C : gs_X E RX8 cX8_digest 5 p s m args meth c) {ov : Option Value} {σ0 : gs_H} {g0 : Int64} {σ : gs_H} {g : Int64} {q : (Int64)} (hx0 : ∀ (z1 : Int64), q = z1 → gs_V E 5 (6, 141) p l e s m args below meth c ov σ0 g0 65 [(0, .ref (gs_a E 0)), (1, .long z1)] [] σ g) : ∀ (n : Nat) (y1 : Int64) (y3 : Int32), lp (b_X8_digest_17 σ) n (y1, y3) = some q → gs_V E 5 (6, 141) p l e s m args below meth c ov σ0 g0 17 [(0, .ref (gs_a E 0)), (1, .long y1), (3, .int y3)] [] σ g := by
  intro n
  induction n with
  | zero => intro y1 y3 h; cases h
  | succ n ih =>
    intro y1 y3 h
    obtain ⟨r, h, hl, he⟩ := lp_step h
    have hc := fun (y1 : Int64) (y3 : Int32) (hr : r = Sum.inl (y1, y3)) => ih y1 y3 (hl _ hr)
    have hk0 := fun (z1 : Int64) (hr : r = Sum.inr z1) => hx0 z1 (he _ hr).symm
    unfold b_X8_digest_17 at h
    try dsimp only at h
    refine x_iload_n C dX8_digest_17 rfl 2 rfl ?_
    refine x_aload_n C dX8_digest_18 rfl 0 rfl ?_
    refine x_getr C 0 rfl rfl inX8 2 (by decide) rfl kF_X8_26 rfl dX8_digest_19 ?_
    refine x_geti C 9 rfl rfl inX3 0 (by decide) rfl kF_X8_223 rfl (v := (σ 9 0)) rfl dX8_digest_22 ?_
    by_cases hc1 : (σ 9 0) ≤ y3
    · replace h := (if_pos hc1).symm.trans h
      refine x_icmp_geT C dX8_digest_25 (tgt := 65) (by decide) hc1 ?_
      refine x_lv (lv' := [(0, .ref (gs_a E 0)), (1, .long y1)]) [0, 1] rfl ?_
      obtain rfl := Option.some.inj h
      exact hk0 y1 rfl
    · replace h := (if_neg hc1).symm.trans h
      refine x_icmp_geF C dX8_digest_25 (tgt := 65) (by decide) hc1 ?_
      refine x_iconst C dX8_digest_28 (v := 0) (by decide) ?_
      refine x_istore C dX8_digest_29 (lv2 := [(0, .ref (gs_a E 0)), (1, .long y1), (3, .int y3), (4, .int (0 : Int32))]) (by decide) rfl [1, 2, 3, 0] rfl ?_
      obtain ⟨q2, hq2, h⟩ := Option.bind_eq_some_iff.mp h
      refine wl_X8_digest_31 C (fun v2_0_1 hz => ?_) 1000 _ _ hq2
      subst q2
      try dsimp only at h
      refine x_iinc C dX8_digest_59 2 rfl (v := (y3 + (1 : Int32))) rfl (lv2 := [(0, .ref (gs_a E 0)), (1, .long v2_0_1), (3, .int (y3 + (1 : Int32)))]) (by decide) rfl [1, 2, 0] rfl ?_
      refine x_goto C dX8_digest_62 (tgt := 17) (by decide) ?_
      obtain rfl := Option.some.inj h
      exact hc v2_0_1 (y3 + (1 : Int32)) rfl
set_option maxHeartbeats 4000000 in
set_option maxRecDepth 20000 in
theorem m_X8_digest {E : gs_E} {l : Launch} {σ : gs_H} {g : Int64} {r0 : Int64} {σ0 : gs_H} (h : f_X8_digest σ = some (r0, σ0)) : gs_M l E yX8_digest cX8_digest 5 (some .long) (6, 141) [.ref (gs_a E 0)] σ g (some (.long r0)) σ0 g := by
  refine x_enter (lv := [(0, .ref (gs_a E 0))]) (by decide +kernel) (Nat.le_of_ble_eq_true rfl) rfl (fun p e s m args below meth c C hr => ?_)
  unfold f_X8_digest at h
  refine x_ldc2 C kK_X8_221 dX8_digest_0 ?_
  refine x_lstore_n C dX8_digest_3 rfl (lv2 := [(0, .ref (gs_a E 0)), (1, .long (1303 : Int64))]) (by decide) rfl [1, 0] rfl ?_
  refine x_aload_n C dX8_digest_4 rfl 0 rfl ?_
  refine x_getr C 0 rfl rfl inX8 4 (by decide) rfl kF_X8_36 rfl dX8_digest_5 ?_
  refine x_aload_n C dX8_digest_8 rfl 0 rfl ?_
  refine x_getr C 0 rfl rfl inX8 2 (by decide) rfl kF_X8_26 rfl dX8_digest_9 ?_
  obtain ⟨s1, hv1, h⟩ := Option.bind_eq_some_iff.mp h
  refine x_callV C 35 (m_X6_weigh_35 hv1) rfl rfl kM_X8_88 kI_X6_weigh kS_X6_weigh kN_X6 kC_X6_weigh kD_X6_weigh rfl ⟨Nat.le_of_ble_eq_true rfl, Nat.le_of_ble_eq_true rfl⟩ ⟨Nat.le_refl _, Nat.le_refl _⟩ (rest := []) rfl (Nat.le_of_ble_eq_true rfl) dX8_digest_12 (st' := []) rfl ?_
  refine x_iconst C dX8_digest_15 (v := 0) (by decide) ?_
  refine x_istore_n C dX8_digest_16 rfl (lv2 := [(0, .ref (gs_a E 0)), (1, .long (1303 : Int64)), (3, .int (0 : Int32))]) (by decide) rfl [1, 2, 0] rfl ?_
  obtain ⟨q2, hq2, h⟩ := Option.bind_eq_some_iff.mp h
  refine wl_X8_digest_17 C (fun v2_0_1 hz => ?_) 1000 _ _ hq2
  subst q2
  try dsimp only at h
  refine x_iconst C dX8_digest_65 (v := 0) (by decide) ?_
  refine x_istore_n C dX8_digest_66 rfl (lv2 := [(0, .ref (gs_a E 0)), (1, .long v2_0_1), (3, .int (0 : Int32))]) (by decide) rfl [1, 2, 0] rfl ?_
  obtain ⟨q3, hq3, h⟩ := Option.bind_eq_some_iff.mp h
  refine wl_X8_digest_67 C (fun v3_0_1 hz => ?_) 1000 _ _ hq3
  subst q3
  try dsimp only at h
  refine x_aload_n C dX8_digest_139 rfl 0 rfl ?_
  refine x_callV C 0 (m_X8_hasMobile rfl) rfl rfl kM_X8_114 kI_X8_hasMobile kS_X8_hasMobile kN_X8 kC_X8_hasMobile kD_X8_hasMobile rfl ⟨Nat.le_of_ble_eq_true rfl, Nat.le_of_ble_eq_true rfl⟩ ⟨Nat.le_refl _, Nat.le_refl _⟩ (rest := []) rfl (Nat.le_of_ble_eq_true rfl) dX8_digest_140 (st' := [.int (f_X8_hasMobile s1)]) rfl ?_
  by_cases hc5 : (f_X8_hasMobile s1) = 0
  · replace h := (if_pos hc5).symm.trans h
    refine x_if_eqT C dX8_digest_143 (tgt := 211) (by decide) hc5 ?_
    refine x_iconst C dX8_digest_211 (v := 0) (by decide) ?_
    refine x_istore_n C dX8_digest_212 rfl (lv2 := [(0, .ref (gs_a E 0)), (1, .long v3_0_1), (3, .int (0 : Int32))]) (by decide) rfl [1, 2, 0] rfl ?_
    obtain ⟨q6, hq6, h⟩ := Option.bind_eq_some_iff.mp h
    refine wl_X8_digest_213 C (fun v6_0_1 hz => ?_) 1000 _ _ hq6
    subst q6
    try dsimp only at h
    refine x_iconst C dX8_digest_247 (v := 0) (by decide) ?_
    refine x_istore_n C dX8_digest_248 rfl (lv2 := [(0, .ref (gs_a E 0)), (1, .long v6_0_1), (3, .int (0 : Int32))]) (by decide) rfl [1, 2, 0] rfl ?_
    obtain ⟨q7, hq7, h⟩ := Option.bind_eq_some_iff.mp h
    refine wl_X8_digest_249 C (fun v7_0_1 hz => ?_) 1000 _ _ hq7
    subst q7
    try dsimp only at h
    refine x_lload_n C dX8_digest_274 rfl 0 rfl ?_
    replace h := Option.some.inj h
    obtain ⟨rfl, rfl⟩ := Prod.mk.inj h
    exact x_retl C hr rfl dX8_digest_275
  · replace h := (if_neg hc5).symm.trans h
    refine x_if_eqF C dX8_digest_143 (tgt := 211) (by decide) hc5 ?_
    refine x_ldc2 C kK_X8_226 dX8_digest_146 ?_
    refine x_lload_n C dX8_digest_149 rfl 1 rfl ?_
    refine x_lmul C dX8_digest_150 ?_
    refine x_aload_n C dX8_digest_151 rfl 0 rfl ?_
    obtain ⟨⟨v8, s8⟩, hv8, h⟩ := Option.bind_eq_some_iff.mp h
    try dsimp only at h
    refine x_callV C 0 (m_X8_best hv8) rfl rfl kM_X8_228 kI_X8_best kS_X8_best kN_X8 kC_X8_best kD_X8_best rfl ⟨Nat.le_of_ble_eq_true rfl, Nat.le_of_ble_eq_true rfl⟩ ⟨Nat.le_refl _, Nat.le_refl _⟩ (rest := [.long ((31 : Int64) * v3_0_1)]) rfl (Nat.le_of_ble_eq_true rfl) dX8_digest_152 (st' := [.int v8, .long ((31 : Int64) * v3_0_1)]) rfl ?_
    refine x_i2l C dX8_digest_155 ?_
    refine x_ladd C dX8_digest_156 ?_
    refine x_lstore_n C dX8_digest_157 rfl (lv2 := [(0, .ref (gs_a E 0)), (1, .long (((31 : Int64) * v3_0_1) + v8.toInt64))]) (by decide) rfl [1, 0] rfl ?_
    refine x_ldc2 C kK_X8_226 dX8_digest_158 ?_
    refine x_lload_n C dX8_digest_161 rfl 1 rfl ?_
    refine x_lmul C dX8_digest_162 ?_
    refine x_aload_n C dX8_digest_163 rfl 0 rfl ?_
    obtain ⟨⟨v9, s9⟩, hv9, h⟩ := Option.bind_eq_some_iff.mp h
    try dsimp only at h
    refine x_callV C 0 (m_X8_even hv9) rfl rfl kM_X8_231 kI_X8_even kS_X8_even kN_X8 kC_X8_even kD_X8_even rfl ⟨Nat.le_of_ble_eq_true rfl, Nat.le_of_ble_eq_true rfl⟩ ⟨Nat.le_refl _, Nat.le_refl _⟩ (rest := [.long ((31 : Int64) * (((31 : Int64) * v3_0_1) + v8.toInt64))]) rfl (Nat.le_of_ble_eq_true rfl) dX8_digest_164 (st' := [.int v9, .long ((31 : Int64) * (((31 : Int64) * v3_0_1) + v8.toInt64))]) rfl ?_
    refine x_i2l C dX8_digest_167 ?_
    refine x_ladd C dX8_digest_168 ?_
    refine x_lstore_n C dX8_digest_169 rfl (lv2 := [(0, .ref (gs_a E 0)), (1, .long (((31 : Int64) * (((31 : Int64) * v3_0_1) + v8.toInt64)) + v9.toInt64))]) (by decide) rfl [1, 0] rfl ?_
    refine x_aload_n C dX8_digest_170 rfl 0 rfl ?_
    refine x_getr C 0 rfl rfl inX8 5 (by decide) rfl kF_X8_43 rfl dX8_digest_171 ?_
    refine x_aload_n C dX8_digest_174 rfl 0 rfl ?_
    refine x_getr C 0 rfl rfl inX8 2 (by decide) rfl kF_X8_26 rfl dX8_digest_175 ?_
    obtain ⟨s10, hv10, h⟩ := Option.bind_eq_some_iff.mp h
    refine x_callV C 40 (m_X2_findOdds hv10) rfl rfl kM_X8_175 kI_X2_findOdds kS_X2_findOdds kN_X2 kC_X2_findOdds kD_X2_findOdds rfl ⟨Nat.le_of_ble_eq_true rfl, Nat.le_of_ble_eq_true rfl⟩ ⟨Nat.le_refl _, Nat.le_refl _⟩ (rest := []) rfl (Nat.le_of_ble_eq_true rfl) dX8_digest_178 (st' := []) rfl ?_
    refine x_ldc2 C kK_X8_226 dX8_digest_181 ?_
    refine x_lload_n C dX8_digest_184 rfl 1 rfl ?_
    refine x_lmul C dX8_digest_185 ?_
    refine x_aload_n C dX8_digest_186 rfl 0 rfl ?_
    refine x_getr C 0 rfl rfl inX8 5 (by decide) rfl kF_X8_43 rfl dX8_digest_187 ?_
    refine x_geti C 40 rfl rfl inX2 3 (by decide) rfl kF_X8_178 rfl (v := (s10 40 3)) rfl dX8_digest_190 ?_
    refine x_i2l C dX8_digest_193 ?_
    refine x_ladd C dX8_digest_194 ?_
    refine x_lstore_n C dX8_digest_195 rfl (lv2 := [(0, .ref (gs_a E 0)), (1, .long (((31 : Int64) * (((31 : Int64) * (((31 : Int64) * v3_0_1) + v8.toInt64)) + v9.toInt64)) + (s10 40 3).toInt64))]) (by decide) rfl [1, 0] rfl ?_
    refine x_ldc2 C kK_X8_226 dX8_digest_196 ?_
    refine x_lload_n C dX8_digest_199 rfl 1 rfl ?_
    refine x_lmul C dX8_digest_200 ?_
    refine x_aload_n C dX8_digest_201 rfl 0 rfl ?_
    refine x_getr C 0 rfl rfl inX8 5 (by decide) rfl kF_X8_43 rfl dX8_digest_202 ?_
    refine x_geti C 40 rfl rfl inX2 4 (by decide) rfl kF_X8_181 rfl (v := (s10 40 4)) rfl dX8_digest_205 ?_
    refine x_i2l C dX8_digest_208 ?_
    refine x_ladd C dX8_digest_209 ?_
    refine x_lstore_n C dX8_digest_210 rfl (lv2 := [(0, .ref (gs_a E 0)), (1, .long (((31 : Int64) * (((31 : Int64) * (((31 : Int64) * (((31 : Int64) * v3_0_1) + v8.toInt64)) + v9.toInt64)) + (s10 40 3).toInt64)) + (s10 40 4).toInt64))]) (by decide) rfl [1, 0] rfl ?_
    refine x_iconst C dX8_digest_211 (v := 0) (by decide) ?_
    refine x_istore_n C dX8_digest_212 rfl (lv2 := [(0, .ref (gs_a E 0)), (1, .long (((31 : Int64) * (((31 : Int64) * (((31 : Int64) * (((31 : Int64) * v3_0_1) + v8.toInt64)) + v9.toInt64)) + (s10 40 3).toInt64)) + (s10 40 4).toInt64)), (3, .int (0 : Int32))]) (by decide) rfl [1, 2, 0] rfl ?_
    obtain ⟨q11, hq11, h⟩ := Option.bind_eq_some_iff.mp h
    refine wl_X8_digest_213 C (fun v11_0_1 hz => ?_) 1000 _ _ hq11
    subst q11
    try dsimp only at h
    refine x_iconst C dX8_digest_247 (v := 0) (by decide) ?_
    refine x_istore_n C dX8_digest_248 rfl (lv2 := [(0, .ref (gs_a E 0)), (1, .long v11_0_1), (3, .int (0 : Int32))]) (by decide) rfl [1, 2, 0] rfl ?_
    obtain ⟨q12, hq12, h⟩ := Option.bind_eq_some_iff.mp h
    refine wl_X8_digest_249 C (fun v12_0_1 hz => ?_) 1000 _ _ hq12
    subst q12
    try dsimp only at h
    refine x_lload_n C dX8_digest_274 rfl 0 rfl ?_
    replace h := Option.some.inj h
    obtain ⟨rfl, rfl⟩ := Prod.mk.inj h
    exact x_retl C hr rfl dX8_digest_275
def f_X8_isRod (x1 : Int32) (σ : gs_H) : Int32 :=
if x1 < 0 then (
(0 : Int32))
else (
if (σ 9 0) ≤ x1 then (
(0 : Int32))
else (
(1 : Int32)))
set_option maxHeartbeats 4000000 in
set_option maxRecDepth 20000 in
theorem m_X8_isRod {E : gs_E} {l : Launch} {x1 : Int32} {σ : gs_H} {g : Int64} {r0 : Int32} (h : f_X8_isRod x1 σ = r0) : gs_M l E yX8_isRod cX8_isRod 2 (some .boolean) (0, 0) [.ref (gs_a E 0), .int x1] σ g (some (.int r0)) σ g := by
  refine x_enter (lv := [(0, .ref (gs_a E 0)), (1, .int x1)]) (by decide +kernel) (Nat.le_of_ble_eq_true rfl) rfl (fun p e s m args below meth c C hr => ?_)
  unfold f_X8_isRod at h
  refine x_iload_n C dX8_isRod_0 rfl 1 rfl ?_
  by_cases hc1 : x1 < 0
  · replace h := (if_pos hc1).symm.trans h
    refine x_if_ltT C dX8_isRod_1 (tgt := 19) (by decide) hc1 ?_
    refine x_iconst C dX8_isRod_19 (v := 0) (by decide) ?_
    subst h
    exact x_retb C hr (by decide) rfl dX8_isRod_20
  · replace h := (if_neg hc1).symm.trans h
    refine x_if_ltF C dX8_isRod_1 (tgt := 19) (by decide) hc1 ?_
    refine x_iload_n C dX8_isRod_4 rfl 1 rfl ?_
    refine x_aload_n C dX8_isRod_5 rfl 0 rfl ?_
    refine x_getr C 0 rfl rfl inX8 2 (by decide) rfl kF_X8_26 rfl dX8_isRod_6 ?_
    refine x_geti C 9 rfl rfl inX3 0 (by decide) rfl kF_X8_223 rfl (v := (σ 9 0)) rfl dX8_isRod_9 ?_
    by_cases hc2 : (σ 9 0) ≤ x1
    · replace h := (if_pos hc2).symm.trans h
      refine x_icmp_geT C dX8_isRod_12 (tgt := 19) (by decide) hc2 ?_
      refine x_iconst C dX8_isRod_19 (v := 0) (by decide) ?_
      subst h
      exact x_retb C hr (by decide) rfl dX8_isRod_20
    · replace h := (if_neg hc2).symm.trans h
      refine x_icmp_geF C dX8_isRod_12 (tgt := 19) (by decide) hc2 ?_
      refine x_iconst C dX8_isRod_15 (v := 1) (by decide) ?_
      refine x_goto C dX8_isRod_16 (tgt := 20) (by decide) ?_
      subst h
      exact x_retb C hr (by decide) rfl dX8_isRod_20
def f_X8_drop (x1 : Int32) (σ : gs_H) : Option (Int32 × gs_H) :=
if (f_X8_isRod x1 σ) = 0 then (
some ((-101 : Int32), σ))
else (
if x1 = 0 then (
some ((-101 : Int32), σ))
else (
if inb x1 5 then
if (σ 16 x1.toNatClampNeg) = 0 then (
if inb x1 5 then
(f_X6_weigh 35 (up2 σ 16 x1.toNatClampNeg (1 : Int32))).bind fun q7 =>
(f_X6_rodsThere q7).bind fun q8 =>
some (q8, q7) else none)
else (
some ((-103 : Int32), σ)) else none))
set_option maxHeartbeats 4000000 in
set_option maxRecDepth 20000 in
theorem m_X8_drop {E : gs_E} {l : Launch} {x1 : Int32} {σ : gs_H} {g : Int64} {r0 : Int32} {σ0 : gs_H} (h : f_X8_drop x1 σ = some (r0, σ0)) : gs_M l E yX8_drop cX8_drop 2 (some .int) (4, 93) [.ref (gs_a E 0), .int x1] σ g (some (.int r0)) σ0 g := by
  refine x_enter (lv := [(0, .ref (gs_a E 0)), (1, .int x1)]) (by decide +kernel) (Nat.le_of_ble_eq_true rfl) rfl (fun p e s m args below meth c C hr => ?_)
  unfold f_X8_drop at h
  refine x_aload_n C dX8_drop_0 rfl 0 rfl ?_
  refine x_iload_n C dX8_drop_1 rfl 1 rfl ?_
  refine x_callV C 0 (m_X8_isRod rfl) rfl rfl kM_X8_84 kI_X8_isRod kS_X8_isRod kN_X8 kC_X8_isRod kD_X8_isRod rfl ⟨Nat.le_of_ble_eq_true rfl, Nat.le_of_ble_eq_true rfl⟩ ⟨Nat.le_refl _, Nat.le_refl _⟩ (rest := []) rfl (Nat.le_of_ble_eq_true rfl) dX8_drop_2 (st' := [.int (f_X8_isRod x1 σ)]) rfl ?_
  by_cases hc2 : (f_X8_isRod x1 σ) = 0
  · replace h := (if_pos hc2).symm.trans h
    refine x_if_eqT C dX8_drop_5 (tgt := 12) (by decide) hc2 ?_
    refine x_bipush C dX8_drop_12 (v := -101) (by decide) ?_
    replace h := Option.some.inj h
    obtain ⟨rfl, rfl⟩ := Prod.mk.inj h
    exact x_ret C hr rfl rfl dX8_drop_14
  · replace h := (if_neg hc2).symm.trans h
    refine x_if_eqF C dX8_drop_5 (tgt := 12) (by decide) hc2 ?_
    refine x_iload_n C dX8_drop_8 rfl 1 rfl ?_
    by_cases hc3 : x1 = 0
    · replace h := (if_pos hc3).symm.trans h
      refine x_if_neF C dX8_drop_9 (tgt := 15) (by decide) hc3 ?_
      refine x_bipush C dX8_drop_12 (v := -101) (by decide) ?_
      replace h := Option.some.inj h
      obtain ⟨rfl, rfl⟩ := Prod.mk.inj h
      exact x_ret C hr rfl rfl dX8_drop_14
    · replace h := (if_neg hc3).symm.trans h
      refine x_if_neT C dX8_drop_9 (tgt := 15) (by decide) hc3 ?_
      refine x_aload_n C dX8_drop_15 rfl 0 rfl ?_
      refine x_getr C 0 rfl rfl inX8 2 (by decide) rfl kF_X8_26 rfl dX8_drop_16 ?_
      refine x_getr C 9 rfl rfl inX3 9 (by decide) rfl kF_X8_138 rfl dX8_drop_19 ?_
      refine x_iload_n C dX8_drop_22 rfl 1 rfl ?_
      obtain ⟨hb4, h⟩ := ck_some h
      refine x_zald C 16 rfl hb4 (v := (σ 16 x1.toNatClampNeg)) rfl dX8_drop_23 ?_
      by_cases hc5 : (σ 16 x1.toNatClampNeg) = 0
      · replace h := (if_pos hc5).symm.trans h
        refine x_if_eqT C dX8_drop_24 (tgt := 30) (by decide) hc5 ?_
        refine x_aload_n C dX8_drop_30 rfl 0 rfl ?_
        refine x_getr C 0 rfl rfl inX8 2 (by decide) rfl kF_X8_26 rfl dX8_drop_31 ?_
        refine x_getr C 9 rfl rfl inX3 9 (by decide) rfl kF_X8_138 rfl dX8_drop_34 ?_
        refine x_iload_n C dX8_drop_37 rfl 1 rfl ?_
        refine x_iconst C dX8_drop_38 (v := 1) (by decide) ?_
        obtain ⟨hb6, h⟩ := ck_some h
        refine x_zast C 16 rfl hb6 (by decide) dX8_drop_39 ?_
        refine x_aload_n C dX8_drop_40 rfl 0 rfl ?_
        refine x_getr C 0 rfl rfl inX8 4 (by decide) rfl kF_X8_36 rfl dX8_drop_41 ?_
        refine x_aload_n C dX8_drop_44 rfl 0 rfl ?_
        refine x_getr C 0 rfl rfl inX8 2 (by decide) rfl kF_X8_26 rfl dX8_drop_45 ?_
        obtain ⟨s7, hv7, h⟩ := Option.bind_eq_some_iff.mp h
        refine x_callV C 35 (m_X6_weigh_35 hv7) rfl rfl kM_X8_88 kI_X6_weigh kS_X6_weigh kN_X6 kC_X6_weigh kD_X6_weigh rfl ⟨Nat.le_of_ble_eq_true rfl, Nat.le_of_ble_eq_true rfl⟩ ⟨Nat.le_refl _, Nat.le_refl _⟩ (rest := []) rfl (Nat.le_of_ble_eq_true rfl) dX8_drop_48 (st' := []) rfl ?_
        refine x_aload_n C dX8_drop_51 rfl 0 rfl ?_
        refine x_getr C 0 rfl rfl inX8 4 (by decide) rfl kF_X8_36 rfl dX8_drop_52 ?_
        refine x_aload_n C dX8_drop_55 rfl 0 rfl ?_
        refine x_getr C 0 rfl rfl inX8 2 (by decide) rfl kF_X8_26 rfl dX8_drop_56 ?_
        obtain ⟨v8, hv8, h⟩ := Option.bind_eq_some_iff.mp h
        refine x_callV C 35 (m_X6_rodsThere hv8) rfl rfl kM_X8_141 kI_X6_rodsThere kS_X6_rodsThere kN_X6 kC_X6_rodsThere kD_X6_rodsThere rfl ⟨Nat.le_of_ble_eq_true rfl, Nat.le_of_ble_eq_true rfl⟩ ⟨Nat.le_refl _, Nat.le_refl _⟩ (rest := []) rfl (Nat.le_of_ble_eq_true rfl) dX8_drop_59 (st' := [.int v8]) rfl ?_
        replace h := Option.some.inj h
        obtain ⟨rfl, rfl⟩ := Prod.mk.inj h
        exact x_ret C hr rfl rfl dX8_drop_62
      · replace h := (if_neg hc5).symm.trans h
        refine x_if_eqF C dX8_drop_24 (tgt := 30) (by decide) hc5 ?_
        refine x_bipush C dX8_drop_27 (v := -103) (by decide) ?_
        replace h := Option.some.inj h
        obtain ⟨rfl, rfl⟩ := Prod.mk.inj h
        exact x_ret C hr rfl rfl dX8_drop_29
def f_X8_evenings (x1 : Int32) (x2 : Int32) (x3 : Int32) (σ : gs_H) : Option (Int32 × gs_H) :=
if x1 < (1 : Int32) then (
some ((-102 : Int32), σ))
else (
if (60 : Int32) < x1 then (
some ((-102 : Int32), σ))
else (
if x2 < 0 then (
some ((-102 : Int32), σ))
else (
if x3 < 0 then (
some ((-102 : Int32), σ))
else (
if x3 ≤ (2 : Int32) then (
if (f_X8_hasMobile σ) = 0 then (
some ((-103 : Int32), σ))
else (
(f_X0_pass x1 x2 σ).bind fun q8 =>
if x3 = 0 then (
some ((q8 50 0), q8))
else (
if x3 = (1 : Int32) then (
some (((q8 50 1) + (10000 : Int32)), q8))
else (
some ((q8 50 2), q8)))))
else (
some ((-102 : Int32), σ))))))
set_option maxHeartbeats 4000000 in
set_option maxRecDepth 20000 in
theorem m_X8_evenings {E : gs_E} {l : Launch} {x1 : Int32} {x2 : Int32} {x3 : Int32} {σ : gs_H} {g : Int64} {r0 : Int32} {σ0 : gs_H} (h : f_X8_evenings x1 x2 x3 σ = some (r0, σ0)) : gs_M l E yX8_evenings cX8_evenings 4 (some .int) (4, 98) [.ref (gs_a E 0), .int x1, .int x2, .int x3] σ g (some (.int r0)) σ0 g := by
  refine x_enter (lv := [(0, .ref (gs_a E 0)), (1, .int x1), (2, .int x2), (3, .int x3)]) (by decide +kernel) (Nat.le_of_ble_eq_true rfl) rfl (fun p e s m args below meth c C hr => ?_)
  unfold f_X8_evenings at h
  refine x_iload_n C dX8_evenings_0 rfl 1 rfl ?_
  refine x_iconst C dX8_evenings_1 (v := 1) (by decide) ?_
  by_cases hc1 : x1 < (1 : Int32)
  · replace h := (if_pos hc1).symm.trans h
    refine x_icmp_ltT C dX8_evenings_2 (tgt := 24) (by decide) hc1 ?_
    refine x_bipush C dX8_evenings_24 (v := -102) (by decide) ?_
    replace h := Option.some.inj h
    obtain ⟨rfl, rfl⟩ := Prod.mk.inj h
    exact x_ret C hr rfl rfl dX8_evenings_26
  · replace h := (if_neg hc1).symm.trans h
    refine x_icmp_ltF C dX8_evenings_2 (tgt := 24) (by decide) hc1 ?_
    refine x_iload_n C dX8_evenings_5 rfl 1 rfl ?_
    refine x_bipush C dX8_evenings_6 (v := 60) (by decide) ?_
    by_cases hc2 : (60 : Int32) < x1
    · replace h := (if_pos hc2).symm.trans h
      refine x_icmp_gtT C dX8_evenings_8 (tgt := 24) (by decide) hc2 ?_
      refine x_bipush C dX8_evenings_24 (v := -102) (by decide) ?_
      replace h := Option.some.inj h
      obtain ⟨rfl, rfl⟩ := Prod.mk.inj h
      exact x_ret C hr rfl rfl dX8_evenings_26
    · replace h := (if_neg hc2).symm.trans h
      refine x_icmp_gtF C dX8_evenings_8 (tgt := 24) (by decide) hc2 ?_
      refine x_iload_n C dX8_evenings_11 rfl 2 rfl ?_
      by_cases hc3 : x2 < 0
      · replace h := (if_pos hc3).symm.trans h
        refine x_if_ltT C dX8_evenings_12 (tgt := 24) (by decide) hc3 ?_
        refine x_bipush C dX8_evenings_24 (v := -102) (by decide) ?_
        replace h := Option.some.inj h
        obtain ⟨rfl, rfl⟩ := Prod.mk.inj h
        exact x_ret C hr rfl rfl dX8_evenings_26
      · replace h := (if_neg hc3).symm.trans h
        refine x_if_ltF C dX8_evenings_12 (tgt := 24) (by decide) hc3 ?_
        refine x_iload_n C dX8_evenings_15 rfl 3 rfl ?_
        by_cases hc4 : x3 < 0
        · replace h := (if_pos hc4).symm.trans h
          refine x_if_ltT C dX8_evenings_16 (tgt := 24) (by decide) hc4 ?_
          refine x_bipush C dX8_evenings_24 (v := -102) (by decide) ?_
          replace h := Option.some.inj h
          obtain ⟨rfl, rfl⟩ := Prod.mk.inj h
          exact x_ret C hr rfl rfl dX8_evenings_26
        · replace h := (if_neg hc4).symm.trans h
          refine x_if_ltF C dX8_evenings_16 (tgt := 24) (by decide) hc4 ?_
          refine x_iload_n C dX8_evenings_19 rfl 3 rfl ?_
          refine x_iconst C dX8_evenings_20 (v := 2) (by decide) ?_
          by_cases hc5 : x3 ≤ (2 : Int32)
          · replace h := (if_pos hc5).symm.trans h
            refine x_icmp_leT C dX8_evenings_21 (tgt := 27) (by decide) hc5 ?_
            refine x_aload_n C dX8_evenings_27 rfl 0 rfl ?_
            refine x_callV C 0 (m_X8_hasMobile rfl) rfl rfl kM_X8_114 kI_X8_hasMobile kS_X8_hasMobile kN_X8 kC_X8_hasMobile kD_X8_hasMobile rfl ⟨Nat.le_of_ble_eq_true rfl, Nat.le_of_ble_eq_true rfl⟩ ⟨Nat.le_refl _, Nat.le_refl _⟩ (rest := []) rfl (Nat.le_of_ble_eq_true rfl) dX8_evenings_28 (st' := [.int (f_X8_hasMobile σ)]) rfl ?_
            by_cases hc7 : (f_X8_hasMobile σ) = 0
            · replace h := (if_pos hc7).symm.trans h
              refine x_if_neF C dX8_evenings_31 (tgt := 37) (by decide) hc7 ?_
              refine x_bipush C dX8_evenings_34 (v := -103) (by decide) ?_
              replace h := Option.some.inj h
              obtain ⟨rfl, rfl⟩ := Prod.mk.inj h
              exact x_ret C hr rfl rfl dX8_evenings_36
            · replace h := (if_neg hc7).symm.trans h
              refine x_if_neT C dX8_evenings_31 (tgt := 37) (by decide) hc7 ?_
              refine x_aload_n C dX8_evenings_37 rfl 0 rfl ?_
              refine x_getr C 0 rfl rfl inX8 6 (by decide) rfl kF_X8_50 rfl dX8_evenings_38 ?_
              refine x_aload_n C dX8_evenings_41 rfl 0 rfl ?_
              refine x_getr C 0 rfl rfl inX8 2 (by decide) rfl kF_X8_26 rfl dX8_evenings_42 ?_
              refine x_iload_n C dX8_evenings_45 rfl 1 rfl ?_
              refine x_iload_n C dX8_evenings_46 rfl 2 rfl ?_
              obtain ⟨s8, hv8, h⟩ := Option.bind_eq_some_iff.mp h
              refine x_callV C 50 (m_X0_pass hv8) rfl rfl kM_X8_201 kI_X0_pass kS_X0_pass kN_X0 kC_X0_pass kD_X0_pass rfl ⟨Nat.le_of_ble_eq_true rfl, Nat.le_of_ble_eq_true rfl⟩ ⟨Nat.le_refl _, Nat.le_refl _⟩ (rest := []) rfl (Nat.le_of_ble_eq_true rfl) dX8_evenings_47 (st' := []) rfl ?_
              refine x_iload_n C dX8_evenings_50 rfl 3 rfl ?_
              by_cases hc9 : x3 = 0
              · replace h := (if_pos hc9).symm.trans h
                refine x_if_neF C dX8_evenings_51 (tgt := 62) (by decide) hc9 ?_
                refine x_aload_n C dX8_evenings_54 rfl 0 rfl ?_
                refine x_getr C 0 rfl rfl inX8 6 (by decide) rfl kF_X8_50 rfl dX8_evenings_55 ?_
                refine x_geti C 50 rfl rfl inX0 0 (by decide) rfl kF_X8_205 rfl (v := (s8 50 0)) rfl dX8_evenings_58 ?_
                replace h := Option.some.inj h
                obtain ⟨rfl, rfl⟩ := Prod.mk.inj h
                exact x_ret C hr rfl rfl dX8_evenings_61
              · replace h := (if_neg hc9).symm.trans h
                refine x_if_neT C dX8_evenings_51 (tgt := 62) (by decide) hc9 ?_
                refine x_iload_n C dX8_evenings_62 rfl 3 rfl ?_
                refine x_iconst C dX8_evenings_63 (v := 1) (by decide) ?_
                by_cases hc10 : x3 = (1 : Int32)
                · replace h := (if_pos hc10).symm.trans h
                  refine x_icmp_neF C dX8_evenings_64 (tgt := 81) (by decide) hc10 ?_
                  refine x_aload_n C dX8_evenings_67 rfl 0 rfl ?_
                  refine x_getr C 0 rfl rfl inX8 6 (by decide) rfl kF_X8_50 rfl dX8_evenings_68 ?_
                  refine x_geti C 50 rfl rfl inX0 1 (by decide) rfl kF_X8_208 rfl (v := (s8 50 1)) rfl dX8_evenings_71 ?_
                  refine x_sipush C dX8_evenings_74 (v := 10000) (by decide) ?_
                  refine x_iadd C dX8_evenings_77 ?_
                  refine x_goto C dX8_evenings_78 (tgt := 88) (by decide) ?_
                  replace h := Option.some.inj h
                  obtain ⟨rfl, rfl⟩ := Prod.mk.inj h
                  exact x_ret C hr rfl rfl dX8_evenings_88
                · replace h := (if_neg hc10).symm.trans h
                  refine x_icmp_neT C dX8_evenings_64 (tgt := 81) (by decide) hc10 ?_
                  refine x_aload_n C dX8_evenings_81 rfl 0 rfl ?_
                  refine x_getr C 0 rfl rfl inX8 6 (by decide) rfl kF_X8_50 rfl dX8_evenings_82 ?_
                  refine x_geti C 50 rfl rfl inX0 2 (by decide) rfl kF_X8_211 rfl (v := (s8 50 2)) rfl dX8_evenings_85 ?_
                  replace h := Option.some.inj h
                  obtain ⟨rfl, rfl⟩ := Prod.mk.inj h
                  exact x_ret C hr rfl rfl dX8_evenings_88
          · replace h := (if_neg hc5).symm.trans h
            refine x_icmp_leF C dX8_evenings_21 (tgt := 27) (by decide) hc5 ?_
            refine x_bipush C dX8_evenings_24 (v := -102) (by decide) ?_
            replace h := Option.some.inj h
            obtain ⟨rfl, rfl⟩ := Prod.mk.inj h
            exact x_ret C hr rfl rfl dX8_evenings_26
def f_X8_exchange (x1 : Int32) (x2 : Int32) (σ : gs_H) : Option (Int32 × gs_H) :=
if (f_X8_isThing x1 σ) = 0 then (
some ((-101 : Int32), σ))
else (
if (f_X8_isThing x2 σ) = 0 then (
some ((-101 : Int32), σ))
else (
if x1 = x2 then (
some ((-101 : Int32), σ))
else (
if inb x1 6 then
if (σ 15 x1.toNatClampNeg) = 0 then (
if inb x2 6 then
if (σ 15 x2.toNatClampNeg) = 0 then (
(f_X8_swapThings 12 x1 x2 σ).bind fun q10 =>
(f_X8_levelNow q10).bind fun q11 =>
some (q11.1, q11.2))
else (
some ((-103 : Int32), σ)) else none)
else (
some ((-103 : Int32), σ)) else none)))
set_option maxHeartbeats 4000000 in
set_option maxRecDepth 20000 in
theorem m_X8_exchange {E : gs_E} {l : Launch} {x1 : Int32} {x2 : Int32} {σ : gs_H} {g : Int64} {r0 : Int32} {σ0 : gs_H} (h : f_X8_exchange x1 x2 σ = some (r0, σ0)) : gs_M l E yX8_exchange cX8_exchange 3 (some .int) (5, 113) [.ref (gs_a E 0), .int x1, .int x2] σ g (some (.int r0)) σ0 g := by
  refine x_enter (lv := [(0, .ref (gs_a E 0)), (1, .int x1), (2, .int x2)]) (by decide +kernel) (Nat.le_of_ble_eq_true rfl) rfl (fun p e s m args below meth c C hr => ?_)
  unfold f_X8_exchange at h
  refine x_aload_n C dX8_exchange_0 rfl 0 rfl ?_
  refine x_iload_n C dX8_exchange_1 rfl 1 rfl ?_
  refine x_callV C 0 (m_X8_isThing rfl) rfl rfl kM_X8_96 kI_X8_isThing kS_X8_isThing kN_X8 kC_X8_isThing kD_X8_isThing rfl ⟨Nat.le_of_ble_eq_true rfl, Nat.le_of_ble_eq_true rfl⟩ ⟨Nat.le_refl _, Nat.le_refl _⟩ (rest := []) rfl (Nat.le_of_ble_eq_true rfl) dX8_exchange_2 (st' := [.int (f_X8_isThing x1 σ)]) rfl ?_
  by_cases hc2 : (f_X8_isThing x1 σ) = 0
  · replace h := (if_pos hc2).symm.trans h
    refine x_if_eqT C dX8_exchange_5 (tgt := 21) (by decide) hc2 ?_
    refine x_bipush C dX8_exchange_21 (v := -101) (by decide) ?_
    replace h := Option.some.inj h
    obtain ⟨rfl, rfl⟩ := Prod.mk.inj h
    exact x_ret C hr rfl rfl dX8_exchange_23
  · replace h := (if_neg hc2).symm.trans h
    refine x_if_eqF C dX8_exchange_5 (tgt := 21) (by decide) hc2 ?_
    refine x_aload_n C dX8_exchange_8 rfl 0 rfl ?_
    refine x_iload_n C dX8_exchange_9 rfl 2 rfl ?_
    refine x_callV C 0 (m_X8_isThing rfl) rfl rfl kM_X8_96 kI_X8_isThing kS_X8_isThing kN_X8 kC_X8_isThing kD_X8_isThing rfl ⟨Nat.le_of_ble_eq_true rfl, Nat.le_of_ble_eq_true rfl⟩ ⟨Nat.le_refl _, Nat.le_refl _⟩ (rest := []) rfl (Nat.le_of_ble_eq_true rfl) dX8_exchange_10 (st' := [.int (f_X8_isThing x2 σ)]) rfl ?_
    by_cases hc4 : (f_X8_isThing x2 σ) = 0
    · replace h := (if_pos hc4).symm.trans h
      refine x_if_eqT C dX8_exchange_13 (tgt := 21) (by decide) hc4 ?_
      refine x_bipush C dX8_exchange_21 (v := -101) (by decide) ?_
      replace h := Option.some.inj h
      obtain ⟨rfl, rfl⟩ := Prod.mk.inj h
      exact x_ret C hr rfl rfl dX8_exchange_23
    · replace h := (if_neg hc4).symm.trans h
      refine x_if_eqF C dX8_exchange_13 (tgt := 21) (by decide) hc4 ?_
      refine x_iload_n C dX8_exchange_16 rfl 1 rfl ?_
      refine x_iload_n C dX8_exchange_17 rfl 2 rfl ?_
      by_cases hc5 : x1 = x2
      · replace h := (if_pos hc5).symm.trans h
        refine x_icmp_neF C dX8_exchange_18 (tgt := 24) (by decide) hc5 ?_
        refine x_bipush C dX8_exchange_21 (v := -101) (by decide) ?_
        replace h := Option.some.inj h
        obtain ⟨rfl, rfl⟩ := Prod.mk.inj h
        exact x_ret C hr rfl rfl dX8_exchange_23
      · replace h := (if_neg hc5).symm.trans h
        refine x_icmp_neT C dX8_exchange_18 (tgt := 24) (by decide) hc5 ?_
        refine x_aload_n C dX8_exchange_24 rfl 0 rfl ?_
        refine x_getr C 0 rfl rfl inX8 2 (by decide) rfl kF_X8_26 rfl dX8_exchange_25 ?_
        refine x_getr C 9 rfl rfl inX3 8 (by decide) rfl kF_X8_120 rfl dX8_exchange_28 ?_
        refine x_iload_n C dX8_exchange_31 rfl 1 rfl ?_
        obtain ⟨hb6, h⟩ := ck_some h
        refine x_zald C 15 rfl hb6 (v := (σ 15 x1.toNatClampNeg)) rfl dX8_exchange_32 ?_
        by_cases hc7 : (σ 15 x1.toNatClampNeg) = 0
        · replace h := (if_pos hc7).symm.trans h
          refine x_if_neF C dX8_exchange_33 (tgt := 48) (by decide) hc7 ?_
          refine x_aload_n C dX8_exchange_36 rfl 0 rfl ?_
          refine x_getr C 0 rfl rfl inX8 2 (by decide) rfl kF_X8_26 rfl dX8_exchange_37 ?_
          refine x_getr C 9 rfl rfl inX3 8 (by decide) rfl kF_X8_120 rfl dX8_exchange_40 ?_
          refine x_iload_n C dX8_exchange_43 rfl 2 rfl ?_
          obtain ⟨hb8, h⟩ := ck_some h
          refine x_zald C 15 rfl hb8 (v := (σ 15 x2.toNatClampNeg)) rfl dX8_exchange_44 ?_
          by_cases hc9 : (σ 15 x2.toNatClampNeg) = 0
          · replace h := (if_pos hc9).symm.trans h
            refine x_if_eqT C dX8_exchange_45 (tgt := 51) (by decide) hc9 ?_
            refine x_aload_n C dX8_exchange_51 rfl 0 rfl ?_
            refine x_getr C 0 rfl rfl inX8 2 (by decide) rfl kF_X8_26 rfl dX8_exchange_52 ?_
            refine x_getr C 9 rfl rfl inX3 5 (by decide) rfl kF_X8_124 rfl dX8_exchange_55 ?_
            refine x_iload_n C dX8_exchange_58 rfl 1 rfl ?_
            refine x_iload_n C dX8_exchange_59 rfl 2 rfl ?_
            obtain ⟨s10, hv10, h⟩ := Option.bind_eq_some_iff.mp h
            refine x_callS C (m_X8_swapThings_12 hv10) kM_X8_127 kT_X8_swapThings kN_X8 kC_X8_swapThings kD_X8_swapThings rfl ⟨Nat.le_of_ble_eq_true rfl, Nat.le_of_ble_eq_true rfl⟩ ⟨Nat.le_refl _, Nat.le_refl _⟩ (rest := []) rfl (Nat.le_of_ble_eq_true rfl) dX8_exchange_60 (st' := []) rfl ?_
            refine x_aload_n C dX8_exchange_63 rfl 0 rfl ?_
            obtain ⟨⟨v11, s11⟩, hv11, h⟩ := Option.bind_eq_some_iff.mp h
            try dsimp only at h
            refine x_callV C 0 (m_X8_levelNow hv11) rfl rfl kM_X8_131 kI_X8_levelNow kS_X8_levelNow kN_X8 kC_X8_levelNow kD_X8_levelNow rfl ⟨Nat.le_of_ble_eq_true rfl, Nat.le_of_ble_eq_true rfl⟩ ⟨Nat.le_refl _, Nat.le_refl _⟩ (rest := []) rfl (Nat.le_of_ble_eq_true rfl) dX8_exchange_64 (st' := [.int v11]) rfl ?_
            replace h := Option.some.inj h
            obtain ⟨rfl, rfl⟩ := Prod.mk.inj h
            exact x_ret C hr rfl rfl dX8_exchange_67
          · replace h := (if_neg hc9).symm.trans h
            refine x_if_eqF C dX8_exchange_45 (tgt := 51) (by decide) hc9 ?_
            refine x_bipush C dX8_exchange_48 (v := -103) (by decide) ?_
            replace h := Option.some.inj h
            obtain ⟨rfl, rfl⟩ := Prod.mk.inj h
            exact x_ret C hr rfl rfl dX8_exchange_50
        · replace h := (if_neg hc7).symm.trans h
          refine x_if_neT C dX8_exchange_33 (tgt := 48) (by decide) hc7 ?_
          refine x_bipush C dX8_exchange_48 (v := -103) (by decide) ?_
          replace h := Option.some.inj h
          obtain ⟨rfl, rfl⟩ := Prod.mk.inj h
          exact x_ret C hr rfl rfl dX8_exchange_50
def f_X8_fault (σ : gs_H) : Option (Int32 × gs_H) :=
(f_X5_readLetters σ).bind fun q1 =>
some (q1.1, q1.2)
set_option maxHeartbeats 4000000 in
set_option maxRecDepth 20000 in
theorem m_X8_fault {E : gs_E} {l : Launch} {σ : gs_H} {g : Int64} {r0 : Int32} {σ0 : gs_H} (h : f_X8_fault σ = some (r0, σ0)) : gs_M l E yX8_fault cX8_fault 1 (some .int) (9, 285) [.ref (gs_a E 0)] σ g (some (.int r0)) σ0 g := by
  refine x_enter (lv := [(0, .ref (gs_a E 0))]) (by decide +kernel) (Nat.le_of_ble_eq_true rfl) rfl (fun p e s m args below meth c C hr => ?_)
  unfold f_X8_fault at h
  refine x_aload_n C dX8_fault_0 rfl 0 rfl ?_
  refine x_getr C 0 rfl rfl inX8 1 (by decide) rfl kF_X8_19 rfl dX8_fault_1 ?_
  refine x_aload_n C dX8_fault_4 rfl 0 rfl ?_
  refine x_getr C 0 rfl rfl inX8 0 (by decide) rfl kF_X8_12 rfl dX8_fault_5 ?_
  obtain ⟨⟨v1, s1⟩, hv1, h⟩ := Option.bind_eq_some_iff.mp h
  try dsimp only at h
  refine x_callV C 3 (m_X5_readLetters hv1) rfl rfl kM_X8_62 kI_X5_readLetters kS_X5_readLetters kN_X5 kC_X5_readLetters kD_X5_readLetters rfl ⟨Nat.le_of_ble_eq_true rfl, Nat.le_of_ble_eq_true rfl⟩ ⟨Nat.le_refl _, Nat.le_refl _⟩ (rest := []) rfl (Nat.le_of_ble_eq_true rfl) dX8_fault_8 (st' := [.int v1]) rfl ?_
  replace h := Option.some.inj h
  obtain ⟨rfl, rfl⟩ := Prod.mk.inj h
  exact x_ret C hr rfl rfl dX8_fault_11
def f_X8_forget (σ : gs_H) : Int32 × gs_H :=
((σ 17 0), (up2 σ 17 0 (0 : Int32)))
set_option maxHeartbeats 4000000 in
set_option maxRecDepth 20000 in
theorem m_X8_forget {E : gs_E} {l : Launch} {σ : gs_H} {g : Int64} {r0 : Int32} {σ0 : gs_H} (h : f_X8_forget σ = (r0, σ0)) : gs_M l E yX8_forget cX8_forget 2 (some .int) (0, 0) [.ref (gs_a E 0)] σ g (some (.int r0)) σ0 g := by
  refine x_enter (lv := [(0, .ref (gs_a E 0))]) (by decide +kernel) (Nat.le_of_ble_eq_true rfl) rfl (fun p e s m args below meth c C hr => ?_)
  unfold f_X8_forget at h
  refine x_aload_n C dX8_forget_0 rfl 0 rfl ?_
  refine x_getr C 0 rfl rfl inX8 2 (by decide) rfl kF_X8_26 rfl dX8_forget_1 ?_
  refine x_getr C 9 rfl rfl inX3 10 (by decide) rfl kF_X8_186 rfl dX8_forget_4 ?_
  refine x_geti C 17 rfl rfl inX7 0 (by decide) rfl kF_X8_190 rfl (v := (σ 17 0)) rfl dX8_forget_7 ?_
  refine x_istore_n C dX8_forget_10 rfl (lv2 := [(0, .ref (gs_a E 0)), (1, .int (σ 17 0))]) (by decide) rfl [1, 0] rfl ?_
  refine x_aload_n C dX8_forget_11 rfl 0 rfl ?_
  refine x_getr C 0 rfl rfl inX8 2 (by decide) rfl kF_X8_26 rfl dX8_forget_12 ?_
  refine x_getr C 9 rfl rfl inX3 10 (by decide) rfl kF_X8_186 rfl dX8_forget_15 ?_
  refine x_iconst C dX8_forget_18 (v := 0) (by decide) ?_
  refine x_puti C 17 rfl rfl inX7 tyX7 tyX7_ok nmX7 0 (by decide) rfl kF_X8_190 rfl rfl rfl rfl dX8_forget_19 ?_
  refine x_iload_n C dX8_forget_22 rfl 1 rfl ?_
  obtain ⟨rfl, rfl⟩ := Prod.mk.inj h
  exact x_ret C hr rfl rfl dX8_forget_23
def f_X8_hour (σ : gs_H) : Int32 × gs_H :=
if (f_X8_hasMobile σ) = 0 then (
((-103 : Int32), σ))
else (
if (σ 9 2) < (999 : Int32) then (
(((σ 9 2) + (1 : Int32)), (up2 σ 9 2 ((σ 9 2) + (1 : Int32)))))
else (
((-104 : Int32), σ)))
set_option maxHeartbeats 4000000 in
set_option maxRecDepth 20000 in
theorem m_X8_hour {E : gs_E} {l : Launch} {σ : gs_H} {g : Int64} {r0 : Int32} {σ0 : gs_H} (h : f_X8_hour σ = (r0, σ0)) : gs_M l E yX8_hour cX8_hour 1 (some .int) (1, 20) [.ref (gs_a E 0)] σ g (some (.int r0)) σ0 g := by
  refine x_enter (lv := [(0, .ref (gs_a E 0))]) (by decide +kernel) (Nat.le_of_ble_eq_true rfl) rfl (fun p e s m args below meth c C hr => ?_)
  unfold f_X8_hour at h
  refine x_aload_n C dX8_hour_0 rfl 0 rfl ?_
  refine x_callV C 0 (m_X8_hasMobile rfl) rfl rfl kM_X8_114 kI_X8_hasMobile kS_X8_hasMobile kN_X8 kC_X8_hasMobile kD_X8_hasMobile rfl ⟨Nat.le_of_ble_eq_true rfl, Nat.le_of_ble_eq_true rfl⟩ ⟨Nat.le_refl _, Nat.le_refl _⟩ (rest := []) rfl (Nat.le_of_ble_eq_true rfl) dX8_hour_1 (st' := [.int (f_X8_hasMobile σ)]) rfl ?_
  by_cases hc2 : (f_X8_hasMobile σ) = 0
  · replace h := (if_pos hc2).symm.trans h
    refine x_if_neF C dX8_hour_4 (tgt := 10) (by decide) hc2 ?_
    refine x_bipush C dX8_hour_7 (v := -103) (by decide) ?_
    obtain ⟨rfl, rfl⟩ := Prod.mk.inj h
    exact x_ret C hr rfl rfl dX8_hour_9
  · replace h := (if_neg hc2).symm.trans h
    refine x_if_neT C dX8_hour_4 (tgt := 10) (by decide) hc2 ?_
    refine x_aload_n C dX8_hour_10 rfl 0 rfl ?_
    refine x_getr C 0 rfl rfl inX8 2 (by decide) rfl kF_X8_26 rfl dX8_hour_11 ?_
    refine x_geti C 9 rfl rfl inX3 2 (by decide) rfl kF_X8_117 rfl (v := (σ 9 2)) rfl dX8_hour_14 ?_
    refine x_sipush C dX8_hour_17 (v := 999) (by decide) ?_
    by_cases hc3 : (σ 9 2) < (999 : Int32)
    · replace h := (if_pos hc3).symm.trans h
      refine x_icmp_ltT C dX8_hour_20 (tgt := 26) (by decide) hc3 ?_
      refine x_aload_n C dX8_hour_26 rfl 0 rfl ?_
      refine x_getr C 0 rfl rfl inX8 2 (by decide) rfl kF_X8_26 rfl dX8_hour_27 ?_
      refine x_dup C dX8_hour_30 rfl ?_
      refine x_geti C 9 rfl rfl inX3 2 (by decide) rfl kF_X8_117 rfl (v := (σ 9 2)) rfl dX8_hour_31 ?_
      refine x_iconst C dX8_hour_34 (v := 1) (by decide) ?_
      refine x_iadd C dX8_hour_35 ?_
      refine x_puti C 9 rfl rfl inX3 tyX3 tyX3_ok nmX3 2 (by decide) rfl kF_X8_117 rfl rfl rfl rfl dX8_hour_36 ?_
      refine x_aload_n C dX8_hour_39 rfl 0 rfl ?_
      refine x_getr C 0 rfl rfl inX8 2 (by decide) rfl kF_X8_26 rfl dX8_hour_40 ?_
      refine x_geti C 9 rfl rfl inX3 2 (by decide) rfl kF_X8_117 rfl (v := ((σ 9 2) + (1 : Int32))) rfl dX8_hour_43 ?_
      obtain ⟨rfl, rfl⟩ := Prod.mk.inj h
      exact x_ret C hr rfl rfl dX8_hour_46
    · replace h := (if_neg hc3).symm.trans h
      refine x_icmp_ltF C dX8_hour_20 (tgt := 26) (by decide) hc3 ?_
      refine x_bipush C dX8_hour_23 (v := -104) (by decide) ?_
      obtain ⟨rfl, rfl⟩ := Prod.mk.inj h
      exact x_ret C hr rfl rfl dX8_hour_25
def f_X8_image (σ : gs_H) : Option (Int32 × gs_H) :=
if (f_X8_hasMobile σ) = 0 then (
some ((-103 : Int32), σ))
else (
(f_X3_copyFrom 22 9 σ).bind fun q3 =>
some ((q3 9 2), (up2 q3 0 7 (1 : Int32))))
set_option maxHeartbeats 4000000 in
set_option maxRecDepth 20000 in
theorem m_X8_image {E : gs_E} {l : Launch} {σ : gs_H} {g : Int64} {r0 : Int32} {σ0 : gs_H} (h : f_X8_image σ = some (r0, σ0)) : gs_M l E yX8_image cX8_image 1 (some .int) (2, 44) [.ref (gs_a E 0)] σ g (some (.int r0)) σ0 g := by
  refine x_enter (lv := [(0, .ref (gs_a E 0))]) (by decide +kernel) (Nat.le_of_ble_eq_true rfl) rfl (fun p e s m args below meth c C hr => ?_)
  unfold f_X8_image at h
  refine x_aload_n C dX8_image_0 rfl 0 rfl ?_
  refine x_callV C 0 (m_X8_hasMobile rfl) rfl rfl kM_X8_114 kI_X8_hasMobile kS_X8_hasMobile kN_X8 kC_X8_hasMobile kD_X8_hasMobile rfl ⟨Nat.le_of_ble_eq_true rfl, Nat.le_of_ble_eq_true rfl⟩ ⟨Nat.le_refl _, Nat.le_refl _⟩ (rest := []) rfl (Nat.le_of_ble_eq_true rfl) dX8_image_1 (st' := [.int (f_X8_hasMobile σ)]) rfl ?_
  by_cases hc2 : (f_X8_hasMobile σ) = 0
  · replace h := (if_pos hc2).symm.trans h
    refine x_if_neF C dX8_image_4 (tgt := 10) (by decide) hc2 ?_
    refine x_bipush C dX8_image_7 (v := -103) (by decide) ?_
    replace h := Option.some.inj h
    obtain ⟨rfl, rfl⟩ := Prod.mk.inj h
    exact x_ret C hr rfl rfl dX8_image_9
  · replace h := (if_neg hc2).symm.trans h
    refine x_if_neT C dX8_image_4 (tgt := 10) (by decide) hc2 ?_
    refine x_aload_n C dX8_image_10 rfl 0 rfl ?_
    refine x_getr C 0 rfl rfl inX8 3 (by decide) rfl kF_X8_30 rfl dX8_image_11 ?_
    refine x_aload_n C dX8_image_14 rfl 0 rfl ?_
    refine x_getr C 0 rfl rfl inX8 2 (by decide) rfl kF_X8_26 rfl dX8_image_15 ?_
    obtain ⟨s3, hv3, h⟩ := Option.bind_eq_some_iff.mp h
    refine x_callV C 22 (m_X3_copyFrom_22_9 hv3) rfl rfl kM_X8_214 kI_X3_copyFrom kS_X3_copyFrom kN_X3 kC_X3_copyFrom kD_X3_copyFrom rfl ⟨Nat.le_of_ble_eq_true rfl, Nat.le_of_ble_eq_true rfl⟩ ⟨Nat.le_refl _, Nat.le_refl _⟩ (rest := []) rfl (Nat.le_of_ble_eq_true rfl) dX8_image_18 (st' := []) rfl ?_
    refine x_aload_n C dX8_image_21 rfl 0 rfl ?_
    refine x_iconst C dX8_image_22 (v := 1) (by decide) ?_
    refine x_puti C 0 rfl rfl inX8 tyX8 tyX8_ok nmX8 7 (by decide) rfl kF_X8_74 rfl rfl rfl rfl dX8_image_23 ?_
    refine x_aload_n C dX8_image_26 rfl 0 rfl ?_
    refine x_getr C 0 rfl rfl inX8 2 (by decide) rfl kF_X8_26 rfl dX8_image_27 ?_
    refine x_geti C 9 rfl rfl inX3 2 (by decide) rfl kF_X8_117 rfl (v := (s3 9 2)) rfl dX8_image_30 ?_
    replace h := Option.some.inj h
    obtain ⟨rfl, rfl⟩ := Prod.mk.inj h
    exact x_ret C hr rfl rfl dX8_image_33
def j_X8_lay_34 (x1 : Int32) (x2 : Int32) (σ : gs_H) : Option (Int32 × gs_H) :=
if (f_X8_hasMobile σ) = 0 then (
some ((-103 : Int32), σ))
else (
if (σ 0 9) < (20 : Int32) then (
(f_X2_findBestLaying (up2 σ 0 9 ((σ 0 9) + (1 : Int32)))).bind fun q9 =>
if x2 = 0 then (
if x1 = 0 then (
some ((q9 40 0), q9))
else (
some ((q9 40 1), q9)))
else (
if inb (x1 - (10 : Int32)) 6 then
some ((q9 41 (x1 - (10 : Int32)).toNatClampNeg), q9) else none))
else (
some ((-103 : Int32), σ)))
def j_X8_lay_17 (x1 : Int32) (t0 : Int32) (σ : gs_H) : Option (Int32 × gs_H) :=
if x1 = 0 then (
j_X8_lay_34 x1 t0 σ)
else (
if x1 = (1 : Int32) then (
j_X8_lay_34 x1 t0 σ)
else (
if t0 = 0 then (
some ((-102 : Int32), σ))
else (
j_X8_lay_34 x1 t0 σ)))
def j_X8_lay_16 (x1 : Int32) (σ : gs_H) : Option (Int32 × gs_H) :=
j_X8_lay_17 x1 (0 : Int32) σ
def f_X8_lay (x1 : Int32) (σ : gs_H) : Option (Int32 × gs_H) :=
if x1 < (10 : Int32) then (
j_X8_lay_16 x1 σ)
else (
if (16 : Int32) ≤ x1 then (
j_X8_lay_16 x1 σ)
else (
j_X8_lay_17 x1 (1 : Int32) σ))
set_option maxHeartbeats 4000000 in
set_option maxRecDepth 20000 in
theorem wj_X8_lay_34 {E : gs_E} {l : Launch} {p : Program} {e : Env} {s : State} {m : MethodId} {args : Array Value} {below : List Frame} {meth : Method} {c : Code} (C : gs_X E RX8 cX8_lay 3 p s m args meth c) {x1 : Int32} {x2 : Int32} {σ : gs_H} {g : Int64} {r0 : Int32} {σ0 : gs_H} (hr : meth.sig.returnType = some .int) (h : j_X8_lay_34 x1 x2 σ = some (r0, σ0)) : gs_V E 3 (5, 112) p l e s m args below meth c (some (.int r0)) σ0 g 34 [(0, .ref (gs_a E 0)), (1, .int x1), (2, .int x2)] [] σ g := by
  unfold j_X8_lay_34 at h
  refine x_aload_n C dX8_lay_34 rfl 0 rfl ?_
  refine x_callV C 0 (m_X8_hasMobile rfl) rfl rfl kM_X8_114 kI_X8_hasMobile kS_X8_hasMobile kN_X8 kC_X8_hasMobile kD_X8_hasMobile rfl ⟨Nat.le_of_ble_eq_true rfl, Nat.le_of_ble_eq_true rfl⟩ ⟨Nat.le_refl _, Nat.le_refl _⟩ (rest := []) rfl (Nat.le_of_ble_eq_true rfl) dX8_lay_35 (st' := [.int (f_X8_hasMobile σ)]) rfl ?_
  by_cases hc2 : (f_X8_hasMobile σ) = 0
  · replace h := (if_pos hc2).symm.trans h
    refine x_if_eqT C dX8_lay_38 (tgt := 50) (by decide) hc2 ?_
    refine x_bipush C dX8_lay_50 (v := -103) (by decide) ?_
    replace h := Option.some.inj h
    obtain ⟨rfl, rfl⟩ := Prod.mk.inj h
    exact x_ret C hr rfl rfl dX8_lay_52
  · replace h := (if_neg hc2).symm.trans h
    refine x_if_eqF C dX8_lay_38 (tgt := 50) (by decide) hc2 ?_
    refine x_aload_n C dX8_lay_41 rfl 0 rfl ?_
    refine x_geti C 0 rfl rfl inX8 9 (by decide) rfl kF_X8_157 rfl (v := (σ 0 9)) rfl dX8_lay_42 ?_
    refine x_bipush C dX8_lay_45 (v := 20) (by decide) ?_
    by_cases hc3 : (σ 0 9) < (20 : Int32)
    · replace h := (if_pos hc3).symm.trans h
      refine x_icmp_ltT C dX8_lay_47 (tgt := 53) (by decide) hc3 ?_
      refine x_aload_n C dX8_lay_53 rfl 0 rfl ?_
      refine x_dup C dX8_lay_54 rfl ?_
      refine x_geti C 0 rfl rfl inX8 9 (by decide) rfl kF_X8_157 rfl (v := (σ 0 9)) rfl dX8_lay_55 ?_
      refine x_iconst C dX8_lay_58 (v := 1) (by decide) ?_
      refine x_iadd C dX8_lay_59 ?_
      refine x_puti C 0 rfl rfl inX8 tyX8 tyX8_ok nmX8 9 (by decide) rfl kF_X8_157 rfl rfl rfl rfl dX8_lay_60 ?_
      refine x_aload_n C dX8_lay_63 rfl 0 rfl ?_
      refine x_getr C 0 rfl rfl inX8 5 (by decide) rfl kF_X8_43 rfl dX8_lay_64 ?_
      refine x_aload_n C dX8_lay_67 rfl 0 rfl ?_
      refine x_getr C 0 rfl rfl inX8 2 (by decide) rfl kF_X8_26 rfl dX8_lay_68 ?_
      obtain ⟨s4, hv4, h⟩ := Option.bind_eq_some_iff.mp h
      refine x_callV C 40 (m_X2_findBestLaying hv4) rfl rfl kM_X8_160 kI_X2_findBestLaying kS_X2_findBestLaying kN_X2 kC_X2_findBestLaying kD_X2_findBestLaying rfl ⟨Nat.le_of_ble_eq_true rfl, Nat.le_of_ble_eq_true rfl⟩ ⟨Nat.le_refl _, Nat.le_refl _⟩ (rest := []) rfl (Nat.le_of_ble_eq_true rfl) dX8_lay_71 (st' := []) rfl ?_
      refine x_iload_n C dX8_lay_74 rfl 2 rfl ?_
      by_cases hc5 : x2 = 0
      · replace h := (if_pos hc5).symm.trans h
        refine x_if_eqT C dX8_lay_75 (tgt := 91) (by decide) hc5 ?_
        refine x_iload_n C dX8_lay_91 rfl 1 rfl ?_
        by_cases hc6 : x1 = 0
        · replace h := (if_pos hc6).symm.trans h
          refine x_if_neF C dX8_lay_92 (tgt := 105) (by decide) hc6 ?_
          refine x_aload_n C dX8_lay_95 rfl 0 rfl ?_
          refine x_getr C 0 rfl rfl inX8 5 (by decide) rfl kF_X8_43 rfl dX8_lay_96 ?_
          refine x_geti C 40 rfl rfl inX2 0 (by decide) rfl kF_X8_166 rfl (v := (s4 40 0)) rfl dX8_lay_99 ?_
          refine x_goto C dX8_lay_102 (tgt := 112) (by decide) ?_
          replace h := Option.some.inj h
          obtain ⟨rfl, rfl⟩ := Prod.mk.inj h
          exact x_ret C hr rfl rfl dX8_lay_112
        · replace h := (if_neg hc6).symm.trans h
          refine x_if_neT C dX8_lay_92 (tgt := 105) (by decide) hc6 ?_
          refine x_aload_n C dX8_lay_105 rfl 0 rfl ?_
          refine x_getr C 0 rfl rfl inX8 5 (by decide) rfl kF_X8_43 rfl dX8_lay_106 ?_
          refine x_geti C 40 rfl rfl inX2 1 (by decide) rfl kF_X8_169 rfl (v := (s4 40 1)) rfl dX8_lay_109 ?_
          replace h := Option.some.inj h
          obtain ⟨rfl, rfl⟩ := Prod.mk.inj h
          exact x_ret C hr rfl rfl dX8_lay_112
      · replace h := (if_neg hc5).symm.trans h
        refine x_if_eqF C dX8_lay_75 (tgt := 91) (by decide) hc5 ?_
        refine x_aload_n C dX8_lay_78 rfl 0 rfl ?_
        refine x_getr C 0 rfl rfl inX8 5 (by decide) rfl kF_X8_43 rfl dX8_lay_79 ?_
        refine x_getr C 40 rfl rfl inX2 2 (by decide) rfl kF_X8_163 rfl dX8_lay_82 ?_
        refine x_iload_n C dX8_lay_85 rfl 1 rfl ?_
        refine x_bipush C dX8_lay_86 (v := 10) (by decide) ?_
        refine x_isub C dX8_lay_88 ?_
        obtain ⟨hb7, h⟩ := ck_some h
        refine x_iald C 41 rfl hb7 (v := (s4 41 (x1 - (10 : Int32)).toNatClampNeg)) rfl dX8_lay_89 ?_
        replace h := Option.some.inj h
        obtain ⟨rfl, rfl⟩ := Prod.mk.inj h
        exact x_ret C hr rfl rfl dX8_lay_90
    · replace h := (if_neg hc3).symm.trans h
      refine x_icmp_ltF C dX8_lay_47 (tgt := 53) (by decide) hc3 ?_
      refine x_bipush C dX8_lay_50 (v := -103) (by decide) ?_
      replace h := Option.some.inj h
      obtain ⟨rfl, rfl⟩ := Prod.mk.inj h
      exact x_ret C hr rfl rfl dX8_lay_52
set_option maxHeartbeats 4000000 in
set_option maxRecDepth 20000 in
theorem wj_X8_lay_17 {E : gs_E} {l : Launch} {p : Program} {e : Env} {s : State} {m : MethodId} {args : Array Value} {below : List Frame} {meth : Method} {c : Code} (C : gs_X E RX8 cX8_lay 3 p s m args meth c) {x1 : Int32} {t0 : Int32} {σ : gs_H} {g : Int64} {r0 : Int32} {σ0 : gs_H} (hr : meth.sig.returnType = some .int) (h : j_X8_lay_17 x1 t0 σ = some (r0, σ0)) : gs_V E 3 (5, 112) p l e s m args below meth c (some (.int r0)) σ0 g 17 [(0, .ref (gs_a E 0)), (1, .int x1)] [.int t0] σ g := by
  unfold j_X8_lay_17 at h
  refine x_istore_n C dX8_lay_17 rfl (lv2 := [(0, .ref (gs_a E 0)), (1, .int x1), (2, .int t0)]) (by decide) rfl [1, 2, 0] rfl ?_
  refine x_iload_n C dX8_lay_18 rfl 1 rfl ?_
  by_cases hc1 : x1 = 0
  · replace h := (if_pos hc1).symm.trans h
    refine x_if_eqT C dX8_lay_19 (tgt := 34) (by decide) hc1 ?_
    exact wj_X8_lay_34 C hr h
  · replace h := (if_neg hc1).symm.trans h
    refine x_if_eqF C dX8_lay_19 (tgt := 34) (by decide) hc1 ?_
    refine x_iload_n C dX8_lay_22 rfl 1 rfl ?_
    refine x_iconst C dX8_lay_23 (v := 1) (by decide) ?_
    by_cases hc2 : x1 = (1 : Int32)
    · replace h := (if_pos hc2).symm.trans h
      refine x_icmp_eqT C dX8_lay_24 (tgt := 34) (by decide) hc2 ?_
      exact wj_X8_lay_34 C hr h
    · replace h := (if_neg hc2).symm.trans h
      refine x_icmp_eqF C dX8_lay_24 (tgt := 34) (by decide) hc2 ?_
      refine x_iload_n C dX8_lay_27 rfl 2 rfl ?_
      by_cases hc3 : t0 = 0
      · replace h := (if_pos hc3).symm.trans h
        refine x_if_neF C dX8_lay_28 (tgt := 34) (by decide) hc3 ?_
        refine x_bipush C dX8_lay_31 (v := -102) (by decide) ?_
        replace h := Option.some.inj h
        obtain ⟨rfl, rfl⟩ := Prod.mk.inj h
        exact x_ret C hr rfl rfl dX8_lay_33
      · replace h := (if_neg hc3).symm.trans h
        refine x_if_neT C dX8_lay_28 (tgt := 34) (by decide) hc3 ?_
        exact wj_X8_lay_34 C hr h
set_option maxHeartbeats 4000000 in
set_option maxRecDepth 20000 in
theorem wj_X8_lay_16 {E : gs_E} {l : Launch} {p : Program} {e : Env} {s : State} {m : MethodId} {args : Array Value} {below : List Frame} {meth : Method} {c : Code} (C : gs_X E RX8 cX8_lay 3 p s m args meth c) {x1 : Int32} {σ : gs_H} {g : Int64} {r0 : Int32} {σ0 : gs_H} (hr : meth.sig.returnType = some .int) (h : j_X8_lay_16 x1 σ = some (r0, σ0)) : gs_V E 3 (5, 112) p l e s m args below meth c (some (.int r0)) σ0 g 16 [(0, .ref (gs_a E 0)), (1, .int x1)] [] σ g := by
  unfold j_X8_lay_16 at h
  refine x_iconst C dX8_lay_16 (v := 0) (by decide) ?_
  exact wj_X8_lay_17 C hr h
set_option maxHeartbeats 4000000 in
set_option maxRecDepth 20000 in
theorem m_X8_lay {E : gs_E} {l : Launch} {x1 : Int32} {σ : gs_H} {g : Int64} {r0 : Int32} {σ0 : gs_H} (h : f_X8_lay x1 σ = some (r0, σ0)) : gs_M l E yX8_lay cX8_lay 3 (some .int) (5, 112) [.ref (gs_a E 0), .int x1] σ g (some (.int r0)) σ0 g := by
  refine x_enter (lv := [(0, .ref (gs_a E 0)), (1, .int x1)]) (by decide +kernel) (Nat.le_of_ble_eq_true rfl) rfl (fun p e s m args below meth c C hr => ?_)
  unfold f_X8_lay at h
  refine x_iload_n C dX8_lay_0 rfl 1 rfl ?_
  refine x_bipush C dX8_lay_1 (v := 10) (by decide) ?_
  by_cases hc1 : x1 < (10 : Int32)
  · replace h := (if_pos hc1).symm.trans h
    refine x_icmp_ltT C dX8_lay_3 (tgt := 16) (by decide) hc1 ?_
    exact wj_X8_lay_16 C hr h
  · replace h := (if_neg hc1).symm.trans h
    refine x_icmp_ltF C dX8_lay_3 (tgt := 16) (by decide) hc1 ?_
    refine x_iload_n C dX8_lay_6 rfl 1 rfl ?_
    refine x_bipush C dX8_lay_7 (v := 16) (by decide) ?_
    by_cases hc2 : (16 : Int32) ≤ x1
    · replace h := (if_pos hc2).symm.trans h
      refine x_icmp_geT C dX8_lay_9 (tgt := 16) (by decide) hc2 ?_
      exact wj_X8_lay_16 C hr h
    · replace h := (if_neg hc2).symm.trans h
      refine x_icmp_geF C dX8_lay_9 (tgt := 16) (by decide) hc2 ?_
      refine x_iconst C dX8_lay_12 (v := 1) (by decide) ?_
      refine x_goto C dX8_lay_13 (tgt := 17) (by decide) ?_
      exact wj_X8_lay_17 C hr h
def f_X8_letter (x1 : Int32) (σ : gs_H) : Option (Int32 × gs_H) :=
if x1 < (1 : Int32) then (
some ((-102 : Int32), σ))
else (
if x1 ≤ (126 : Int32) then (
if (σ 1 1) < (46 : Int32) then (
if inb (σ 1 1) 46 then
some (((σ 1 1) + (1 : Int32)), (up2 (up2 σ 2 (σ 1 1).toNatClampNeg x1) 1 1 ((σ 1 1) + (1 : Int32)))) else none)
else (
some ((-104 : Int32), σ)))
else (
some ((-102 : Int32), σ)))
set_option maxHeartbeats 4000000 in
set_option maxRecDepth 20000 in
theorem m_X8_letter {E : gs_E} {l : Launch} {x1 : Int32} {σ : gs_H} {g : Int64} {r0 : Int32} {σ0 : gs_H} (h : f_X8_letter x1 σ = some (r0, σ0)) : gs_M l E yX8_letter cX8_letter 2 (some .int) (0, 0) [.ref (gs_a E 0), .int x1] σ g (some (.int r0)) σ0 g := by
  refine x_enter (lv := [(0, .ref (gs_a E 0)), (1, .int x1)]) (by decide +kernel) (Nat.le_of_ble_eq_true rfl) rfl (fun p e s m args below meth c C hr => ?_)
  unfold f_X8_letter at h
  refine x_iload_n C dX8_letter_0 rfl 1 rfl ?_
  refine x_iconst C dX8_letter_1 (v := 1) (by decide) ?_
  by_cases hc1 : x1 < (1 : Int32)
  · replace h := (if_pos hc1).symm.trans h
    refine x_icmp_ltT C dX8_letter_2 (tgt := 11) (by decide) hc1 ?_
    refine x_bipush C dX8_letter_11 (v := -102) (by decide) ?_
    replace h := Option.some.inj h
    obtain ⟨rfl, rfl⟩ := Prod.mk.inj h
    exact x_ret C hr rfl rfl dX8_letter_13
  · replace h := (if_neg hc1).symm.trans h
    refine x_icmp_ltF C dX8_letter_2 (tgt := 11) (by decide) hc1 ?_
    refine x_iload_n C dX8_letter_5 rfl 1 rfl ?_
    refine x_bipush C dX8_letter_6 (v := 126) (by decide) ?_
    by_cases hc2 : x1 ≤ (126 : Int32)
    · replace h := (if_pos hc2).symm.trans h
      refine x_icmp_leT C dX8_letter_8 (tgt := 14) (by decide) hc2 ?_
      refine x_aload_n C dX8_letter_14 rfl 0 rfl ?_
      refine x_getr C 0 rfl rfl inX8 0 (by decide) rfl kF_X8_12 rfl dX8_letter_15 ?_
      refine x_geti C 1 rfl rfl inX4 1 (by decide) rfl kF_X8_54 rfl (v := (σ 1 1)) rfl dX8_letter_18 ?_
      refine x_bipush C dX8_letter_21 (v := 46) (by decide) ?_
      by_cases hc3 : (σ 1 1) < (46 : Int32)
      · replace h := (if_pos hc3).symm.trans h
        refine x_icmp_ltT C dX8_letter_23 (tgt := 29) (by decide) hc3 ?_
        refine x_aload_n C dX8_letter_29 rfl 0 rfl ?_
        refine x_getr C 0 rfl rfl inX8 0 (by decide) rfl kF_X8_12 rfl dX8_letter_30 ?_
        refine x_getr C 1 rfl rfl inX4 0 (by decide) rfl kF_X8_58 rfl dX8_letter_33 ?_
        refine x_aload_n C dX8_letter_36 rfl 0 rfl ?_
        refine x_getr C 0 rfl rfl inX8 0 (by decide) rfl kF_X8_12 rfl dX8_letter_37 ?_
        refine x_geti C 1 rfl rfl inX4 1 (by decide) rfl kF_X8_54 rfl (v := (σ 1 1)) rfl dX8_letter_40 ?_
        refine x_iload_n C dX8_letter_43 rfl 1 rfl ?_
        obtain ⟨hb4, h⟩ := ck_some h
        refine x_iast C 2 rfl hb4 dX8_letter_44 ?_
        refine x_aload_n C dX8_letter_45 rfl 0 rfl ?_
        refine x_getr C 0 rfl rfl inX8 0 (by decide) rfl kF_X8_12 rfl dX8_letter_46 ?_
        refine x_dup C dX8_letter_49 rfl ?_
        refine x_geti C 1 rfl rfl inX4 1 (by decide) rfl kF_X8_54 rfl (v := (σ 1 1)) rfl dX8_letter_50 ?_
        refine x_iconst C dX8_letter_53 (v := 1) (by decide) ?_
        refine x_iadd C dX8_letter_54 ?_
        refine x_puti C 1 rfl rfl inX4 tyX4 tyX4_ok nmX4 1 (by decide) rfl kF_X8_54 rfl rfl rfl rfl dX8_letter_55 ?_
        refine x_aload_n C dX8_letter_58 rfl 0 rfl ?_
        refine x_getr C 0 rfl rfl inX8 0 (by decide) rfl kF_X8_12 rfl dX8_letter_59 ?_
        refine x_geti C 1 rfl rfl inX4 1 (by decide) rfl kF_X8_54 rfl (v := ((σ 1 1) + (1 : Int32))) rfl dX8_letter_62 ?_
        replace h := Option.some.inj h
        obtain ⟨rfl, rfl⟩ := Prod.mk.inj h
        exact x_ret C hr rfl rfl dX8_letter_65
      · replace h := (if_neg hc3).symm.trans h
        refine x_icmp_ltF C dX8_letter_23 (tgt := 29) (by decide) hc3 ?_
        refine x_bipush C dX8_letter_26 (v := -104) (by decide) ?_
        replace h := Option.some.inj h
        obtain ⟨rfl, rfl⟩ := Prod.mk.inj h
        exact x_ret C hr rfl rfl dX8_letter_28
    · replace h := (if_neg hc2).symm.trans h
      refine x_icmp_leF C dX8_letter_8 (tgt := 14) (by decide) hc2 ?_
      refine x_bipush C dX8_letter_11 (v := -102) (by decide) ?_
      replace h := Option.some.inj h
      obtain ⟨rfl, rfl⟩ := Prod.mk.inj h
      exact x_ret C hr rfl rfl dX8_letter_13
def f_X8_mend (σ : gs_H) : Option (Int32 × gs_H) :=
(f_X3_hangAllAgain σ).bind fun q1 =>
some (q1.1, q1.2)
set_option maxHeartbeats 4000000 in
set_option maxRecDepth 20000 in
theorem m_X8_mend {E : gs_E} {l : Launch} {σ : gs_H} {g : Int64} {r0 : Int32} {σ0 : gs_H} (h : f_X8_mend σ = some (r0, σ0)) : gs_M l E yX8_mend cX8_mend 1 (some .int) (1, 22) [.ref (gs_a E 0)] σ g (some (.int r0)) σ0 g := by
  refine x_enter (lv := [(0, .ref (gs_a E 0))]) (by decide +kernel) (Nat.le_of_ble_eq_true rfl) rfl (fun p e s m args below meth c C hr => ?_)
  unfold f_X8_mend at h
  refine x_aload_n C dX8_mend_0 rfl 0 rfl ?_
  refine x_getr C 0 rfl rfl inX8 2 (by decide) rfl kF_X8_26 rfl dX8_mend_1 ?_
  obtain ⟨⟨v1, s1⟩, hv1, h⟩ := Option.bind_eq_some_iff.mp h
  try dsimp only at h
  refine x_callV C 9 (m_X3_hangAllAgain hv1) rfl rfl kM_X8_145 kI_X3_hangAllAgain kS_X3_hangAllAgain kN_X3 kC_X3_hangAllAgain kD_X3_hangAllAgain rfl ⟨Nat.le_of_ble_eq_true rfl, Nat.le_of_ble_eq_true rfl⟩ ⟨Nat.le_refl _, Nat.le_refl _⟩ (rest := []) rfl (Nat.le_of_ble_eq_true rfl) dX8_mend_4 (st' := [.int v1]) rfl ?_
  replace h := Option.some.inj h
  obtain ⟨rfl, rfl⟩ := Prod.mk.inj h
  exact x_ret C hr rfl rfl dX8_mend_7
def f_X8_mobile (σ : gs_H) : Option (Int32 × gs_H) :=
(f_X5_readLetters σ).bind fun q1 =>
if q1.1 < (q1.2 1 1) then (
some ((-103 : Int32), q1.2))
else (
if (f_X5_isWhole q1.2) = 0 then (
some ((-103 : Int32), q1.2))
else (
(f_X3_hangAsRead q1.2).bind fun q5 =>
some ((q5 9 1), (up2 (up2 (up2 q5 1 1 (0 : Int32)) 0 7 (0 : Int32)) 0 8 ((q5 0 8) + (1 : Int32))))))
set_option maxHeartbeats 4000000 in
set_option maxRecDepth 20000 in
theorem m_X8_mobile {E : gs_E} {l : Launch} {σ : gs_H} {g : Int64} {r0 : Int32} {σ0 : gs_H} (h : f_X8_mobile σ = some (r0, σ0)) : gs_M l E yX8_mobile cX8_mobile 1 (some .int) (9, 285) [.ref (gs_a E 0)] σ g (some (.int r0)) σ0 g := by
  refine x_enter (lv := [(0, .ref (gs_a E 0))]) (by decide +kernel) (Nat.le_of_ble_eq_true rfl) rfl (fun p e s m args below meth c C hr => ?_)
  unfold f_X8_mobile at h
  refine x_aload_n C dX8_mobile_0 rfl 0 rfl ?_
  refine x_getr C 0 rfl rfl inX8 1 (by decide) rfl kF_X8_19 rfl dX8_mobile_1 ?_
  refine x_aload_n C dX8_mobile_4 rfl 0 rfl ?_
  refine x_getr C 0 rfl rfl inX8 0 (by decide) rfl kF_X8_12 rfl dX8_mobile_5 ?_
  obtain ⟨⟨v1, s1⟩, hv1, h⟩ := Option.bind_eq_some_iff.mp h
  try dsimp only at h
  refine x_callV C 3 (m_X5_readLetters hv1) rfl rfl kM_X8_62 kI_X5_readLetters kS_X5_readLetters kN_X5 kC_X5_readLetters kD_X5_readLetters rfl ⟨Nat.le_of_ble_eq_true rfl, Nat.le_of_ble_eq_true rfl⟩ ⟨Nat.le_refl _, Nat.le_refl _⟩ (rest := []) rfl (Nat.le_of_ble_eq_true rfl) dX8_mobile_8 (st' := [.int v1]) rfl ?_
  refine x_aload_n C dX8_mobile_11 rfl 0 rfl ?_
  refine x_getr C 0 rfl rfl inX8 0 (by decide) rfl kF_X8_12 rfl dX8_mobile_12 ?_
  refine x_geti C 1 rfl rfl inX4 1 (by decide) rfl kF_X8_54 rfl (v := (s1 1 1)) rfl dX8_mobile_15 ?_
  by_cases hc2 : v1 < (s1 1 1)
  · replace h := (if_pos hc2).symm.trans h
    refine x_icmp_ltT C dX8_mobile_18 (tgt := 31) (by decide) hc2 ?_
    refine x_bipush C dX8_mobile_31 (v := -103) (by decide) ?_
    replace h := Option.some.inj h
    obtain ⟨rfl, rfl⟩ := Prod.mk.inj h
    exact x_ret C hr rfl rfl dX8_mobile_33
  · replace h := (if_neg hc2).symm.trans h
    refine x_icmp_ltF C dX8_mobile_18 (tgt := 31) (by decide) hc2 ?_
    refine x_aload_n C dX8_mobile_21 rfl 0 rfl ?_
    refine x_getr C 0 rfl rfl inX8 1 (by decide) rfl kF_X8_19 rfl dX8_mobile_22 ?_
    refine x_callV C 3 (m_X5_isWhole rfl) rfl rfl kM_X8_66 kI_X5_isWhole kS_X5_isWhole kN_X5 kC_X5_isWhole kD_X5_isWhole rfl ⟨Nat.le_of_ble_eq_true rfl, Nat.le_of_ble_eq_true rfl⟩ ⟨Nat.le_refl _, Nat.le_refl _⟩ (rest := []) rfl (Nat.le_of_ble_eq_true rfl) dX8_mobile_25 (st' := [.int (f_X5_isWhole s1)]) rfl ?_
    by_cases hc4 : (f_X5_isWhole s1) = 0
    · replace h := (if_pos hc4).symm.trans h
      refine x_if_neF C dX8_mobile_28 (tgt := 34) (by decide) hc4 ?_
      refine x_bipush C dX8_mobile_31 (v := -103) (by decide) ?_
      replace h := Option.some.inj h
      obtain ⟨rfl, rfl⟩ := Prod.mk.inj h
      exact x_ret C hr rfl rfl dX8_mobile_33
    · replace h := (if_neg hc4).symm.trans h
      refine x_if_neT C dX8_mobile_28 (tgt := 34) (by decide) hc4 ?_
      refine x_aload_n C dX8_mobile_34 rfl 0 rfl ?_
      refine x_getr C 0 rfl rfl inX8 2 (by decide) rfl kF_X8_26 rfl dX8_mobile_35 ?_
      refine x_aload_n C dX8_mobile_38 rfl 0 rfl ?_
      refine x_getr C 0 rfl rfl inX8 1 (by decide) rfl kF_X8_19 rfl dX8_mobile_39 ?_
      obtain ⟨s5, hv5, h⟩ := Option.bind_eq_some_iff.mp h
      refine x_callV C 9 (m_X3_hangAsRead hv5) rfl rfl kM_X8_70 kI_X3_hangAsRead kS_X3_hangAsRead kN_X3 kC_X3_hangAsRead kD_X3_hangAsRead rfl ⟨Nat.le_of_ble_eq_true rfl, Nat.le_of_ble_eq_true rfl⟩ ⟨Nat.le_refl _, Nat.le_refl _⟩ (rest := []) rfl (Nat.le_of_ble_eq_true rfl) dX8_mobile_42 (st' := []) rfl ?_
      refine x_aload_n C dX8_mobile_45 rfl 0 rfl ?_
      refine x_getr C 0 rfl rfl inX8 0 (by decide) rfl kF_X8_12 rfl dX8_mobile_46 ?_
      refine x_iconst C dX8_mobile_49 (v := 0) (by decide) ?_
      refine x_puti C 1 rfl rfl inX4 tyX4 tyX4_ok nmX4 1 (by decide) rfl kF_X8_54 rfl rfl rfl rfl dX8_mobile_50 ?_
      refine x_aload_n C dX8_mobile_53 rfl 0 rfl ?_
      refine x_iconst C dX8_mobile_54 (v := 0) (by decide) ?_
      refine x_puti C 0 rfl rfl inX8 tyX8 tyX8_ok nmX8 7 (by decide) rfl kF_X8_74 rfl rfl rfl rfl dX8_mobile_55 ?_
      refine x_aload_n C dX8_mobile_58 rfl 0 rfl ?_
      refine x_dup C dX8_mobile_59 rfl ?_
      refine x_geti C 0 rfl rfl inX8 8 (by decide) rfl kF_X8_78 rfl (v := (s5 0 8)) rfl dX8_mobile_60 ?_
      refine x_iconst C dX8_mobile_63 (v := 1) (by decide) ?_
      refine x_iadd C dX8_mobile_64 ?_
      refine x_puti C 0 rfl rfl inX8 tyX8 tyX8_ok nmX8 8 (by decide) rfl kF_X8_78 rfl rfl rfl rfl dX8_mobile_65 ?_
      refine x_aload_n C dX8_mobile_68 rfl 0 rfl ?_
      refine x_getr C 0 rfl rfl inX8 2 (by decide) rfl kF_X8_26 rfl dX8_mobile_69 ?_
      refine x_geti C 9 rfl rfl inX3 1 (by decide) rfl kF_X8_81 rfl (v := (s5 9 1)) rfl dX8_mobile_72 ?_
      replace h := Option.some.inj h
      obtain ⟨rfl, rfl⟩ := Prod.mk.inj h
      exact x_ret C hr rfl rfl dX8_mobile_75
def f_X8_move (x1 : Int32) (x2 : Int32) (σ : gs_H) : Option (Int32 × gs_H) :=
if (f_X8_isRod x1 σ) = 0 then (
some ((-101 : Int32), σ))
else (
if inb ((2 : Int32) * x1) 10 then
if inb (((2 : Int32) * x1) + (1 : Int32)) 10 then
if x2 < (1 : Int32) then (
some ((-102 : Int32), σ))
else (
if x2 < ((σ 10 ((2 : Int32) * x1).toNatClampNeg) + (σ 10 (((2 : Int32) * x1) + (1 : Int32)).toNatClampNeg)) then (
if inb ((2 : Int32) * x1) 10 then
if inb (((2 : Int32) * x1) + (1 : Int32)) 10 then
some ((σ 10 ((2 : Int32) * x1).toNatClampNeg), (up2 (up2 σ 10 ((2 : Int32) * x1).toNatClampNeg x2) 10 (((2 : Int32) * x1) + (1 : Int32)).toNatClampNeg (((σ 10 ((2 : Int32) * x1).toNatClampNeg) + (σ 10 (((2 : Int32) * x1) + (1 : Int32)).toNatClampNeg)) - x2))) else none else none)
else (
some ((-102 : Int32), σ))) else none else none)
set_option maxHeartbeats 4000000 in
set_option maxRecDepth 20000 in
theorem m_X8_move {E : gs_E} {l : Launch} {x1 : Int32} {x2 : Int32} {σ : gs_H} {g : Int64} {r0 : Int32} {σ0 : gs_H} (h : f_X8_move x1 x2 σ = some (r0, σ0)) : gs_M l E yX8_move cX8_move 5 (some .int) (1, 21) [.ref (gs_a E 0), .int x1, .int x2] σ g (some (.int r0)) σ0 g := by
  refine x_enter (lv := [(0, .ref (gs_a E 0)), (1, .int x1), (2, .int x2)]) (by decide +kernel) (Nat.le_of_ble_eq_true rfl) rfl (fun p e s m args below meth c C hr => ?_)
  unfold f_X8_move at h
  refine x_aload_n C dX8_move_0 rfl 0 rfl ?_
  refine x_iload_n C dX8_move_1 rfl 1 rfl ?_
  refine x_callV C 0 (m_X8_isRod rfl) rfl rfl kM_X8_84 kI_X8_isRod kS_X8_isRod kN_X8 kC_X8_isRod kD_X8_isRod rfl ⟨Nat.le_of_ble_eq_true rfl, Nat.le_of_ble_eq_true rfl⟩ ⟨Nat.le_refl _, Nat.le_refl _⟩ (rest := []) rfl (Nat.le_of_ble_eq_true rfl) dX8_move_2 (st' := [.int (f_X8_isRod x1 σ)]) rfl ?_
  by_cases hc2 : (f_X8_isRod x1 σ) = 0
  · replace h := (if_pos hc2).symm.trans h
    refine x_if_neF C dX8_move_5 (tgt := 11) (by decide) hc2 ?_
    refine x_bipush C dX8_move_8 (v := -101) (by decide) ?_
    replace h := Option.some.inj h
    obtain ⟨rfl, rfl⟩ := Prod.mk.inj h
    exact x_ret C hr rfl rfl dX8_move_10
  · replace h := (if_neg hc2).symm.trans h
    refine x_if_neT C dX8_move_5 (tgt := 11) (by decide) hc2 ?_
    refine x_aload_n C dX8_move_11 rfl 0 rfl ?_
    refine x_getr C 0 rfl rfl inX8 2 (by decide) rfl kF_X8_26 rfl dX8_move_12 ?_
    refine x_getr C 9 rfl rfl inX3 3 (by decide) rfl kF_X8_135 rfl dX8_move_15 ?_
    refine x_iconst C dX8_move_18 (v := 2) (by decide) ?_
    refine x_iload_n C dX8_move_19 rfl 1 rfl ?_
    refine x_imul C dX8_move_20 ?_
    obtain ⟨hb3, h⟩ := ck_some h
    refine x_iald C 10 rfl hb3 (v := (σ 10 ((2 : Int32) * x1).toNatClampNeg)) rfl dX8_move_21 ?_
    refine x_istore_n C dX8_move_22 rfl (lv2 := [(0, .ref (gs_a E 0)), (1, .int x1), (2, .int x2), (3, .int (σ 10 ((2 : Int32) * x1).toNatClampNeg))]) (by decide) rfl [1, 2, 3, 0] rfl ?_
    refine x_iload_n C dX8_move_23 rfl 3 rfl ?_
    refine x_aload_n C dX8_move_24 rfl 0 rfl ?_
    refine x_getr C 0 rfl rfl inX8 2 (by decide) rfl kF_X8_26 rfl dX8_move_25 ?_
    refine x_getr C 9 rfl rfl inX3 3 (by decide) rfl kF_X8_135 rfl dX8_move_28 ?_
    refine x_iconst C dX8_move_31 (v := 2) (by decide) ?_
    refine x_iload_n C dX8_move_32 rfl 1 rfl ?_
    refine x_imul C dX8_move_33 ?_
    refine x_iconst C dX8_move_34 (v := 1) (by decide) ?_
    refine x_iadd C dX8_move_35 ?_
    obtain ⟨hb4, h⟩ := ck_some h
    refine x_iald C 10 rfl hb4 (v := (σ 10 (((2 : Int32) * x1) + (1 : Int32)).toNatClampNeg)) rfl dX8_move_36 ?_
    refine x_iadd C dX8_move_37 ?_
    refine x_istore C dX8_move_38 (lv2 := [(0, .ref (gs_a E 0)), (1, .int x1), (2, .int x2), (3, .int (σ 10 ((2 : Int32) * x1).toNatClampNeg)), (4, .int ((σ 10 ((2 : Int32) * x1).toNatClampNeg) + (σ 10 (((2 : Int32) * x1) + (1 : Int32)).toNatClampNeg)))]) (by decide) rfl [1, 2, 3, 4, 0] rfl ?_
    refine x_iload_n C dX8_move_40 rfl 2 rfl ?_
    refine x_iconst C dX8_move_41 (v := 1) (by decide) ?_
    by_cases hc5 : x2 < (1 : Int32)
    · replace h := (if_pos hc5).symm.trans h
      refine x_icmp_ltT C dX8_move_42 (tgt := 51) (by decide) hc5 ?_
      refine x_bipush C dX8_move_51 (v := -102) (by decide) ?_
      replace h := Option.some.inj h
      obtain ⟨rfl, rfl⟩ := Prod.mk.inj h
      exact x_ret C hr rfl rfl dX8_move_53
    · replace h := (if_neg hc5).symm.trans h
      refine x_icmp_ltF C dX8_move_42 (tgt := 51) (by decide) hc5 ?_
      refine x_iload_n C dX8_move_45 rfl 2 rfl ?_
      refine x_iload C dX8_move_46 4 rfl ?_
      by_cases hc6 : x2 < ((σ 10 ((2 : Int32) * x1).toNatClampNeg) + (σ 10 (((2 : Int32) * x1) + (1 : Int32)).toNatClampNeg))
      · replace h := (if_pos hc6).symm.trans h
        refine x_icmp_ltT C dX8_move_48 (tgt := 54) (by decide) hc6 ?_
        refine x_aload_n C dX8_move_54 rfl 0 rfl ?_
        refine x_getr C 0 rfl rfl inX8 2 (by decide) rfl kF_X8_26 rfl dX8_move_55 ?_
        refine x_getr C 9 rfl rfl inX3 3 (by decide) rfl kF_X8_135 rfl dX8_move_58 ?_
        refine x_iconst C dX8_move_61 (v := 2) (by decide) ?_
        refine x_iload_n C dX8_move_62 rfl 1 rfl ?_
        refine x_imul C dX8_move_63 ?_
        refine x_iload_n C dX8_move_64 rfl 2 rfl ?_
        obtain ⟨hb7, h⟩ := ck_some h
        refine x_iast C 10 rfl hb7 dX8_move_65 ?_
        refine x_aload_n C dX8_move_66 rfl 0 rfl ?_
        refine x_getr C 0 rfl rfl inX8 2 (by decide) rfl kF_X8_26 rfl dX8_move_67 ?_
        refine x_getr C 9 rfl rfl inX3 3 (by decide) rfl kF_X8_135 rfl dX8_move_70 ?_
        refine x_iconst C dX8_move_73 (v := 2) (by decide) ?_
        refine x_iload_n C dX8_move_74 rfl 1 rfl ?_
        refine x_imul C dX8_move_75 ?_
        refine x_iconst C dX8_move_76 (v := 1) (by decide) ?_
        refine x_iadd C dX8_move_77 ?_
        refine x_iload C dX8_move_78 4 rfl ?_
        refine x_iload_n C dX8_move_80 rfl 2 rfl ?_
        refine x_isub C dX8_move_81 ?_
        obtain ⟨hb8, h⟩ := ck_some h
        refine x_iast C 10 rfl hb8 dX8_move_82 ?_
        refine x_iload_n C dX8_move_83 rfl 3 rfl ?_
        replace h := Option.some.inj h
        obtain ⟨rfl, rfl⟩ := Prod.mk.inj h
        exact x_ret C hr rfl rfl dX8_move_84
      · replace h := (if_neg hc6).symm.trans h
        refine x_icmp_ltF C dX8_move_48 (tgt := 54) (by decide) hc6 ?_
        refine x_bipush C dX8_move_51 (v := -102) (by decide) ?_
        replace h := Option.some.inj h
        obtain ⟨rfl, rfl⟩ := Prod.mk.inj h
        exact x_ret C hr rfl rfl dX8_move_53
def j_X8_odds_12 (x1 : Int32) (σ : gs_H) : Option (Int32 × gs_H) :=
if (f_X8_hasMobile σ) = 0 then (
some ((-103 : Int32), σ))
else (
(f_X2_findOdds σ).bind fun q5 =>
if x1 = 0 then (
some ((q5 40 3), q5))
else (
some ((q5 40 4), q5)))
def f_X8_odds (x1 : Int32) (σ : gs_H) : Option (Int32 × gs_H) :=
if x1 = 0 then (
j_X8_odds_12 x1 σ)
else (
if x1 = (1 : Int32) then (
j_X8_odds_12 x1 σ)
else (
some ((-102 : Int32), σ)))
set_option maxHeartbeats 4000000 in
set_option maxRecDepth 20000 in
theorem wj_X8_odds_12 {E : gs_E} {l : Launch} {p : Program} {e : Env} {s : State} {m : MethodId} {args : Array Value} {below : List Frame} {meth : Method} {c : Code} (C : gs_X E RX8 cX8_odds 2 p s m args meth c) {x1 : Int32} {σ : gs_H} {g : Int64} {r0 : Int32} {σ0 : gs_H} (hr : meth.sig.returnType = some .int) (h : j_X8_odds_12 x1 σ = some (r0, σ0)) : gs_V E 2 (5, 113) p l e s m args below meth c (some (.int r0)) σ0 g 12 [(0, .ref (gs_a E 0)), (1, .int x1)] [] σ g := by
  unfold j_X8_odds_12 at h
  refine x_aload_n C dX8_odds_12 rfl 0 rfl ?_
  refine x_callV C 0 (m_X8_hasMobile rfl) rfl rfl kM_X8_114 kI_X8_hasMobile kS_X8_hasMobile kN_X8 kC_X8_hasMobile kD_X8_hasMobile rfl ⟨Nat.le_of_ble_eq_true rfl, Nat.le_of_ble_eq_true rfl⟩ ⟨Nat.le_refl _, Nat.le_refl _⟩ (rest := []) rfl (Nat.le_of_ble_eq_true rfl) dX8_odds_13 (st' := [.int (f_X8_hasMobile σ)]) rfl ?_
  by_cases hc2 : (f_X8_hasMobile σ) = 0
  · replace h := (if_pos hc2).symm.trans h
    refine x_if_neF C dX8_odds_16 (tgt := 22) (by decide) hc2 ?_
    refine x_bipush C dX8_odds_19 (v := -103) (by decide) ?_
    replace h := Option.some.inj h
    obtain ⟨rfl, rfl⟩ := Prod.mk.inj h
    exact x_ret C hr rfl rfl dX8_odds_21
  · replace h := (if_neg hc2).symm.trans h
    refine x_if_neT C dX8_odds_16 (tgt := 22) (by decide) hc2 ?_
    refine x_aload_n C dX8_odds_22 rfl 0 rfl ?_
    refine x_getr C 0 rfl rfl inX8 5 (by decide) rfl kF_X8_43 rfl dX8_odds_23 ?_
    refine x_aload_n C dX8_odds_26 rfl 0 rfl ?_
    refine x_getr C 0 rfl rfl inX8 2 (by decide) rfl kF_X8_26 rfl dX8_odds_27 ?_
    obtain ⟨s3, hv3, h⟩ := Option.bind_eq_some_iff.mp h
    refine x_callV C 40 (m_X2_findOdds hv3) rfl rfl kM_X8_175 kI_X2_findOdds kS_X2_findOdds kN_X2 kC_X2_findOdds kD_X2_findOdds rfl ⟨Nat.le_of_ble_eq_true rfl, Nat.le_of_ble_eq_true rfl⟩ ⟨Nat.le_refl _, Nat.le_refl _⟩ (rest := []) rfl (Nat.le_of_ble_eq_true rfl) dX8_odds_30 (st' := []) rfl ?_
    refine x_iload_n C dX8_odds_33 rfl 1 rfl ?_
    by_cases hc4 : x1 = 0
    · replace h := (if_pos hc4).symm.trans h
      refine x_if_neF C dX8_odds_34 (tgt := 47) (by decide) hc4 ?_
      refine x_aload_n C dX8_odds_37 rfl 0 rfl ?_
      refine x_getr C 0 rfl rfl inX8 5 (by decide) rfl kF_X8_43 rfl dX8_odds_38 ?_
      refine x_geti C 40 rfl rfl inX2 3 (by decide) rfl kF_X8_178 rfl (v := (s3 40 3)) rfl dX8_odds_41 ?_
      refine x_goto C dX8_odds_44 (tgt := 54) (by decide) ?_
      replace h := Option.some.inj h
      obtain ⟨rfl, rfl⟩ := Prod.mk.inj h
      exact x_ret C hr rfl rfl dX8_odds_54
    · replace h := (if_neg hc4).symm.trans h
      refine x_if_neT C dX8_odds_34 (tgt := 47) (by decide) hc4 ?_
      refine x_aload_n C dX8_odds_47 rfl 0 rfl ?_
      refine x_getr C 0 rfl rfl inX8 5 (by decide) rfl kF_X8_43 rfl dX8_odds_48 ?_
      refine x_geti C 40 rfl rfl inX2 4 (by decide) rfl kF_X8_181 rfl (v := (s3 40 4)) rfl dX8_odds_51 ?_
      replace h := Option.some.inj h
      obtain ⟨rfl, rfl⟩ := Prod.mk.inj h
      exact x_ret C hr rfl rfl dX8_odds_54
set_option maxHeartbeats 4000000 in
set_option maxRecDepth 20000 in
theorem m_X8_odds {E : gs_E} {l : Launch} {x1 : Int32} {σ : gs_H} {g : Int64} {r0 : Int32} {σ0 : gs_H} (h : f_X8_odds x1 σ = some (r0, σ0)) : gs_M l E yX8_odds cX8_odds 2 (some .int) (5, 113) [.ref (gs_a E 0), .int x1] σ g (some (.int r0)) σ0 g := by
  refine x_enter (lv := [(0, .ref (gs_a E 0)), (1, .int x1)]) (by decide +kernel) (Nat.le_of_ble_eq_true rfl) rfl (fun p e s m args below meth c C hr => ?_)
  unfold f_X8_odds at h
  refine x_iload_n C dX8_odds_0 rfl 1 rfl ?_
  by_cases hc1 : x1 = 0
  · replace h := (if_pos hc1).symm.trans h
    refine x_if_eqT C dX8_odds_1 (tgt := 12) (by decide) hc1 ?_
    exact wj_X8_odds_12 C hr h
  · replace h := (if_neg hc1).symm.trans h
    refine x_if_eqF C dX8_odds_1 (tgt := 12) (by decide) hc1 ?_
    refine x_iload_n C dX8_odds_4 rfl 1 rfl ?_
    refine x_iconst C dX8_odds_5 (v := 1) (by decide) ?_
    by_cases hc2 : x1 = (1 : Int32)
    · replace h := (if_pos hc2).symm.trans h
      refine x_icmp_eqT C dX8_odds_6 (tgt := 12) (by decide) hc2 ?_
      exact wj_X8_odds_12 C hr h
    · replace h := (if_neg hc2).symm.trans h
      refine x_icmp_eqF C dX8_odds_6 (tgt := 12) (by decide) hc2 ?_
      refine x_bipush C dX8_odds_9 (v := -102) (by decide) ?_
      replace h := Option.some.inj h
      obtain ⟨rfl, rfl⟩ := Prod.mk.inj h
      exact x_ret C hr rfl rfl dX8_odds_11
def f_X8_restore (σ : gs_H) : Option (Int32 × gs_H) :=
if (σ 0 7) = 0 then (
some ((-103 : Int32), σ))
else (
(f_X3_copyFrom 9 22 σ).bind fun q2 =>
some ((q2 9 2), q2))
set_option maxHeartbeats 4000000 in
set_option maxRecDepth 20000 in
theorem m_X8_restore {E : gs_E} {l : Launch} {σ : gs_H} {g : Int64} {r0 : Int32} {σ0 : gs_H} (h : f_X8_restore σ = some (r0, σ0)) : gs_M l E yX8_restore cX8_restore 1 (some .int) (2, 44) [.ref (gs_a E 0)] σ g (some (.int r0)) σ0 g := by
  refine x_enter (lv := [(0, .ref (gs_a E 0))]) (by decide +kernel) (Nat.le_of_ble_eq_true rfl) rfl (fun p e s m args below meth c C hr => ?_)
  unfold f_X8_restore at h
  refine x_aload_n C dX8_restore_0 rfl 0 rfl ?_
  refine x_geti C 0 rfl rfl inX8 7 (by decide) rfl kF_X8_74 rfl (v := (σ 0 7)) rfl dX8_restore_1 ?_
  by_cases hc1 : (σ 0 7) = 0
  · replace h := (if_pos hc1).symm.trans h
    refine x_if_neF C dX8_restore_4 (tgt := 10) (by decide) hc1 ?_
    refine x_bipush C dX8_restore_7 (v := -103) (by decide) ?_
    replace h := Option.some.inj h
    obtain ⟨rfl, rfl⟩ := Prod.mk.inj h
    exact x_ret C hr rfl rfl dX8_restore_9
  · replace h := (if_neg hc1).symm.trans h
    refine x_if_neT C dX8_restore_4 (tgt := 10) (by decide) hc1 ?_
    refine x_aload_n C dX8_restore_10 rfl 0 rfl ?_
    refine x_getr C 0 rfl rfl inX8 2 (by decide) rfl kF_X8_26 rfl dX8_restore_11 ?_
    refine x_aload_n C dX8_restore_14 rfl 0 rfl ?_
    refine x_getr C 0 rfl rfl inX8 3 (by decide) rfl kF_X8_30 rfl dX8_restore_15 ?_
    obtain ⟨s2, hv2, h⟩ := Option.bind_eq_some_iff.mp h
    refine x_callV C 9 (m_X3_copyFrom_9_22 hv2) rfl rfl kM_X8_214 kI_X3_copyFrom kS_X3_copyFrom kN_X3 kC_X3_copyFrom kD_X3_copyFrom rfl ⟨Nat.le_of_ble_eq_true rfl, Nat.le_of_ble_eq_true rfl⟩ ⟨Nat.le_refl _, Nat.le_refl _⟩ (rest := []) rfl (Nat.le_of_ble_eq_true rfl) dX8_restore_18 (st' := []) rfl ?_
    refine x_aload_n C dX8_restore_21 rfl 0 rfl ?_
    refine x_getr C 0 rfl rfl inX8 2 (by decide) rfl kF_X8_26 rfl dX8_restore_22 ?_
    refine x_geti C 9 rfl rfl inX3 2 (by decide) rfl kF_X8_117 rfl (v := (s2 9 2)) rfl dX8_restore_25 ?_
    replace h := Option.some.inj h
    obtain ⟨rfl, rfl⟩ := Prod.mk.inj h
    exact x_ret C hr rfl rfl dX8_restore_28
def f_X8_rod (x1 : Int32) (x2 : Int32) (σ : gs_H) : Option (Int32 × gs_H) :=
if (f_X8_isRod x1 σ) = 0 then (
some ((-101 : Int32), σ))
else (
if x2 < 0 then (
some ((-102 : Int32), σ))
else (
if x2 < (11 : Int32) then (
(f_X6_weigh 35 σ).bind fun q5 =>
(f_X8_aboutRod x1 x2 q5).bind fun q6 =>
some (q6, q5))
else (
some ((-102 : Int32), σ))))
set_option maxHeartbeats 4000000 in
set_option maxRecDepth 20000 in
theorem m_X8_rod {E : gs_E} {l : Launch} {x1 : Int32} {x2 : Int32} {σ : gs_H} {g : Int64} {r0 : Int32} {σ0 : gs_H} (h : f_X8_rod x1 x2 σ = some (r0, σ0)) : gs_M l E yX8_rod cX8_rod 3 (some .int) (4, 93) [.ref (gs_a E 0), .int x1, .int x2] σ g (some (.int r0)) σ0 g := by
  refine x_enter (lv := [(0, .ref (gs_a E 0)), (1, .int x1), (2, .int x2)]) (by decide +kernel) (Nat.le_of_ble_eq_true rfl) rfl (fun p e s m args below meth c C hr => ?_)
  unfold f_X8_rod at h
  refine x_aload_n C dX8_rod_0 rfl 0 rfl ?_
  refine x_iload_n C dX8_rod_1 rfl 1 rfl ?_
  refine x_callV C 0 (m_X8_isRod rfl) rfl rfl kM_X8_84 kI_X8_isRod kS_X8_isRod kN_X8 kC_X8_isRod kD_X8_isRod rfl ⟨Nat.le_of_ble_eq_true rfl, Nat.le_of_ble_eq_true rfl⟩ ⟨Nat.le_refl _, Nat.le_refl _⟩ (rest := []) rfl (Nat.le_of_ble_eq_true rfl) dX8_rod_2 (st' := [.int (f_X8_isRod x1 σ)]) rfl ?_
  by_cases hc2 : (f_X8_isRod x1 σ) = 0
  · replace h := (if_pos hc2).symm.trans h
    refine x_if_neF C dX8_rod_5 (tgt := 11) (by decide) hc2 ?_
    refine x_bipush C dX8_rod_8 (v := -101) (by decide) ?_
    replace h := Option.some.inj h
    obtain ⟨rfl, rfl⟩ := Prod.mk.inj h
    exact x_ret C hr rfl rfl dX8_rod_10
  · replace h := (if_neg hc2).symm.trans h
    refine x_if_neT C dX8_rod_5 (tgt := 11) (by decide) hc2 ?_
    refine x_iload_n C dX8_rod_11 rfl 2 rfl ?_
    by_cases hc3 : x2 < 0
    · replace h := (if_pos hc3).symm.trans h
      refine x_if_ltT C dX8_rod_12 (tgt := 21) (by decide) hc3 ?_
      refine x_bipush C dX8_rod_21 (v := -102) (by decide) ?_
      replace h := Option.some.inj h
      obtain ⟨rfl, rfl⟩ := Prod.mk.inj h
      exact x_ret C hr rfl rfl dX8_rod_23
    · replace h := (if_neg hc3).symm.trans h
      refine x_if_ltF C dX8_rod_12 (tgt := 21) (by decide) hc3 ?_
      refine x_iload_n C dX8_rod_15 rfl 2 rfl ?_
      refine x_bipush C dX8_rod_16 (v := 11) (by decide) ?_
      by_cases hc4 : x2 < (11 : Int32)
      · replace h := (if_pos hc4).symm.trans h
        refine x_icmp_ltT C dX8_rod_18 (tgt := 24) (by decide) hc4 ?_
        refine x_aload_n C dX8_rod_24 rfl 0 rfl ?_
        refine x_getr C 0 rfl rfl inX8 4 (by decide) rfl kF_X8_36 rfl dX8_rod_25 ?_
        refine x_aload_n C dX8_rod_28 rfl 0 rfl ?_
        refine x_getr C 0 rfl rfl inX8 2 (by decide) rfl kF_X8_26 rfl dX8_rod_29 ?_
        obtain ⟨s5, hv5, h⟩ := Option.bind_eq_some_iff.mp h
        refine x_callV C 35 (m_X6_weigh_35 hv5) rfl rfl kM_X8_88 kI_X6_weigh kS_X6_weigh kN_X6 kC_X6_weigh kD_X6_weigh rfl ⟨Nat.le_of_ble_eq_true rfl, Nat.le_of_ble_eq_true rfl⟩ ⟨Nat.le_refl _, Nat.le_refl _⟩ (rest := []) rfl (Nat.le_of_ble_eq_true rfl) dX8_rod_32 (st' := []) rfl ?_
        refine x_aload_n C dX8_rod_35 rfl 0 rfl ?_
        refine x_iload_n C dX8_rod_36 rfl 1 rfl ?_
        refine x_iload_n C dX8_rod_37 rfl 2 rfl ?_
        obtain ⟨v6, hv6, h⟩ := Option.bind_eq_some_iff.mp h
        refine x_callV C 0 (m_X8_aboutRod hv6) rfl rfl kM_X8_92 kI_X8_aboutRod kS_X8_aboutRod kN_X8 kC_X8_aboutRod kD_X8_aboutRod rfl ⟨Nat.le_of_ble_eq_true rfl, Nat.le_of_ble_eq_true rfl⟩ ⟨Nat.le_refl _, Nat.le_refl _⟩ (rest := []) rfl (Nat.le_of_ble_eq_true rfl) dX8_rod_38 (st' := [.int v6]) rfl ?_
        replace h := Option.some.inj h
        obtain ⟨rfl, rfl⟩ := Prod.mk.inj h
        exact x_ret C hr rfl rfl dX8_rod_41
      · replace h := (if_neg hc4).symm.trans h
        refine x_icmp_ltF C dX8_rod_18 (tgt := 24) (by decide) hc4 ?_
        refine x_bipush C dX8_rod_21 (v := -102) (by decide) ?_
        replace h := Option.some.inj h
        obtain ⟨rfl, rfl⟩ := Prod.mk.inj h
        exact x_ret C hr rfl rfl dX8_rod_23
def f_X8_see (x1 : Int32) (x2 : Int32) (x3 : Int32) (x4 : Int32) (σ : gs_H) : Option (Int32 × gs_H) :=
if (f_X8_isThing x1 σ) = 0 then (
some ((-101 : Int32), σ))
else (
if (f_X8_isRod x2 σ) = 0 then (
some ((-101 : Int32), σ))
else (
if (f_X8_isSize x3) = 0 then (
some ((-102 : Int32), σ))
else (
if x4 < 0 then (
some ((-102 : Int32), σ))
else (
if x4 ≤ (2 : Int32) then (
if (σ 17 0) < (6 : Int32) then (
(f_X7_add x1 x2 x3 x4 σ).bind fun q10 =>
some ((q10 17 0), q10))
else (
some ((-104 : Int32), σ)))
else (
some ((-102 : Int32), σ))))))
set_option maxHeartbeats 4000000 in
set_option maxRecDepth 20000 in
theorem m_X8_see {E : gs_E} {l : Launch} {x1 : Int32} {x2 : Int32} {x3 : Int32} {x4 : Int32} {σ : gs_H} {g : Int64} {r0 : Int32} {σ0 : gs_H} (h : f_X8_see x1 x2 x3 x4 σ = some (r0, σ0)) : gs_M l E yX8_see cX8_see 5 (some .int) (1, 24) [.ref (gs_a E 0), .int x1, .int x2, .int x3, .int x4] σ g (some (.int r0)) σ0 g := by
  refine x_enter (lv := [(0, .ref (gs_a E 0)), (1, .int x1), (2, .int x2), (3, .int x3), (4, .int x4)]) (by decide +kernel) (Nat.le_of_ble_eq_true rfl) rfl (fun p e s m args below meth c C hr => ?_)
  unfold f_X8_see at h
  refine x_aload_n C dX8_see_0 rfl 0 rfl ?_
  refine x_iload_n C dX8_see_1 rfl 1 rfl ?_
  refine x_callV C 0 (m_X8_isThing rfl) rfl rfl kM_X8_96 kI_X8_isThing kS_X8_isThing kN_X8 kC_X8_isThing kD_X8_isThing rfl ⟨Nat.le_of_ble_eq_true rfl, Nat.le_of_ble_eq_true rfl⟩ ⟨Nat.le_refl _, Nat.le_refl _⟩ (rest := []) rfl (Nat.le_of_ble_eq_true rfl) dX8_see_2 (st' := [.int (f_X8_isThing x1 σ)]) rfl ?_
  by_cases hc2 : (f_X8_isThing x1 σ) = 0
  · replace h := (if_pos hc2).symm.trans h
    refine x_if_eqT C dX8_see_5 (tgt := 16) (by decide) hc2 ?_
    refine x_bipush C dX8_see_16 (v := -101) (by decide) ?_
    replace h := Option.some.inj h
    obtain ⟨rfl, rfl⟩ := Prod.mk.inj h
    exact x_ret C hr rfl rfl dX8_see_18
  · replace h := (if_neg hc2).symm.trans h
    refine x_if_eqF C dX8_see_5 (tgt := 16) (by decide) hc2 ?_
    refine x_aload_n C dX8_see_8 rfl 0 rfl ?_
    refine x_iload_n C dX8_see_9 rfl 2 rfl ?_
    refine x_callV C 0 (m_X8_isRod rfl) rfl rfl kM_X8_84 kI_X8_isRod kS_X8_isRod kN_X8 kC_X8_isRod kD_X8_isRod rfl ⟨Nat.le_of_ble_eq_true rfl, Nat.le_of_ble_eq_true rfl⟩ ⟨Nat.le_refl _, Nat.le_refl _⟩ (rest := []) rfl (Nat.le_of_ble_eq_true rfl) dX8_see_10 (st' := [.int (f_X8_isRod x2 σ)]) rfl ?_
    by_cases hc4 : (f_X8_isRod x2 σ) = 0
    · replace h := (if_pos hc4).symm.trans h
      refine x_if_neF C dX8_see_13 (tgt := 19) (by decide) hc4 ?_
      refine x_bipush C dX8_see_16 (v := -101) (by decide) ?_
      replace h := Option.some.inj h
      obtain ⟨rfl, rfl⟩ := Prod.mk.inj h
      exact x_ret C hr rfl rfl dX8_see_18
    · replace h := (if_neg hc4).symm.trans h
      refine x_if_neT C dX8_see_13 (tgt := 19) (by decide) hc4 ?_
      refine x_iload_n C dX8_see_19 rfl 3 rfl ?_
      refine x_callS C (m_X8_isSize rfl) kM_X8_148 kT_X8_isSize kN_X8 kC_X8_isSize kD_X8_isSize rfl ⟨Nat.le_of_ble_eq_true rfl, Nat.le_of_ble_eq_true rfl⟩ ⟨Nat.le_refl _, Nat.le_refl _⟩ (rest := []) rfl (Nat.le_of_ble_eq_true rfl) dX8_see_20 (st' := [.int (f_X8_isSize x3)]) rfl ?_
      by_cases hc6 : (f_X8_isSize x3) = 0
      · replace h := (if_pos hc6).symm.trans h
        refine x_if_eqT C dX8_see_23 (tgt := 37) (by decide) hc6 ?_
        refine x_bipush C dX8_see_37 (v := -102) (by decide) ?_
        replace h := Option.some.inj h
        obtain ⟨rfl, rfl⟩ := Prod.mk.inj h
        exact x_ret C hr rfl rfl dX8_see_39
      · replace h := (if_neg hc6).symm.trans h
        refine x_if_eqF C dX8_see_23 (tgt := 37) (by decide) hc6 ?_
        refine x_iload C dX8_see_26 4 rfl ?_
        by_cases hc7 : x4 < 0
        · replace h := (if_pos hc7).symm.trans h
          refine x_if_ltT C dX8_see_28 (tgt := 37) (by decide) hc7 ?_
          refine x_bipush C dX8_see_37 (v := -102) (by decide) ?_
          replace h := Option.some.inj h
          obtain ⟨rfl, rfl⟩ := Prod.mk.inj h
          exact x_ret C hr rfl rfl dX8_see_39
        · replace h := (if_neg hc7).symm.trans h
          refine x_if_ltF C dX8_see_28 (tgt := 37) (by decide) hc7 ?_
          refine x_iload C dX8_see_31 4 rfl ?_
          refine x_iconst C dX8_see_33 (v := 2) (by decide) ?_
          by_cases hc8 : x4 ≤ (2 : Int32)
          · replace h := (if_pos hc8).symm.trans h
            refine x_icmp_leT C dX8_see_34 (tgt := 40) (by decide) hc8 ?_
            refine x_aload_n C dX8_see_40 rfl 0 rfl ?_
            refine x_getr C 0 rfl rfl inX8 2 (by decide) rfl kF_X8_26 rfl dX8_see_41 ?_
            refine x_getr C 9 rfl rfl inX3 10 (by decide) rfl kF_X8_186 rfl dX8_see_44 ?_
            refine x_geti C 17 rfl rfl inX7 0 (by decide) rfl kF_X8_190 rfl (v := (σ 17 0)) rfl dX8_see_47 ?_
            refine x_bipush C dX8_see_50 (v := 6) (by decide) ?_
            by_cases hc9 : (σ 17 0) < (6 : Int32)
            · replace h := (if_pos hc9).symm.trans h
              refine x_icmp_ltT C dX8_see_52 (tgt := 58) (by decide) hc9 ?_
              refine x_aload_n C dX8_see_58 rfl 0 rfl ?_
              refine x_getr C 0 rfl rfl inX8 2 (by decide) rfl kF_X8_26 rfl dX8_see_59 ?_
              refine x_getr C 9 rfl rfl inX3 10 (by decide) rfl kF_X8_186 rfl dX8_see_62 ?_
              refine x_iload_n C dX8_see_65 rfl 1 rfl ?_
              refine x_iload_n C dX8_see_66 rfl 2 rfl ?_
              refine x_iload_n C dX8_see_67 rfl 3 rfl ?_
              refine x_iload C dX8_see_68 4 rfl ?_
              obtain ⟨s10, hv10, h⟩ := Option.bind_eq_some_iff.mp h
              refine x_callV C 17 (m_X7_add hv10) rfl rfl kM_X8_193 kI_X7_add kS_X7_add kN_X7 kC_X7_add kD_X7_add rfl ⟨Nat.le_of_ble_eq_true rfl, Nat.le_of_ble_eq_true rfl⟩ ⟨Nat.le_refl _, Nat.le_refl _⟩ (rest := []) rfl (Nat.le_of_ble_eq_true rfl) dX8_see_70 (st' := []) rfl ?_
              refine x_aload_n C dX8_see_73 rfl 0 rfl ?_
              refine x_getr C 0 rfl rfl inX8 2 (by decide) rfl kF_X8_26 rfl dX8_see_74 ?_
              refine x_getr C 9 rfl rfl inX3 10 (by decide) rfl kF_X8_186 rfl dX8_see_77 ?_
              refine x_geti C 17 rfl rfl inX7 0 (by decide) rfl kF_X8_190 rfl (v := (s10 17 0)) rfl dX8_see_80 ?_
              replace h := Option.some.inj h
              obtain ⟨rfl, rfl⟩ := Prod.mk.inj h
              exact x_ret C hr rfl rfl dX8_see_83
            · replace h := (if_neg hc9).symm.trans h
              refine x_icmp_ltF C dX8_see_52 (tgt := 58) (by decide) hc9 ?_
              refine x_bipush C dX8_see_55 (v := -104) (by decide) ?_
              replace h := Option.some.inj h
              obtain ⟨rfl, rfl⟩ := Prod.mk.inj h
              exact x_ret C hr rfl rfl dX8_see_57
          · replace h := (if_neg hc8).symm.trans h
            refine x_icmp_leF C dX8_see_34 (tgt := 40) (by decide) hc8 ?_
            refine x_bipush C dX8_see_37 (v := -102) (by decide) ?_
            replace h := Option.some.inj h
            obtain ⟨rfl, rfl⟩ := Prod.mk.inj h
            exact x_ret C hr rfl rfl dX8_see_39
def f_X8_thing (x1 : Int32) (x2 : Int32) (σ : gs_H) : Option (Int32) :=
if (f_X8_isThing x1 σ) = 0 then (
some (-101 : Int32))
else (
if x2 < 0 then (
some (-102 : Int32))
else (
if x2 < (7 : Int32) then (
(f_X8_aboutThing x1 x2 σ).bind fun q5 =>
some q5)
else (
some (-102 : Int32))))
set_option maxHeartbeats 4000000 in
set_option maxRecDepth 20000 in
theorem m_X8_thing {E : gs_E} {l : Launch} {x1 : Int32} {x2 : Int32} {σ : gs_H} {g : Int64} {r0 : Int32} (h : f_X8_thing x1 x2 σ = some r0) : gs_M l E yX8_thing cX8_thing 3 (some .int) (5, 118) [.ref (gs_a E 0), .int x1, .int x2] σ g (some (.int r0)) σ g := by
  refine x_enter (lv := [(0, .ref (gs_a E 0)), (1, .int x1), (2, .int x2)]) (by decide +kernel) (Nat.le_of_ble_eq_true rfl) rfl (fun p e s m args below meth c C hr => ?_)
  unfold f_X8_thing at h
  refine x_aload_n C dX8_thing_0 rfl 0 rfl ?_
  refine x_iload_n C dX8_thing_1 rfl 1 rfl ?_
  refine x_callV C 0 (m_X8_isThing rfl) rfl rfl kM_X8_96 kI_X8_isThing kS_X8_isThing kN_X8 kC_X8_isThing kD_X8_isThing rfl ⟨Nat.le_of_ble_eq_true rfl, Nat.le_of_ble_eq_true rfl⟩ ⟨Nat.le_refl _, Nat.le_refl _⟩ (rest := []) rfl (Nat.le_of_ble_eq_true rfl) dX8_thing_2 (st' := [.int (f_X8_isThing x1 σ)]) rfl ?_
  by_cases hc2 : (f_X8_isThing x1 σ) = 0
  · replace h := (if_pos hc2).symm.trans h
    refine x_if_neF C dX8_thing_5 (tgt := 11) (by decide) hc2 ?_
    refine x_bipush C dX8_thing_8 (v := -101) (by decide) ?_
    replace h := Option.some.inj h
    subst h
    exact x_ret C hr rfl rfl dX8_thing_10
  · replace h := (if_neg hc2).symm.trans h
    refine x_if_neT C dX8_thing_5 (tgt := 11) (by decide) hc2 ?_
    refine x_iload_n C dX8_thing_11 rfl 2 rfl ?_
    by_cases hc3 : x2 < 0
    · replace h := (if_pos hc3).symm.trans h
      refine x_if_ltT C dX8_thing_12 (tgt := 21) (by decide) hc3 ?_
      refine x_bipush C dX8_thing_21 (v := -102) (by decide) ?_
      replace h := Option.some.inj h
      subst h
      exact x_ret C hr rfl rfl dX8_thing_23
    · replace h := (if_neg hc3).symm.trans h
      refine x_if_ltF C dX8_thing_12 (tgt := 21) (by decide) hc3 ?_
      refine x_iload_n C dX8_thing_15 rfl 2 rfl ?_
      refine x_bipush C dX8_thing_16 (v := 7) (by decide) ?_
      by_cases hc4 : x2 < (7 : Int32)
      · replace h := (if_pos hc4).symm.trans h
        refine x_icmp_ltT C dX8_thing_18 (tgt := 24) (by decide) hc4 ?_
        refine x_aload_n C dX8_thing_24 rfl 0 rfl ?_
        refine x_iload_n C dX8_thing_25 rfl 1 rfl ?_
        refine x_iload_n C dX8_thing_26 rfl 2 rfl ?_
        obtain ⟨v5, hv5, h⟩ := Option.bind_eq_some_iff.mp h
        refine x_callV C 0 (m_X8_aboutThing hv5) rfl rfl kM_X8_99 kI_X8_aboutThing kS_X8_aboutThing kN_X8 kC_X8_aboutThing kD_X8_aboutThing rfl ⟨Nat.le_of_ble_eq_true rfl, Nat.le_of_ble_eq_true rfl⟩ ⟨Nat.le_refl _, Nat.le_refl _⟩ (rest := []) rfl (Nat.le_of_ble_eq_true rfl) dX8_thing_27 (st' := [.int v5]) rfl ?_
        replace h := Option.some.inj h
        subst h
        exact x_ret C hr rfl rfl dX8_thing_30
      · replace h := (if_neg hc4).symm.trans h
        refine x_icmp_ltF C dX8_thing_18 (tgt := 24) (by decide) hc4 ?_
        refine x_bipush C dX8_thing_21 (v := -102) (by decide) ?_
        replace h := Option.some.inj h
        subst h
        exact x_ret C hr rfl rfl dX8_thing_23
def f_X8_trial (x1 : Int32) (x2 : Int32) (σ : gs_H) : Option (Int32) :=
if (f_X8_isThing x1 σ) = 0 then (
some (-101 : Int32))
else (
if (f_X8_isRod x2 σ) = 0 then (
some (-101 : Int32))
else (
(f_X7_beadToTry x1 x2 σ).bind fun q5 =>
some q5))
set_option maxHeartbeats 4000000 in
set_option maxRecDepth 20000 in
theorem m_X8_trial {E : gs_E} {l : Launch} {x1 : Int32} {x2 : Int32} {σ : gs_H} {g : Int64} {r0 : Int32} (h : f_X8_trial x1 x2 σ = some r0) : gs_M l E yX8_trial cX8_trial 3 (some .int) (5, 126) [.ref (gs_a E 0), .int x1, .int x2] σ g (some (.int r0)) σ g := by
  refine x_enter (lv := [(0, .ref (gs_a E 0)), (1, .int x1), (2, .int x2)]) (by decide +kernel) (Nat.le_of_ble_eq_true rfl) rfl (fun p e s m args below meth c C hr => ?_)
  unfold f_X8_trial at h
  refine x_aload_n C dX8_trial_0 rfl 0 rfl ?_
  refine x_iload_n C dX8_trial_1 rfl 1 rfl ?_
  refine x_callV C 0 (m_X8_isThing rfl) rfl rfl kM_X8_96 kI_X8_isThing kS_X8_isThing kN_X8 kC_X8_isThing kD_X8_isThing rfl ⟨Nat.le_of_ble_eq_true rfl, Nat.le_of_ble_eq_true rfl⟩ ⟨Nat.le_refl _, Nat.le_refl _⟩ (rest := []) rfl (Nat.le_of_ble_eq_true rfl) dX8_trial_2 (st' := [.int (f_X8_isThing x1 σ)]) rfl ?_
  by_cases hc2 : (f_X8_isThing x1 σ) = 0
  · replace h := (if_pos hc2).symm.trans h
    refine x_if_eqT C dX8_trial_5 (tgt := 16) (by decide) hc2 ?_
    refine x_bipush C dX8_trial_16 (v := -101) (by decide) ?_
    replace h := Option.some.inj h
    subst h
    exact x_ret C hr rfl rfl dX8_trial_18
  · replace h := (if_neg hc2).symm.trans h
    refine x_if_eqF C dX8_trial_5 (tgt := 16) (by decide) hc2 ?_
    refine x_aload_n C dX8_trial_8 rfl 0 rfl ?_
    refine x_iload_n C dX8_trial_9 rfl 2 rfl ?_
    refine x_callV C 0 (m_X8_isRod rfl) rfl rfl kM_X8_84 kI_X8_isRod kS_X8_isRod kN_X8 kC_X8_isRod kD_X8_isRod rfl ⟨Nat.le_of_ble_eq_true rfl, Nat.le_of_ble_eq_true rfl⟩ ⟨Nat.le_refl _, Nat.le_refl _⟩ (rest := []) rfl (Nat.le_of_ble_eq_true rfl) dX8_trial_10 (st' := [.int (f_X8_isRod x2 σ)]) rfl ?_
    by_cases hc4 : (f_X8_isRod x2 σ) = 0
    · replace h := (if_pos hc4).symm.trans h
      refine x_if_neF C dX8_trial_13 (tgt := 19) (by decide) hc4 ?_
      refine x_bipush C dX8_trial_16 (v := -101) (by decide) ?_
      replace h := Option.some.inj h
      subst h
      exact x_ret C hr rfl rfl dX8_trial_18
    · replace h := (if_neg hc4).symm.trans h
      refine x_if_neT C dX8_trial_13 (tgt := 19) (by decide) hc4 ?_
      refine x_aload_n C dX8_trial_19 rfl 0 rfl ?_
      refine x_getr C 0 rfl rfl inX8 2 (by decide) rfl kF_X8_26 rfl dX8_trial_20 ?_
      refine x_getr C 9 rfl rfl inX3 10 (by decide) rfl kF_X8_186 rfl dX8_trial_23 ?_
      refine x_aload_n C dX8_trial_26 rfl 0 rfl ?_
      refine x_getr C 0 rfl rfl inX8 2 (by decide) rfl kF_X8_26 rfl dX8_trial_27 ?_
      refine x_iload_n C dX8_trial_30 rfl 1 rfl ?_
      refine x_iload_n C dX8_trial_31 rfl 2 rfl ?_
      obtain ⟨v5, hv5, h⟩ := Option.bind_eq_some_iff.mp h
      refine x_callV C 17 (m_X7_beadToTry hv5) rfl rfl kM_X8_197 kI_X7_beadToTry kS_X7_beadToTry kN_X7 kC_X7_beadToTry kD_X7_beadToTry rfl ⟨Nat.le_of_ble_eq_true rfl, Nat.le_of_ble_eq_true rfl⟩ ⟨Nat.le_refl _, Nat.le_refl _⟩ (rest := []) rfl (Nat.le_of_ble_eq_true rfl) dX8_trial_32 (st' := [.int v5]) rfl ?_
      replace h := Option.some.inj h
      subst h
      exact x_ret C hr rfl rfl dX8_trial_35
