set_option maxHeartbeats 4000000 in
set_option maxRecDepth 100000 in
theorem w_X12_valueOf (x1 : Int32) (h : AHp) : WO tvI QX12_valueOf 0 0 [(0, .ref 70), (1, .int x1)] [] h (m_X12_valueOf x1 h) := by
  unfold m_X12_valueOf
  refine z_iload_n dX12_valueOf_0 1 rfl ?_
  refine z_ite (fun c1 => ?_) (fun c1 => ?_)
  · refine z_tin (tgt := 121) (off := 120) dX12_valueOf_1 (by rw [c1]; decide) (by rw [c1]; decide) (by rw [c1]; decide) (by decide) ?_
    refine z_aload_n dX12_valueOf_121 0 rfl ?_
    refine z_getI fX12_336 kc_70 rfl dX12_valueOf_122 ?_
    exact z_iret dX12_valueOf_125 rfl
  · refine z_ite (fun c2 => ?_) (fun c2 => ?_)
    · refine z_tin (tgt := 126) (off := 125) dX12_valueOf_1 (by rw [c2]; decide) (by rw [c2]; decide) (by rw [c2]; decide) (by decide) ?_
      refine z_aload_n dX12_valueOf_126 0 rfl ?_
      refine z_getI fX12_339 kc_70 rfl dX12_valueOf_127 ?_
      exact z_iret dX12_valueOf_130 rfl
    · refine z_ite (fun c3 => ?_) (fun c3 => ?_)
      · refine z_tin (tgt := 111) (off := 110) dX12_valueOf_1 (by rw [c3]; decide) (by rw [c3]; decide) (by rw [c3]; decide) (by decide) ?_
        refine z_aload_n dX12_valueOf_111 0 rfl ?_
        refine z_getR (j := 91) fX12_76 kc_70 rfl rfl rfl (by decide) dX12_valueOf_112 ?_
        refine z_aload_n dX12_valueOf_115 0 rfl ?_
        refine z_getI fX12_333 kc_70 rfl dX12_valueOf_116 ?_
        refine z_gd (fun g4 => ?_)
        refine z_iald kc_91 dX12_valueOf_119 g4 ?_
        exact z_iret dX12_valueOf_120 rfl
      · refine z_ite (fun c5 => ?_) (fun c5 => ?_)
        · refine z_tin (tgt := 147) (off := 146) dX12_valueOf_1 (by rw [c5]; decide) (by rw [c5]; decide) (by rw [c5]; decide) (by decide) ?_
          refine z_aload_n dX12_valueOf_147 0 rfl ?_
          refine z_getI fX12_342 kc_70 rfl dX12_valueOf_148 ?_
          refine z_if_ge (tgt := 158) dX12_valueOf_151 (by decide) ?_ ?_
          · refine z_aload_n dX12_valueOf_158 0 rfl ?_
            refine z_getR (j := 91) fX12_76 kc_70 rfl rfl rfl (by decide) dX12_valueOf_159 ?_
            refine z_aload_n dX12_valueOf_162 0 rfl ?_
            refine z_getI fX12_342 kc_70 rfl dX12_valueOf_163 ?_
            refine z_gd (fun g6 => ?_)
            refine z_iald kc_91 dX12_valueOf_166 g6 ?_
            exact z_iret dX12_valueOf_167 rfl
          · refine z_iconst (v := 0) dX12_valueOf_154 (by decide) ?_
            refine z_goto (tgt := 167) dX12_valueOf_155 (by decide) ?_
            exact z_iret dX12_valueOf_167 rfl
        · refine z_ite (fun c7 => ?_) (fun c7 => ?_)
          · refine z_tin (tgt := 168) (off := 167) dX12_valueOf_1 (by rw [c7]; decide) (by rw [c7]; decide) (by rw [c7]; decide) (by decide) ?_
            refine z_aload_n dX12_valueOf_168 0 rfl ?_
            refine z_getI fX12_345 kc_70 rfl dX12_valueOf_169 ?_
            exact z_iret dX12_valueOf_172 rfl
          · refine z_ite (fun c8 => ?_) (fun c8 => ?_)
            · refine z_tin (tgt := 168) (off := 167) dX12_valueOf_1 (by rw [c8]; decide) (by rw [c8]; decide) (by rw [c8]; decide) (by decide) ?_
              refine z_aload_n dX12_valueOf_168 0 rfl ?_
              refine z_getI fX12_345 kc_70 rfl dX12_valueOf_169 ?_
              exact z_iret dX12_valueOf_172 rfl
            · refine z_ite (fun c9 => ?_) (fun c9 => ?_)
              · refine z_tin (tgt := 168) (off := 167) dX12_valueOf_1 (by rw [c9]; decide) (by rw [c9]; decide) (by rw [c9]; decide) (by decide) ?_
                refine z_aload_n dX12_valueOf_168 0 rfl ?_
                refine z_getI fX12_345 kc_70 rfl dX12_valueOf_169 ?_
                exact z_iret dX12_valueOf_172 rfl
              · refine z_ite (fun c10 => ?_) (fun c10 => ?_)
                · refine z_tin (tgt := 168) (off := 167) dX12_valueOf_1 (by rw [c10]; decide) (by rw [c10]; decide) (by rw [c10]; decide) (by decide) ?_
                  refine z_aload_n dX12_valueOf_168 0 rfl ?_
                  refine z_getI fX12_345 kc_70 rfl dX12_valueOf_169 ?_
                  exact z_iret dX12_valueOf_172 rfl
                · refine z_ite (fun c11 => ?_) (fun c11 => ?_)
                  · refine z_tin (tgt := 168) (off := 167) dX12_valueOf_1 (by rw [c11]; decide) (by rw [c11]; decide) (by rw [c11]; decide) (by decide) ?_
                    refine z_aload_n dX12_valueOf_168 0 rfl ?_
                    refine z_getI fX12_345 kc_70 rfl dX12_valueOf_169 ?_
                    exact z_iret dX12_valueOf_172 rfl
                  · refine z_ite (fun c12 => ?_) (fun c12 => ?_)
                    · refine z_tin (tgt := 168) (off := 167) dX12_valueOf_1 (by rw [c12]; decide) (by rw [c12]; decide) (by rw [c12]; decide) (by decide) ?_
                      refine z_aload_n dX12_valueOf_168 0 rfl ?_
                      refine z_getI fX12_345 kc_70 rfl dX12_valueOf_169 ?_
                      exact z_iret dX12_valueOf_172 rfl
                    · refine z_ite (fun c13 => ?_) (fun c13 => ?_)
                      · refine z_tin (tgt := 168) (off := 167) dX12_valueOf_1 (by rw [c13]; decide) (by rw [c13]; decide) (by rw [c13]; decide) (by decide) ?_
                        refine z_aload_n dX12_valueOf_168 0 rfl ?_
                        refine z_getI fX12_345 kc_70 rfl dX12_valueOf_169 ?_
                        exact z_iret dX12_valueOf_172 rfl
                      · refine z_ite (fun c14 => ?_) (fun c14 => ?_)
                        · refine z_tin (tgt := 96) (off := 95) dX12_valueOf_1 (by rw [c14]; decide) (by rw [c14]; decide) (by rw [c14]; decide) (by decide) ?_
                          refine z_aload_n dX12_valueOf_96 0 rfl ?_
                          refine z_getI fX12_327 kc_70 rfl dX12_valueOf_97 ?_
                          exact z_iret dX12_valueOf_100 rfl
                        · refine z_ite (fun c15 => ?_) (fun c15 => ?_)
                          · refine z_tin (tgt := 168) (off := 167) dX12_valueOf_1 (by rw [c15]; decide) (by rw [c15]; decide) (by rw [c15]; decide) (by decide) ?_
                            refine z_aload_n dX12_valueOf_168 0 rfl ?_
                            refine z_getI fX12_345 kc_70 rfl dX12_valueOf_169 ?_
                            exact z_iret dX12_valueOf_172 rfl
                          · refine z_ite (fun c16 => ?_) (fun c16 => ?_)
                            · refine z_tin (tgt := 168) (off := 167) dX12_valueOf_1 (by rw [c16]; decide) (by rw [c16]; decide) (by rw [c16]; decide) (by decide) ?_
                              refine z_aload_n dX12_valueOf_168 0 rfl ?_
                              refine z_getI fX12_345 kc_70 rfl dX12_valueOf_169 ?_
                              exact z_iret dX12_valueOf_172 rfl
                            · refine z_ite (fun c17 => ?_) (fun c17 => ?_)
                              · refine z_tin (tgt := 168) (off := 167) dX12_valueOf_1 (by rw [c17]; decide) (by rw [c17]; decide) (by rw [c17]; decide) (by decide) ?_
                                refine z_aload_n dX12_valueOf_168 0 rfl ?_
                                refine z_getI fX12_345 kc_70 rfl dX12_valueOf_169 ?_
                                exact z_iret dX12_valueOf_172 rfl
                              · refine z_ite (fun c18 => ?_) (fun c18 => ?_)
                                · refine z_tin (tgt := 168) (off := 167) dX12_valueOf_1 (by rw [c18]; decide) (by rw [c18]; decide) (by rw [c18]; decide) (by decide) ?_
                                  refine z_aload_n dX12_valueOf_168 0 rfl ?_
                                  refine z_getI fX12_345 kc_70 rfl dX12_valueOf_169 ?_
                                  exact z_iret dX12_valueOf_172 rfl
                                · refine z_ite (fun c19 => ?_) (fun c19 => ?_)
                                  · refine z_tin (tgt := 168) (off := 167) dX12_valueOf_1 (by rw [c19]; decide) (by rw [c19]; decide) (by rw [c19]; decide) (by decide) ?_
                                    refine z_aload_n dX12_valueOf_168 0 rfl ?_
                                    refine z_getI fX12_345 kc_70 rfl dX12_valueOf_169 ?_
                                    exact z_iret dX12_valueOf_172 rfl
                                  · refine z_ite (fun c20 => ?_) (fun c20 => ?_)
                                    · refine z_tin (tgt := 131) (off := 130) dX12_valueOf_1 (by rw [c20]; decide) (by rw [c20]; decide) (by rw [c20]; decide) (by decide) ?_
                                      refine z_aload_n dX12_valueOf_131 0 rfl ?_
                                      refine z_getI fX12_342 kc_70 rfl dX12_valueOf_132 ?_
                                      refine z_if_ge (tgt := 142) dX12_valueOf_135 (by decide) ?_ ?_
                                      · refine z_aload_n dX12_valueOf_142 0 rfl ?_
                                        refine z_getI fX12_342 kc_70 rfl dX12_valueOf_143 ?_
                                        exact z_iret dX12_valueOf_146 rfl
                                      · refine z_iconst (v := 0) dX12_valueOf_138 (by decide) ?_
                                        refine z_goto (tgt := 146) dX12_valueOf_139 (by decide) ?_
                                        exact z_iret dX12_valueOf_146 rfl
                                    · refine z_ite (fun c21 => ?_) (fun c21 => ?_)
                                      · refine z_tin (tgt := 106) (off := 105) dX12_valueOf_1 (by rw [c21]; decide) (by rw [c21]; decide) (by rw [c21]; decide) (by decide) ?_
                                        refine z_aload_n dX12_valueOf_106 0 rfl ?_
                                        refine z_getI fX12_333 kc_70 rfl dX12_valueOf_107 ?_
                                        exact z_iret dX12_valueOf_110 rfl
                                      · refine z_ite (fun c22 => ?_) (fun c22 => ?_)
                                        · refine z_tin (tgt := 101) (off := 100) dX12_valueOf_1 (by rw [c22]; decide) (by rw [c22]; decide) (by rw [c22]; decide) (by decide) ?_
                                          refine z_aload_n dX12_valueOf_101 0 rfl ?_
                                          refine z_getI fX12_330 kc_70 rfl dX12_valueOf_102 ?_
                                          exact z_iret dX12_valueOf_105 rfl
                                        · refine z_tout (tgt := 168) dX12_valueOf_1 (by have a0 := n32 (k := 97) c1 rfl; have a1 := n32 (k := 98) c2 rfl; have a2 := n32 (k := 99) c3 rfl; have a3 := n32 (k := 100) c5 rfl; have a4 := n32 (k := 101) c7 rfl; have a5 := n32 (k := 102) c8 rfl; have a6 := n32 (k := 103) c9 rfl; have a7 := n32 (k := 104) c10 rfl; have a8 := n32 (k := 105) c11 rfl; have a9 := n32 (k := 106) c12 rfl; have a10 := n32 (k := 107) c13 rfl; have a11 := n32 (k := 108) c14 rfl; have a12 := n32 (k := 109) c15 rfl; have a13 := n32 (k := 110) c16 rfl; have a14 := n32 (k := 111) c17 rfl; have a15 := n32 (k := 112) c18 rfl; have a16 := n32 (k := 113) c19 rfl; have a17 := n32 (k := 114) c20 rfl; have a18 := n32 (k := 115) c21 rfl; have a19 := n32 (k := 116) c22 rfl; omega) (by decide) ?_
                                          refine z_aload_n dX12_valueOf_168 0 rfl ?_
                                          refine z_getI fX12_345 kc_70 rfl dX12_valueOf_169 ?_
                                          exact z_iret dX12_valueOf_172 rfl
theorem M_X12_valueOf (x1 : Int32) (h : AHp) : MI QX12_valueOf 0 [.ref 70, .int x1] h (m_X12_valueOf x1 h) := MI.of (by decide) rfl rfl (Nat.le_of_ble_eq_true rfl) (w_X12_valueOf x1 h)
set_option maxHeartbeats 4000000 in
set_option maxRecDepth 100000 in
theorem w_X12_worked (x0 : Int32) (x1 : Int32) (x2 : Int32) (h : AHp) : WO tvI QX12_worked 0 0 [(0, .int x0), (1, .int x1), (2, .int x2)] [] h (m_X12_worked x0 x1 x2 h) := by
  unfold m_X12_worked
  refine z_iload_n dX12_worked_0 0 rfl ?_
  refine z_ite (fun c1 => ?_) (fun c1 => ?_)
  · refine z_look (tgt := 92) (off := 91) dX12_worked_1 (by decide) (by rw [c1]; decide) (by decide) ?_
    refine z_iload_n dX12_worked_92 2 rfl ?_
    refine z_if_ne (tgt := 100) dX12_worked_93 (by decide) ?_ ?_
    · refine z_iload_n dX12_worked_100 1 rfl ?_
      refine z_iload_n dX12_worked_101 2 rfl ?_
      refine z_gd (fun g2 => ?_)
      refine z_irem dX12_worked_102 g2 ?_
      exact z_iret dX12_worked_103 rfl
    · refine z_iconst (v := 0) dX12_worked_96 (by decide) ?_
      refine z_goto (tgt := 103) dX12_worked_97 (by decide) ?_
      exact z_iret dX12_worked_103 rfl
  · refine z_ite (fun c3 => ?_) (fun c3 => ?_)
    · refine z_look (tgt := 76) (off := 75) dX12_worked_1 (by decide) (by rw [c3]; decide) (by decide) ?_
      refine z_iload_n dX12_worked_76 1 rfl ?_
      refine z_iload_n dX12_worked_77 2 rfl ?_
      refine z_imul dX12_worked_78 ?_
      exact z_iret dX12_worked_79 rfl
    · refine z_ite (fun c4 => ?_) (fun c4 => ?_)
      · refine z_look (tgt := 68) (off := 67) dX12_worked_1 (by decide) (by rw [c4]; decide) (by decide) ?_
        refine z_iload_n dX12_worked_68 1 rfl ?_
        refine z_iload_n dX12_worked_69 2 rfl ?_
        refine z_iadd dX12_worked_70 ?_
        exact z_iret dX12_worked_71 rfl
      · refine z_ite (fun c5 => ?_) (fun c5 => ?_)
        · refine z_look (tgt := 72) (off := 71) dX12_worked_1 (by decide) (by rw [c5]; decide) (by decide) ?_
          refine z_iload_n dX12_worked_72 1 rfl ?_
          refine z_iload_n dX12_worked_73 2 rfl ?_
          refine z_isub dX12_worked_74 ?_
          exact z_iret dX12_worked_75 rfl
        · refine z_ite (fun c6 => ?_) (fun c6 => ?_)
          · refine z_look (tgt := 80) (off := 79) dX12_worked_1 (by decide) (by rw [c6]; decide) (by decide) ?_
            refine z_iload_n dX12_worked_80 2 rfl ?_
            refine z_if_ne (tgt := 88) dX12_worked_81 (by decide) ?_ ?_
            · refine z_iload_n dX12_worked_88 1 rfl ?_
              refine z_iload_n dX12_worked_89 2 rfl ?_
              refine z_gd (fun g7 => ?_)
              refine z_idiv dX12_worked_90 g7 ?_
              exact z_iret dX12_worked_91 rfl
            · refine z_iconst (v := 0) dX12_worked_84 (by decide) ?_
              refine z_goto (tgt := 91) dX12_worked_85 (by decide) ?_
              exact z_iret dX12_worked_91 rfl
          · refine z_ite (fun c8 => ?_) (fun c8 => ?_)
            · refine z_look (tgt := 104) (off := 103) dX12_worked_1 (by decide) (by rw [c8]; decide) (by decide) ?_
              refine z_iload_n dX12_worked_104 1 rfl ?_
              refine z_iload_n dX12_worked_105 2 rfl ?_
              refine z_ic_ge (tgt := 113) dX12_worked_106 (by decide) ?_ ?_
              · refine z_iconst (v := 0) dX12_worked_113 (by decide) ?_
                exact z_iret dX12_worked_114 rfl
              · refine z_iconst (v := 1) dX12_worked_109 (by decide) ?_
                refine z_goto (tgt := 114) dX12_worked_110 (by decide) ?_
                exact z_iret dX12_worked_114 rfl
            · refine z_ite (fun c9 => ?_) (fun c9 => ?_)
              · refine z_look (tgt := 115) (off := 114) dX12_worked_1 (by decide) (by rw [c9]; decide) (by decide) ?_
                refine z_iload_n dX12_worked_115 1 rfl ?_
                refine z_iload_n dX12_worked_116 2 rfl ?_
                refine z_ic_le (tgt := 124) dX12_worked_117 (by decide) ?_ ?_
                · refine z_iconst (v := 0) dX12_worked_124 (by decide) ?_
                  exact z_iret dX12_worked_125 rfl
                · refine z_iconst (v := 1) dX12_worked_120 (by decide) ?_
                  refine z_goto (tgt := 125) dX12_worked_121 (by decide) ?_
                  exact z_iret dX12_worked_125 rfl
              · refine z_look (tgt := 126) (off := 125) dX12_worked_1 (by decide) (by show Op.lookupswitch.offset [(37, 91), (42, 75), (43, 67), (45, 71), (47, 79), (60, 103), (62, 114)] 125 _ = _; rw [lv_osw (a := 37) c1 rfl, lv_osw (a := 42) c3 rfl, lv_osw (a := 43) c4 rfl, lv_osw (a := 45) c5 rfl, lv_osw (a := 47) c6 rfl, lv_osw (a := 60) c8 rfl, lv_osw (a := 62) c9 rfl]; rfl) (by decide) ?_
                refine z_iload_n dX12_worked_126 1 rfl ?_
                refine z_iload_n dX12_worked_127 2 rfl ?_
                refine z_ic_ne (tgt := 135) dX12_worked_128 (by decide) ?_ ?_
                · refine z_iconst (v := 0) dX12_worked_135 (by decide) ?_
                  exact z_iret dX12_worked_136 rfl
                · refine z_iconst (v := 1) dX12_worked_131 (by decide) ?_
                  refine z_goto (tgt := 136) dX12_worked_132 (by decide) ?_
                  exact z_iret dX12_worked_136 rfl
theorem M_X12_worked (x0 : Int32) (x1 : Int32) (x2 : Int32) (h : AHp) : MI QX12_worked 0 [.int x0, .int x1, .int x2] h (m_X12_worked x0 x1 x2 h) := MI.of (by decide) rfl rfl (Nat.le_of_ble_eq_true rfl) (w_X12_worked x0 x1 x2 h)
set_option maxHeartbeats 4000000 in
set_option maxRecDepth 100000 in
theorem w_X12_does_42 (x2 : Int32) (x3 : Int32) (s0 : Int32) (s1 : Int32) (h : AHp) : WO tvV QX12_does 1 42 [(0, .ref 70), (2, .int x2), (3, .int x3)] [.int s1, .int s0] h (m_X12_does_42 x2 x3 s0 s1 h) := by
  unfold m_X12_does_42
  refine z_ic_eq (tgt := 46) dX12_does_42 (by decide) ?_ ?_
  · refine z_aload_n dX12_does_46 0 rfl ?_
    refine z_getR (j := 92) fX12_79 kc_70 rfl rfl rfl (by decide) dX12_does_47 ?_
    refine z_iload_n dX12_does_50 1 rfl ?_
    refine z_aload_n dX12_does_51 0 rfl ?_
    refine z_getR (j := 92) fX12_79 kc_70 rfl rfl rfl (by decide) dX12_does_52 ?_
    refine z_iload_n dX12_does_55 2 rfl ?_
    refine z_gd (fun g1 => ?_)
    refine z_iald kc_92 dX12_does_56 g1 ?_
    refine z_gd (fun g3 => ?_)
    refine z_iast kc_92 dX12_does_57 g3 ?_
    refine z_lh (fun h2 => ?_)
    refine z_aload_n dX12_does_58 0 rfl ?_
    refine z_getR (j := 93) fX12_82 kc_70 rfl rfl rfl (by decide) dX12_does_59 ?_
    refine z_iload_n dX12_does_62 1 rfl ?_
    refine z_aload_n dX12_does_63 0 rfl ?_
    refine z_getR (j := 93) fX12_82 kc_70 rfl rfl rfl (by decide) dX12_does_64 ?_
    refine z_iload_n dX12_does_67 2 rfl ?_
    refine z_gd (fun g4 => ?_)
    refine z_zald kc_93 dX12_does_68 g4 ?_
    refine z_gd (fun g6 => ?_)
    refine z_zast kc_93 dX12_does_69 g6 ?_
    refine z_lh (fun h5 => ?_)
    exact z_vret dX12_does_70 rfl
  · exact z_vret dX12_does_45 rfl
set_option maxHeartbeats 4000000 in
set_option maxRecDepth 100000 in
theorem w_X12_does_16 (x1 : Int32) (x2 : Int32) (x3 : Int32) (h : AHp) : WO tvV QX12_does 1 16 [(0, .ref 70), (1, .int x1), (2, .int x2), (3, .int x3)] [] h (m_X12_does_16 x1 x2 x3 h) := by
  unfold m_X12_does_16
  refine z_aload_n dX12_does_16 0 rfl ?_
  refine z_getR (j := 93) fX12_82 kc_70 rfl rfl rfl (by decide) dX12_does_17 ?_
  refine z_iload_n dX12_does_20 2 rfl ?_
  refine z_gd (fun g7 => ?_)
  refine z_zald kc_93 dX12_does_21 g7 ?_
  refine z_if_ne (tgt := 45) dX12_does_22 (by decide) ?_ ?_
  · exact z_vret dX12_does_45 rfl
  · refine z_aload_n dX12_does_25 0 rfl ?_
    refine z_getR (j := 92) fX12_79 kc_70 rfl rfl rfl (by decide) dX12_does_26 ?_
    refine z_iload_n dX12_does_29 2 rfl ?_
    refine z_gd (fun g8 => ?_)
    refine z_iald kc_92 dX12_does_30 g8 ?_
    refine z_iload_n dX12_does_31 1 rfl ?_
    refine z_bipush (v := 38) dX12_does_32 (by decide) ?_
    refine z_ic_ne (tgt := 41) dX12_does_34 (by decide) ?_ ?_
    · refine z_iconst (v := 0) dX12_does_41 (by decide) ?_
      exact z_sub [0, 2, 3] rfl (w_X12_does_42 _ _ _ _ _)
    · refine z_iconst (v := 1) dX12_does_37 (by decide) ?_
      refine z_goto (tgt := 42) dX12_does_38 (by decide) ?_
      exact z_sub [0, 2, 3] rfl (w_X12_does_42 _ _ _ _ _)
set_option maxHeartbeats 4000000 in
set_option maxRecDepth 100000 in
theorem w_X12_does_120 (x1 : Int32) (x2 : Int32) (x3 : Int32) (s1 : Int32) (s2 : Int32) (h : AHp) : WO tvV QX12_does 1 120 [(0, .ref 70), (1, .int x1), (2, .int x2), (3, .int x3)] [.int s2, .int s1, .ref 93] h (m_X12_does_120 x1 x2 x3 s1 s2 h) := by
  unfold m_X12_does_120
  refine z_gd (fun g10 => ?_)
  refine z_zast kc_93 dX12_does_120 g10 ?_
  refine z_lh (fun h9 => ?_)
  refine z_aload_n dX12_does_121 0 rfl ?_
  refine z_getR (j := 92) fX12_79 kc_70 rfl rfl rfl (by decide) dX12_does_122 ?_
  refine z_iload_n dX12_does_125 2 rfl ?_
  refine z_iload_n dX12_does_126 1 rfl ?_
  refine z_aload_n dX12_does_127 0 rfl ?_
  refine z_getR (j := 92) fX12_79 kc_70 rfl rfl rfl (by decide) dX12_does_128 ?_
  refine z_iload_n dX12_does_131 2 rfl ?_
  refine z_gd (fun g11 => ?_)
  refine z_iald kc_92 dX12_does_132 g11 ?_
  refine z_aload_n dX12_does_133 0 rfl ?_
  refine z_getR (j := 92) fX12_79 kc_70 rfl rfl rfl (by decide) dX12_does_134 ?_
  refine z_iload_n dX12_does_137 3 rfl ?_
  refine z_gd (fun g12 => ?_)
  refine z_iald kc_92 dX12_does_138 g12 ?_
  refine z_callSI dX12_does_139 (M_X12_worked _ _ _ _) bX12_worked lX12_348 rfl rfl (Nat.le_of_ble_eq_true rfl) (Nat.le_of_ble_eq_true rfl) (fun r13 h14 => ?_)
  refine z_gd (fun g16 => ?_)
  refine z_iast kc_92 dX12_does_142 g16 ?_
  refine z_lh (fun h15 => ?_)
  exact z_vret dX12_does_143 rfl
set_option maxHeartbeats 4000000 in
set_option maxRecDepth 100000 in
theorem w_X12_does (x1 : Int32) (x2 : Int32) (h : AHp) : WO tvV QX12_does 1 0 [(0, .ref 70), (1, .int x1), (2, .int x2)] [] h (m_X12_does x1 x2 h) := by
  unfold m_X12_does
  refine z_iload_n dX12_does_0 2 rfl ?_
  refine z_iconst (v := 1) dX12_does_1 (by decide) ?_
  refine z_iadd dX12_does_2 ?_
  refine z_istore_nL (lv2 := fun v17 => [(3, .int v17), (0, .ref 70), (1, .int x1), (2, .int x2)]) dX12_does_3 (Nat.le_of_ble_eq_true rfl) (fun _ => rfl) (fun v17 => ?_)
  refine z_iload_n dX12_does_4 2 rfl ?_
  refine z_bipush (v := 38) dX12_does_5 (by decide) ?_
  refine z_ic_eq (tgt := 16) dX12_does_7 (by decide) ?_ ?_
  · exact z_sub [1, 2, 3, 0] rfl (w_X12_does_16 _ _ _ _)
  · refine z_iload_n dX12_does_10 2 rfl ?_
    refine z_bipush (v := 124) dX12_does_11 (by decide) ?_
    refine z_ic_ne (tgt := 71) dX12_does_13 (by decide) ?_ ?_
    · refine z_aload_n dX12_does_71 1 rfl ?_
      refine z_getR (j := 93) fX12_82 kc_70 rfl rfl rfl (by decide) dX12_does_72 ?_
      refine z_iload_n dX12_does_75 3 rfl ?_
      refine z_aload_n dX12_does_76 1 rfl ?_
      refine z_getR (j := 93) fX12_82 kc_70 rfl rfl rfl (by decide) dX12_does_77 ?_
      refine z_iload_n dX12_does_80 3 rfl ?_
      refine z_gd (fun g18 => ?_)
      refine z_zald kc_93 dX12_does_81 g18 ?_
      refine z_if_ne (tgt := 115) dX12_does_82 (by decide) ?_ ?_
      · refine z_iconst (v := 1) dX12_does_115 (by decide) ?_
        refine z_goto (tgt := 120) dX12_does_116 (by decide) ?_
        exact z_sub [1, 2, 3, 0] rfl (w_X12_does_120 _ _ _ _ _ _)
      · refine z_aload_n dX12_does_85 1 rfl ?_
        refine z_getR (j := 93) fX12_82 kc_70 rfl rfl rfl (by decide) dX12_does_86 ?_
        refine z_iload_n dX12_does_89 0 rfl ?_
        refine z_gd (fun g19 => ?_)
        refine z_zald kc_93 dX12_does_90 g19 ?_
        refine z_if_ne (tgt := 115) dX12_does_91 (by decide) ?_ ?_
        · refine z_iconst (v := 1) dX12_does_115 (by decide) ?_
          refine z_goto (tgt := 120) dX12_does_116 (by decide) ?_
          exact z_sub [1, 2, 3, 0] rfl (w_X12_does_120 _ _ _ _ _ _)
        · refine z_iload_n dX12_does_94 2 rfl ?_
          refine z_bipush (v := 47) dX12_does_95 (by decide) ?_
          refine z_ic_eq (tgt := 106) dX12_does_97 (by decide) ?_ ?_
          · refine z_aload_n dX12_does_106 1 rfl ?_
            refine z_getR (j := 92) fX12_79 kc_70 rfl rfl rfl (by decide) dX12_does_107 ?_
            refine z_iload_n dX12_does_110 0 rfl ?_
            refine z_gd (fun g20 => ?_)
            refine z_iald kc_92 dX12_does_111 g20 ?_
            refine z_if_ne (tgt := 119) dX12_does_112 (by decide) ?_ ?_
            · refine z_iconst (v := 0) dX12_does_119 (by decide) ?_
              exact z_sub [1, 2, 3, 0] rfl (w_X12_does_120 _ _ _ _ _ _)
            · refine z_iconst (v := 1) dX12_does_115 (by decide) ?_
              refine z_goto (tgt := 120) dX12_does_116 (by decide) ?_
              exact z_sub [1, 2, 3, 0] rfl (w_X12_does_120 _ _ _ _ _ _)
          · refine z_iload_n dX12_does_100 2 rfl ?_
            refine z_bipush (v := 37) dX12_does_101 (by decide) ?_
            refine z_ic_ne (tgt := 119) dX12_does_103 (by decide) ?_ ?_
            · refine z_iconst (v := 0) dX12_does_119 (by decide) ?_
              exact z_sub [1, 2, 3, 0] rfl (w_X12_does_120 _ _ _ _ _ _)
            · refine z_aload_n dX12_does_106 1 rfl ?_
              refine z_getR (j := 92) fX12_79 kc_70 rfl rfl rfl (by decide) dX12_does_107 ?_
              refine z_iload_n dX12_does_110 0 rfl ?_
              refine z_gd (fun g21 => ?_)
              refine z_iald kc_92 dX12_does_111 g21 ?_
              refine z_if_ne (tgt := 119) dX12_does_112 (by decide) ?_ ?_
              · refine z_iconst (v := 0) dX12_does_119 (by decide) ?_
                exact z_sub [1, 2, 3, 0] rfl (w_X12_does_120 _ _ _ _ _ _)
              · refine z_iconst (v := 1) dX12_does_115 (by decide) ?_
                refine z_goto (tgt := 120) dX12_does_116 (by decide) ?_
                exact z_sub [1, 2, 3, 0] rfl (w_X12_does_120 _ _ _ _ _ _)
    · exact z_sub [1, 2, 3, 0] rfl (w_X12_does_16 _ _ _ _)
theorem M_X12_does (x1 : Int32) (x2 : Int32) (h : AHp) : MV QX12_does 1 [.ref 70, .int x1, .int x2] h (m_X12_does x1 x2 h) := MV.of (by decide) rfl rfl (Nat.le_of_ble_eq_true rfl) (w_X12_does x1 x2 h)
set_option maxHeartbeats 4000000 in
set_option maxRecDepth 100000 in
theorem w_X12_works_5 : ∀ (f : Nat) (x2 : Int32) (x3 : Int32) (x4 : Int32) (h : AHp), WO tvV QX12_works 2 5 [(0, .ref 70), (2, .int x2), (3, .int x3), (4, .int x4)] [] h (m_X12_works_5 f x2 x3 x4 h) := by
  intro f
  induction f with
  | zero => intro x2 x3 x4 h; exact z_none
  | succ f ih =>
    intro x2 x3 x4 h
    rw [m_X12_works_5]
    refine z_iload dX12_works_5 3 rfl ?_
    refine z_iload_n dX12_works_7 1 rfl ?_
    refine z_ic_ge (tgt := 127) dX12_works_8 (by decide) ?_ ?_
    · exact z_vret dX12_works_127 rfl
    · refine z_aload_n dX12_works_11 0 rfl ?_
      refine z_getR (j := 82) fX12_49 kc_70 rfl rfl rfl (by decide) dX12_works_12 ?_
      refine z_iload dX12_works_15 3 rfl ?_
      refine z_gd (fun g1 => ?_)
      refine z_iald kc_82 dX12_works_17 g1 ?_
      refine z_iconst (v := 2) dX12_works_18 (by decide) ?_
      refine z_ic_le (tgt := 42) dX12_works_19 (by decide) ?_ ?_
      · refine z_aload_n dX12_works_42 0 rfl ?_
        refine z_getR (j := 82) fX12_49 kc_70 rfl rfl rfl (by decide) dX12_works_43 ?_
        refine z_iload dX12_works_46 3 rfl ?_
        refine z_gd (fun g2 => ?_)
        refine z_iald kc_82 dX12_works_48 g2 ?_
        refine z_iconst (v := 2) dX12_works_49 (by decide) ?_
        refine z_ic_ne (tgt := 74) dX12_works_50 (by decide) ?_ ?_
        · refine z_aload_n dX12_works_74 0 rfl ?_
          refine z_getR (j := 93) fX12_82 kc_70 rfl rfl rfl (by decide) dX12_works_75 ?_
          refine z_iload_n dX12_works_78 2 rfl ?_
          refine z_iconst (v := 0) dX12_works_79 (by decide) ?_
          refine z_gd (fun g4 => ?_)
          refine z_zast kc_93 dX12_works_80 g4 ?_
          refine z_lh (fun h3 => ?_)
          refine z_aload_n dX12_works_81 0 rfl ?_
          refine z_getR (j := 92) fX12_79 kc_70 rfl rfl rfl (by decide) dX12_works_82 ?_
          refine z_iload_n dX12_works_85 2 rfl ?_
          refine z_aload_n dX12_works_86 0 rfl ?_
          refine z_getR (j := 82) fX12_49 kc_70 rfl rfl rfl (by decide) dX12_works_87 ?_
          refine z_iload dX12_works_90 3 rfl ?_
          refine z_gd (fun g5 => ?_)
          refine z_iald kc_82 dX12_works_92 g5 ?_
          refine z_if_ne (tgt := 106) dX12_works_93 (by decide) ?_ ?_
          · refine z_aload_n dX12_works_106 0 rfl ?_
            refine z_aload_n dX12_works_107 0 rfl ?_
            refine z_getR (j := 83) fX12_52 kc_70 rfl rfl rfl (by decide) dX12_works_108 ?_
            refine z_iload dX12_works_111 3 rfl ?_
            refine z_gd (fun g6 => ?_)
            refine z_iald kc_83 dX12_works_113 g6 ?_
            refine z_callVI dX12_works_114 (M_X12_valueOf _ _) bX12_valueOf lX12_355 kc_70 rfl rfl (Nat.le_of_ble_eq_true rfl) (Nat.le_of_ble_eq_true rfl) (fun r7 h8 => ?_)
            refine z_gd (fun g10 => ?_)
            refine z_iast kc_92 dX12_works_117 g10 ?_
            refine z_lh (fun h9 => ?_)
            refine z_iincL (lv2 := fun v11 => [(3, .int v11), (0, .ref 70), (2, .int x2), (4, .int x4)]) dX12_works_118 2 rfl rfl (Nat.le_of_ble_eq_true rfl) (fun _ => rfl) (fun v11 => ?_)
            refine z_iincL (lv2 := fun v12 => [(4, .int v12), (3, .int v11), (0, .ref 70), (2, .int x2)]) dX12_works_121 3 rfl rfl (Nat.le_of_ble_eq_true rfl) (fun _ => rfl) (fun v12 => ?_)
            refine z_goto (tgt := 5) dX12_works_124 (by decide) ?_
            exact z_sub [2, 3, 1, 0] rfl (ih _ _ _ _)
          · refine z_aload_n dX12_works_96 0 rfl ?_
            refine z_getR (j := 83) fX12_52 kc_70 rfl rfl rfl (by decide) dX12_works_97 ?_
            refine z_iload dX12_works_100 3 rfl ?_
            refine z_gd (fun g13 => ?_)
            refine z_iald kc_83 dX12_works_102 g13 ?_
            refine z_goto (tgt := 117) dX12_works_103 (by decide) ?_
            refine z_gd (fun g15 => ?_)
            refine z_iast kc_92 dX12_works_117 g15 ?_
            refine z_lh (fun h14 => ?_)
            refine z_iincL (lv2 := fun v16 => [(3, .int v16), (0, .ref 70), (2, .int x2), (4, .int x4)]) dX12_works_118 2 rfl rfl (Nat.le_of_ble_eq_true rfl) (fun _ => rfl) (fun v16 => ?_)
            refine z_iincL (lv2 := fun v17 => [(4, .int v17), (3, .int v16), (0, .ref 70), (2, .int x2)]) dX12_works_121 3 rfl rfl (Nat.le_of_ble_eq_true rfl) (fun _ => rfl) (fun v17 => ?_)
            refine z_goto (tgt := 5) dX12_works_124 (by decide) ?_
            exact z_sub [2, 3, 1, 0] rfl (ih _ _ _ _)
        · refine z_aload_n dX12_works_53 0 rfl ?_
          refine z_getR (j := 92) fX12_79 kc_70 rfl rfl rfl (by decide) dX12_works_54 ?_
          refine z_iload_n dX12_works_57 2 rfl ?_
          refine z_iconst (v := 1) dX12_works_58 (by decide) ?_
          refine z_isub dX12_works_59 ?_
          refine z_iconst (v := 1) dX12_works_60 (by decide) ?_
          refine z_aload_n dX12_works_61 0 rfl ?_
          refine z_getR (j := 92) fX12_79 kc_70 rfl rfl rfl (by decide) dX12_works_62 ?_
          refine z_iload_n dX12_works_65 2 rfl ?_
          refine z_iconst (v := 1) dX12_works_66 (by decide) ?_
          refine z_isub dX12_works_67 ?_
          refine z_gd (fun g18 => ?_)
          refine z_iald kc_92 dX12_works_68 g18 ?_
          refine z_isub dX12_works_69 ?_
          refine z_gd (fun g20 => ?_)
          refine z_iast kc_92 dX12_works_70 g20 ?_
          refine z_lh (fun h19 => ?_)
          refine z_goto (tgt := 121) dX12_works_71 (by decide) ?_
          refine z_iincL (lv2 := fun v21 => [(4, .int v21), (0, .ref 70), (2, .int x2), (3, .int x3)]) dX12_works_121 3 rfl rfl (Nat.le_of_ble_eq_true rfl) (fun _ => rfl) (fun v21 => ?_)
          refine z_goto (tgt := 5) dX12_works_124 (by decide) ?_
          exact z_sub [1, 2, 3, 0] rfl (ih _ _ _ _)
      · refine z_iincL (lv2 := fun v22 => [(3, .int v22), (0, .ref 70), (2, .int x2), (4, .int x4)]) dX12_works_22 2 rfl rfl (Nat.le_of_ble_eq_true rfl) (fun _ => rfl) (fun v22 => ?_)
        refine z_aload_n dX12_works_25 1 rfl ?_
        refine z_aload_n dX12_works_26 1 rfl ?_
        refine z_getR (j := 82) fX12_49 kc_70 rfl rfl rfl (by decide) dX12_works_27 ?_
        refine z_iload dX12_works_30 3 rfl ?_
        refine z_gd (fun g23 => ?_)
        refine z_iald kc_82 dX12_works_32 g23 ?_
        refine z_iload_n dX12_works_33 0 rfl ?_
        refine z_iconst (v := 1) dX12_works_34 (by decide) ?_
        refine z_isub dX12_works_35 ?_
        refine z_callVV dX12_works_36 (M_X12_does _ _ _) bX12_does lX12_352 kc_70 rfl rfl (Nat.le_of_ble_eq_true rfl) (Nat.le_of_ble_eq_true rfl) (fun r24 h25 => ?_)
        refine z_goto (tgt := 121) dX12_works_39 (by decide) ?_
        refine z_iincL (lv2 := fun v26 => [(4, .int v26), (3, .int v22), (0, .ref 70), (2, .int x2)]) dX12_works_121 3 rfl rfl (Nat.le_of_ble_eq_true rfl) (fun _ => rfl) (fun v26 => ?_)
        refine z_goto (tgt := 5) dX12_works_124 (by decide) ?_
        exact z_sub [2, 3, 1, 0] rfl (ih _ _ _ _)
set_option maxHeartbeats 4000000 in
set_option maxRecDepth 100000 in
theorem w_X12_works (x1 : Int32) (x2 : Int32) (h : AHp) : WO tvV QX12_works 2 0 [(0, .ref 70), (1, .int x1), (2, .int x2)] [] h (m_X12_works x1 x2 h) := by
  unfold m_X12_works
  refine z_iconst (v := 0) dX12_works_0 (by decide) ?_
  refine z_istore_n (lv2 := [(3, .int 0), (0, .ref 70), (1, .int x1), (2, .int x2)]) dX12_works_1 (Nat.le_of_ble_eq_true rfl) rfl ?_
  refine z_iload_n dX12_works_2 2 rfl ?_
  refine z_istore (lv2 := [(4, .int x1), (3, .int 0), (0, .ref 70), (1, .int x1), (2, .int x2)]) dX12_works_3 (Nat.le_of_ble_eq_true rfl) rfl ?_
  exact z_sub [2, 4, 1, 0] rfl (w_X12_works_5 FU _ _ _ _)
theorem M_X12_works (x1 : Int32) (x2 : Int32) (h : AHp) : MV QX12_works 2 [.ref 70, .int x1, .int x2] h (m_X12_works x1 x2 h) := MV.of (by decide) rfl rfl (Nat.le_of_ble_eq_true rfl) (w_X12_works x1 x2 h)
set_option maxHeartbeats 4000000 in
set_option maxRecDepth 100000 in
theorem w_X12_holds (x1 : Int32) (h : AHp) : WO tvI QX12_holds 3 0 [(0, .ref 70), (1, .int x1)] [] h (m_X12_holds x1 h) := by
  unfold m_X12_holds
  refine z_aload_n dX12_holds_0 0 rfl ?_
  refine z_aload_n dX12_holds_1 0 rfl ?_
  refine z_getR (j := 80) fX12_43 kc_70 rfl rfl rfl (by decide) dX12_holds_2 ?_
  refine z_iload_n dX12_holds_5 1 rfl ?_
  refine z_gd (fun g1 => ?_)
  refine z_iald kc_80 dX12_holds_6 g1 ?_
  refine z_aload_n dX12_holds_7 0 rfl ?_
  refine z_getR (j := 81) fX12_46 kc_70 rfl rfl rfl (by decide) dX12_holds_8 ?_
  refine z_iload_n dX12_holds_11 1 rfl ?_
  refine z_gd (fun g2 => ?_)
  refine z_iald kc_81 dX12_holds_12 g2 ?_
  refine z_callVV dX12_holds_13 (M_X12_works _ _ _) bX12_works lX12_358 kc_70 rfl rfl (Nat.le_of_ble_eq_true rfl) (Nat.le_of_ble_eq_true rfl) (fun r3 h4 => ?_)
  refine z_aload_n dX12_holds_16 0 rfl ?_
  refine z_getR (j := 93) fX12_82 kc_70 rfl rfl rfl (by decide) dX12_holds_17 ?_
  refine z_iconst (v := 0) dX12_holds_20 (by decide) ?_
  refine z_zald kc_93 dX12_holds_21 (by decide) ?_
  refine z_if_ne (tgt := 39) dX12_holds_22 (by decide) ?_ ?_
  · refine z_iconst (v := 0) dX12_holds_39 (by decide) ?_
    exact z_zret dX12_holds_40 rfl (Or.inl rfl)
  · refine z_aload_n dX12_holds_25 0 rfl ?_
    refine z_getR (j := 92) fX12_79 kc_70 rfl rfl rfl (by decide) dX12_holds_26 ?_
    refine z_iconst (v := 0) dX12_holds_29 (by decide) ?_
    refine z_iald kc_92 dX12_holds_30 (by decide) ?_
    refine z_iconst (v := 1) dX12_holds_31 (by decide) ?_
    refine z_ic_ne (tgt := 39) dX12_holds_32 (by decide) ?_ ?_
    · refine z_iconst (v := 0) dX12_holds_39 (by decide) ?_
      exact z_zret dX12_holds_40 rfl (Or.inl rfl)
    · refine z_iconst (v := 1) dX12_holds_35 (by decide) ?_
      refine z_goto (tgt := 40) dX12_holds_36 (by decide) ?_
      exact z_zret dX12_holds_40 rfl (Or.inr rfl)
theorem M_X12_holds (x1 : Int32) (h : AHp) : MI QX12_holds 3 [.ref 70, .int x1] h (m_X12_holds x1 h) := MI.of (by decide) rfl rfl (Nat.le_of_ble_eq_true rfl) (w_X12_holds x1 h)
set_option maxHeartbeats 4000000 in
set_option maxRecDepth 100000 in
theorem w_X12_lets_5 : ∀ (f : Nat) (x1 : Int32) (x2 : Int32) (h : AHp), WO tvI QX12_lets 4 5 [(0, .ref 70), (1, .int x1), (2, .int x2)] [] h (m_X12_lets_5 f x1 x2 h) := by
  intro f
  induction f with
  | zero => intro x1 x2 h; exact z_none
  | succ f ih =>
    intro x1 x2 h
    rw [m_X12_lets_5]
    refine z_iload_n dX12_lets_5 2 rfl ?_
    refine z_bipush (v := 14) dX12_lets_6 (by decide) ?_
    refine z_iload_n dX12_lets_8 1 rfl ?_
    refine z_imul dX12_lets_9 ?_
    refine z_aload_n dX12_lets_10 0 rfl ?_
    refine z_getR (j := 77) fX12_34 kc_70 rfl rfl rfl (by decide) dX12_lets_11 ?_
    refine z_iload_n dX12_lets_14 1 rfl ?_
    refine z_gd (fun g1 => ?_)
    refine z_iald kc_77 dX12_lets_15 g1 ?_
    refine z_iadd dX12_lets_16 ?_
    refine z_ic_ge (tgt := 47) dX12_lets_17 (by decide) ?_ ?_
    · refine z_iconst (v := 1) dX12_lets_47 (by decide) ?_
      exact z_zret dX12_lets_48 rfl (Or.inr rfl)
    · refine z_aload_n dX12_lets_20 0 rfl ?_
      refine z_getR (j := 78) fX12_37 kc_70 rfl rfl rfl (by decide) dX12_lets_21 ?_
      refine z_iload_n dX12_lets_24 2 rfl ?_
      refine z_gd (fun g2 => ?_)
      refine z_iald kc_78 dX12_lets_25 g2 ?_
      refine z_bipush (v := 110) dX12_lets_26 (by decide) ?_
      refine z_ic_ne (tgt := 41) dX12_lets_28 (by decide) ?_ ?_
      · refine z_iincL (lv2 := fun v3 => [(2, .int v3), (0, .ref 70), (1, .int x1)]) dX12_lets_41 2 rfl rfl (Nat.le_of_ble_eq_true rfl) (fun _ => rfl) (fun v3 => ?_)
        refine z_goto (tgt := 5) dX12_lets_44 (by decide) ?_
        exact z_sub [1, 2, 0] rfl (ih _ _ _)
      · refine z_aload_n dX12_lets_31 0 rfl ?_
        refine z_iload_n dX12_lets_32 2 rfl ?_
        refine z_callVI dX12_lets_33 (M_X12_holds _ _) bX12_holds lX12_361 kc_70 rfl rfl (Nat.le_of_ble_eq_true rfl) (Nat.le_of_ble_eq_true rfl) (fun r4 h5 => ?_)
        refine z_if_eq (tgt := 41) dX12_lets_36 (by decide) ?_ ?_
        · refine z_iincL (lv2 := fun v6 => [(2, .int v6), (0, .ref 70), (1, .int x1)]) dX12_lets_41 2 rfl rfl (Nat.le_of_ble_eq_true rfl) (fun _ => rfl) (fun v6 => ?_)
          refine z_goto (tgt := 5) dX12_lets_44 (by decide) ?_
          exact z_sub [1, 2, 0] rfl (ih _ _ _)
        · refine z_iconst (v := 0) dX12_lets_39 (by decide) ?_
          exact z_zret dX12_lets_40 rfl (Or.inl rfl)
set_option maxHeartbeats 4000000 in
set_option maxRecDepth 100000 in
theorem w_X12_lets (x1 : Int32) (h : AHp) : WO tvI QX12_lets 4 0 [(0, .ref 70), (1, .int x1)] [] h (m_X12_lets x1 h) := by
  unfold m_X12_lets
  refine z_bipush (v := 14) dX12_lets_0 (by decide) ?_
  refine z_iload_n dX12_lets_2 1 rfl ?_
  refine z_imul dX12_lets_3 ?_
  refine z_istore_nL (lv2 := fun v7 => [(2, .int v7), (0, .ref 70), (1, .int x1)]) dX12_lets_4 (Nat.le_of_ble_eq_true rfl) (fun _ => rfl) (fun v7 => ?_)
  exact z_sub [1, 2, 0] rfl (w_X12_lets_5 FU _ _ _)
theorem M_X12_lets (x1 : Int32) (h : AHp) : MI QX12_lets 4 [.ref 70, .int x1] h (m_X12_lets x1 h) := MI.of (by decide) rfl rfl (Nat.le_of_ble_eq_true rfl) (w_X12_lets x1 h)
set_option maxHeartbeats 4000000 in
set_option maxRecDepth 100000 in
theorem w_X12_pays_69 (s0 : Int32) (h : AHp) : WO tvI QX12_pays 4 69 [] [.int s0] h (m_X12_pays_69 s0 h) := by
  unfold m_X12_pays_69
  refine z_istore_n (lv2 := [(2, .int s0)]) dX12_pays_69 (Nat.le_of_ble_eq_true rfl) rfl ?_
  refine z_iload_n dX12_pays_70 0 rfl ?_
  refine z_if_ge (tgt := 78) dX12_pays_71 (by decide) ?_ ?_
  · refine z_iload_n dX12_pays_78 0 rfl ?_
    refine z_sipush (v := 999) dX12_pays_79 (by decide) ?_
    refine z_ic_le (tgt := 91) dX12_pays_82 (by decide) ?_ ?_
    · refine z_iload_n dX12_pays_91 0 rfl ?_
      exact z_iret dX12_pays_92 rfl
    · refine z_sipush (v := 999) dX12_pays_85 (by decide) ?_
      refine z_goto (tgt := 92) dX12_pays_88 (by decide) ?_
      exact z_iret dX12_pays_92 rfl
  · refine z_iconst (v := 0) dX12_pays_74 (by decide) ?_
    refine z_goto (tgt := 92) dX12_pays_75 (by decide) ?_
    exact z_iret dX12_pays_92 rfl
set_option maxHeartbeats 4000000 in
set_option maxRecDepth 100000 in
theorem w_X12_pays_2 : ∀ (f : Nat) (x1 : Int32) (h : AHp), WO tvI QX12_pays 4 2 [(0, .ref 70), (1, .int x1)] [] h (m_X12_pays_2 f x1 h) := by
  intro f
  induction f with
  | zero => intro x1 h; exact z_none
  | succ f ih =>
    intro x1 h
    rw [m_X12_pays_2]
    refine z_iload_n dX12_pays_2 1 rfl ?_
    refine z_aload_n dX12_pays_3 0 rfl ?_
    refine z_getR (j := 77) fX12_34 kc_70 rfl rfl rfl (by decide) dX12_pays_4 ?_
    refine z_iconst (v := 0) dX12_pays_7 (by decide) ?_
    refine z_iald kc_77 dX12_pays_8 (by decide) ?_
    refine z_ic_ge (tgt := 99) dX12_pays_9 (by decide) ?_ ?_
    · refine z_iconst (v := 0) dX12_pays_99 (by decide) ?_
      exact z_iret dX12_pays_100 rfl
    · refine z_aload_n dX12_pays_12 0 rfl ?_
      refine z_getR (j := 78) fX12_37 kc_70 rfl rfl rfl (by decide) dX12_pays_13 ?_
      refine z_iload_n dX12_pays_16 1 rfl ?_
      refine z_gd (fun g1 => ?_)
      refine z_iald kc_78 dX12_pays_17 g1 ?_
      refine z_bipush (v := 112) dX12_pays_18 (by decide) ?_
      refine z_ic_ne (tgt := 93) dX12_pays_20 (by decide) ?_ ?_
      · refine z_iincL (lv2 := fun v2 => [(1, .int v2), (0, .ref 70)]) dX12_pays_93 1 rfl rfl (Nat.le_of_ble_eq_true rfl) (fun _ => rfl) (fun v2 => ?_)
        refine z_goto (tgt := 2) dX12_pays_96 (by decide) ?_
        exact z_sub [1, 0] rfl (ih _ _)
      · refine z_aload_n dX12_pays_23 0 rfl ?_
        refine z_iload_n dX12_pays_24 1 rfl ?_
        refine z_callVI dX12_pays_25 (M_X12_holds _ _) bX12_holds lX12_361 kc_70 rfl rfl (Nat.le_of_ble_eq_true rfl) (Nat.le_of_ble_eq_true rfl) (fun r3 h4 => ?_)
        refine z_if_ne (tgt := 34) dX12_pays_28 (by decide) ?_ ?_
        · refine z_aload_n dX12_pays_34 0 rfl ?_
          refine z_aload_n dX12_pays_35 0 rfl ?_
          refine z_getR (j := 79) fX12_40 kc_70 rfl rfl rfl (by decide) dX12_pays_36 ?_
          refine z_iload_n dX12_pays_39 1 rfl ?_
          refine z_gd (fun g5 => ?_)
          refine z_iald kc_79 dX12_pays_40 g5 ?_
          refine z_aload_n dX12_pays_41 0 rfl ?_
          refine z_getR (j := 80) fX12_43 kc_70 rfl rfl rfl (by decide) dX12_pays_42 ?_
          refine z_iload_n dX12_pays_45 1 rfl ?_
          refine z_gd (fun g6 => ?_)
          refine z_iald kc_80 dX12_pays_46 g6 ?_
          refine z_callVV dX12_pays_47 (M_X12_works _ _ _) bX12_works lX12_358 kc_70 rfl rfl (Nat.le_of_ble_eq_true rfl) (Nat.le_of_ble_eq_true rfl) (fun r7 h8 => ?_)
          refine z_aload_n dX12_pays_50 0 rfl ?_
          refine z_getR (j := 93) fX12_82 kc_70 rfl rfl rfl (by decide) dX12_pays_51 ?_
          refine z_iconst (v := 0) dX12_pays_54 (by decide) ?_
          refine z_zald kc_93 dX12_pays_55 (by decide) ?_
          refine z_if_eq (tgt := 63) dX12_pays_56 (by decide) ?_ ?_
          · refine z_aload_n dX12_pays_63 0 rfl ?_
            refine z_getR (j := 92) fX12_79 kc_70 rfl rfl rfl (by decide) dX12_pays_64 ?_
            refine z_iconst (v := 0) dX12_pays_67 (by decide) ?_
            refine z_iald kc_92 dX12_pays_68 (by decide) ?_
            exact z_sub [] rfl (w_X12_pays_69 _ _)
          · refine z_iconst (v := 0) dX12_pays_59 (by decide) ?_
            refine z_goto (tgt := 69) dX12_pays_60 (by decide) ?_
            exact z_sub [] rfl (w_X12_pays_69 _ _)
        · refine z_goto (tgt := 93) dX12_pays_31 (by decide) ?_
          refine z_iincL (lv2 := fun v9 => [(1, .int v9), (0, .ref 70)]) dX12_pays_93 1 rfl rfl (Nat.le_of_ble_eq_true rfl) (fun _ => rfl) (fun v9 => ?_)
          refine z_goto (tgt := 2) dX12_pays_96 (by decide) ?_
          exact z_sub [1, 0] rfl (ih _ _)
set_option maxHeartbeats 4000000 in
set_option maxRecDepth 100000 in
theorem w_X12_pays (h : AHp) : WO tvI QX12_pays 4 0 [(0, .ref 70)] [] h (m_X12_pays h) := by
  unfold m_X12_pays
  refine z_iconst (v := 0) dX12_pays_0 (by decide) ?_
  refine z_istore_n (lv2 := [(1, .int 0), (0, .ref 70)]) dX12_pays_1 (Nat.le_of_ble_eq_true rfl) rfl ?_
  exact z_sub [1, 0] rfl (w_X12_pays_2 FU _ _)
theorem M_X12_pays (h : AHp) : MI QX12_pays 4 [.ref 70] h (m_X12_pays h) := MI.of (by decide) rfl rfl (Nat.le_of_ble_eq_true rfl) (w_X12_pays h)
set_option maxHeartbeats 4000000 in
set_option maxRecDepth 100000 in
theorem w_X12_isSpeaker (x0 : Int32) (h : AHp) : WO tvI QX12_isSpeaker 1 0 [(0, .int x0)] [] h (m_X12_isSpeaker x0 h) := by
  unfold m_X12_isSpeaker
  refine z_iload_n dX12_isSpeaker_0 0 rfl ?_
  refine z_i2l dX12_isSpeaker_1 ?_
  refine z_lconst (v := 0) dX12_isSpeaker_2 (by decide) ?_
  refine z_ldc2 dX12_isSpeaker_3 kX12_364 ?_
  refine z_callSI dX12_isSpeaker_6 (M_X12_lies _ _ _ _) bX12_lies lX12_181 rfl rfl (Nat.le_of_ble_eq_true rfl) (Nat.le_of_ble_eq_true rfl) (fun r1 h2 => ?_)
  refine z_gd (fun g3 => ?_)
  exact z_zret dX12_isSpeaker_9 rfl g3
theorem M_X12_isSpeaker (x0 : Int32) (h : AHp) : MI QX12_isSpeaker 1 [.int x0] h (m_X12_isSpeaker x0 h) := MI.of (by decide) rfl rfl (Nat.le_of_ble_eq_true rfl) (w_X12_isSpeaker x0 h)
set_option maxHeartbeats 4000000 in
set_option maxRecDepth 100000 in
theorem w_X12_lengthAt (x1 : Int32) (h : AHp) : WO tvI QX12_lengthAt 0 0 [(0, .ref 70), (1, .int x1)] [] h (m_X12_lengthAt x1 h) := by
  unfold m_X12_lengthAt
  refine z_iload_n dX12_lengthAt_0 1 rfl ?_
  refine z_if_ge (tgt := 8) dX12_lengthAt_1 (by decide) ?_ ?_
  · refine z_aload_n dX12_lengthAt_8 0 rfl ?_
    refine z_getR (j := 96) fX12_91 kc_70 rfl rfl rfl (by decide) dX12_lengthAt_9 ?_
    refine z_iload_n dX12_lengthAt_12 1 rfl ?_
    refine z_gd (fun g1 => ?_)
    refine z_iald kc_96 dX12_lengthAt_13 g1 ?_
    exact z_iret dX12_lengthAt_14 rfl
  · refine z_iconst (v := 0) dX12_lengthAt_4 (by decide) ?_
    refine z_goto (tgt := 14) dX12_lengthAt_5 (by decide) ?_
    exact z_iret dX12_lengthAt_14 rfl
theorem M_X12_lengthAt (x1 : Int32) (h : AHp) : MI QX12_lengthAt 0 [.ref 70, .int x1] h (m_X12_lengthAt x1 h) := MI.of (by decide) rfl rfl (Nat.le_of_ble_eq_true rfl) (w_X12_lengthAt x1 h)
set_option maxHeartbeats 4000000 in
set_option maxRecDepth 100000 in
theorem w_X12_standsAt (x1 : Int32) (h : AHp) : WO tvV QX12_standsAt 1 0 [(0, .ref 70), (1, .int x1)] [] h (m_X12_standsAt x1 h) := by
  unfold m_X12_standsAt
  refine z_aload_n dX12_standsAt_0 0 rfl ?_
  refine z_iload_n dX12_standsAt_1 1 rfl ?_
  refine z_putI fX12_345 kc_70 rfl dX12_standsAt_2 ?_
  refine z_lh (fun h1 => ?_)
  refine z_aload_n dX12_standsAt_5 0 rfl ?_
  refine z_aload_n dX12_standsAt_6 0 rfl ?_
  refine z_iload_n dX12_standsAt_7 1 rfl ?_
  refine z_iconst (v := 1) dX12_standsAt_8 (by decide) ?_
  refine z_isub dX12_standsAt_9 ?_
  refine z_callVI dX12_standsAt_10 (M_X12_lengthAt _ _) bX12_lengthAt lX12_366 kc_70 rfl rfl (Nat.le_of_ble_eq_true rfl) (Nat.le_of_ble_eq_true rfl) (fun r2 h3 => ?_)
  refine z_putI fX12_336 kc_70 rfl dX12_standsAt_13 ?_
  refine z_lh (fun h4 => ?_)
  refine z_aload_n dX12_standsAt_16 0 rfl ?_
  refine z_aload_n dX12_standsAt_17 0 rfl ?_
  refine z_iload_n dX12_standsAt_18 1 rfl ?_
  refine z_iconst (v := 2) dX12_standsAt_19 (by decide) ?_
  refine z_isub dX12_standsAt_20 ?_
  refine z_callVI dX12_standsAt_21 (M_X12_lengthAt _ _) bX12_lengthAt lX12_366 kc_70 rfl rfl (Nat.le_of_ble_eq_true rfl) (Nat.le_of_ble_eq_true rfl) (fun r5 h6 => ?_)
  refine z_putI fX12_339 kc_70 rfl dX12_standsAt_24 ?_
  refine z_lh (fun h7 => ?_)
  refine z_aload_n dX12_standsAt_27 0 rfl ?_
  refine z_iload_n dX12_standsAt_28 1 rfl ?_
  refine z_if_le (tgt := 43) dX12_standsAt_29 (by decide) ?_ ?_
  · refine z_iconst (v := -1) dX12_standsAt_43 (by decide) ?_
    refine z_putI fX12_342 kc_70 rfl dX12_standsAt_44 ?_
    refine z_lh (fun h8 => ?_)
    exact z_vret dX12_standsAt_47 rfl
  · refine z_aload_n dX12_standsAt_32 0 rfl ?_
    refine z_getR (j := 94) fX12_85 kc_70 rfl rfl rfl (by decide) dX12_standsAt_33 ?_
    refine z_iload_n dX12_standsAt_36 1 rfl ?_
    refine z_iconst (v := 1) dX12_standsAt_37 (by decide) ?_
    refine z_isub dX12_standsAt_38 ?_
    refine z_gd (fun g9 => ?_)
    refine z_iald kc_94 dX12_standsAt_39 g9 ?_
    refine z_goto (tgt := 44) dX12_standsAt_40 (by decide) ?_
    refine z_putI fX12_342 kc_70 rfl dX12_standsAt_44 ?_
    refine z_lh (fun h10 => ?_)
    exact z_vret dX12_standsAt_47 rfl
theorem M_X12_standsAt (x1 : Int32) (h : AHp) : MV QX12_standsAt 1 [.ref 70, .int x1] h (m_X12_standsAt x1 h) := MV.of (by decide) rfl rfl (Nat.le_of_ble_eq_true rfl) (w_X12_standsAt x1 h)
set_option maxHeartbeats 4000000 in
set_option maxRecDepth 100000 in
theorem w_X12_says (x1 : Int32) (x2 : Int32) (x3 : Int32) (h : AHp) : WO tvV QX12_says 0 0 [(0, .ref 70), (1, .int x1), (2, .int x2), (3, .int x3)] [] h (m_X12_says x1 x2 x3 h) := by
  unfold m_X12_says
  refine z_aload_n dX12_says_0 0 rfl ?_
  refine z_iload_n dX12_says_1 1 rfl ?_
  refine z_putI fX12_333 kc_70 rfl dX12_says_2 ?_
  refine z_lh (fun h1 => ?_)
  refine z_aload_n dX12_says_5 0 rfl ?_
  refine z_iload_n dX12_says_6 2 rfl ?_
  refine z_putI fX12_330 kc_70 rfl dX12_says_7 ?_
  refine z_lh (fun h2 => ?_)
  refine z_aload_n dX12_says_10 0 rfl ?_
  refine z_iload_n dX12_says_11 3 rfl ?_
  refine z_putI fX12_327 kc_70 rfl dX12_says_12 ?_
  refine z_lh (fun h3 => ?_)
  exact z_vret dX12_says_15 rfl
theorem M_X12_says (x1 : Int32) (x2 : Int32) (x3 : Int32) (h : AHp) : MV QX12_says 0 [.ref 70, .int x1, .int x2, .int x3] h (m_X12_says x1 x2 x3 h) := MV.of (by decide) rfl rfl (Nat.le_of_ble_eq_true rfl) (w_X12_says x1 x2 x3 h)
set_option maxHeartbeats 4000000 in
set_option maxRecDepth 100000 in
theorem w_X12_isSize (x0 : Int32) (h : AHp) : WO tvI QX12_isSize 1 0 [(0, .int x0)] [] h (m_X12_isSize x0 h) := by
  unfold m_X12_isSize
  refine z_iload_n dX12_isSize_0 0 rfl ?_
  refine z_i2l dX12_isSize_1 ?_
  refine z_lconst (v := 1) dX12_isSize_2 (by decide) ?_
  refine z_ldc2 dX12_isSize_3 kX12_369 ?_
  refine z_callSI dX12_isSize_6 (M_X12_lies _ _ _ _) bX12_lies lX12_181 rfl rfl (Nat.le_of_ble_eq_true rfl) (Nat.le_of_ble_eq_true rfl) (fun r1 h2 => ?_)
  refine z_gd (fun g3 => ?_)
  exact z_zret dX12_isSize_9 rfl g3
theorem M_X12_isSize (x0 : Int32) (h : AHp) : MI QX12_isSize 1 [.int x0] h (m_X12_isSize x0 h) := MI.of (by decide) rfl rfl (Nat.le_of_ble_eq_true rfl) (w_X12_isSize x0 h)
set_option maxHeartbeats 4000000 in
set_option maxRecDepth 100000 in
theorem w_X12_waysBy_54 (k6 : Int32 → Int32 → Int32 → Int32 → Int32 → AHp → Option (Int32 × AHp)) (hk6 : ∀ (x1 : Int32) (x2 : Int32) (x3 : Int32) (x4 : Int32) (x5 : Int32) (h : AHp), WO tvI QX12_waysBy 5 6 [(0, .ref 70), (1, .int x1), (2, .int x2), (3, .int x3), (4, .int x4), (5, .int x5)] [] h (k6 x1 x2 x3 x4 x5 h)) (x1 : Int32) (x2 : Int32) (x3 : Int32) (x4 : Int32) (x5 : Int32) (h : AHp) : WO tvI QX12_waysBy 5 54 [(0, .ref 70), (1, .int x1), (2, .int x2), (3, .int x3), (4, .int x4), (5, .int x5)] [] h (m_X12_waysBy_54 k6 x1 x2 x3 x4 x5 h) := by
  unfold m_X12_waysBy_54
  refine z_iload_n dX12_waysBy_54 1 rfl ?_
  refine z_iconst (v := 1) dX12_waysBy_55 (by decide) ?_
  refine z_callSI dX12_waysBy_56 (M_X12_has _ _ _) bX12_has lX12_187 rfl rfl (Nat.le_of_ble_eq_true rfl) (Nat.le_of_ble_eq_true rfl) (fun r1 h2 => ?_)
  refine z_if_eq (tgt := 70) dX12_waysBy_59 (by decide) ?_ ?_
  · refine z_iload dX12_waysBy_70 4 rfl ?_
    refine z_iconst (v := 1) dX12_waysBy_72 (by decide) ?_
    refine z_iload dX12_waysBy_73 5 rfl ?_
    refine z_ishl dX12_waysBy_75 ?_
    refine z_ior dX12_waysBy_76 ?_
    refine z_istoreL (lv2 := fun v3 => [(4, .int v3), (0, .ref 70), (1, .int x1), (2, .int x2), (3, .int x3), (5, .int x5)]) dX12_waysBy_77 (Nat.le_of_ble_eq_true rfl) (fun _ => rfl) (fun v3 => ?_)
    refine z_iincL (lv2 := fun v4 => [(5, .int v4), (4, .int v3), (0, .ref 70), (1, .int x1), (2, .int x2), (3, .int x3)]) dX12_waysBy_79 5 rfl rfl (Nat.le_of_ble_eq_true rfl) (fun _ => rfl) (fun v4 => ?_)
    refine z_goto (tgt := 6) dX12_waysBy_82 (by decide) ?_
    exact z_sub [2, 3, 4, 5, 1, 0] rfl (hk6 _ _ _ _ _ _)
  · refine z_aload_n dX12_waysBy_62 0 rfl ?_
    refine z_iconst (v := 1) dX12_waysBy_63 (by decide) ?_
    refine z_callVI dX12_waysBy_64 (M_X12_lets _ _) bX12_lets lX12_375 kc_70 rfl rfl (Nat.le_of_ble_eq_true rfl) (Nat.le_of_ble_eq_true rfl) (fun r5 h6 => ?_)
    refine z_if_eq (tgt := 79) dX12_waysBy_67 (by decide) ?_ ?_
    · refine z_iincL (lv2 := fun v7 => [(5, .int v7), (0, .ref 70), (1, .int x1), (2, .int x2), (3, .int x3), (4, .int x4)]) dX12_waysBy_79 5 rfl rfl (Nat.le_of_ble_eq_true rfl) (fun _ => rfl) (fun v7 => ?_)
      refine z_goto (tgt := 6) dX12_waysBy_82 (by decide) ?_
      exact z_sub [1, 2, 3, 4, 5, 0] rfl (hk6 _ _ _ _ _ _)
    · refine z_iload dX12_waysBy_70 4 rfl ?_
      refine z_iconst (v := 1) dX12_waysBy_72 (by decide) ?_
      refine z_iload dX12_waysBy_73 5 rfl ?_
      refine z_ishl dX12_waysBy_75 ?_
      refine z_ior dX12_waysBy_76 ?_
      refine z_istoreL (lv2 := fun v8 => [(4, .int v8), (0, .ref 70), (1, .int x1), (2, .int x2), (3, .int x3), (5, .int x5)]) dX12_waysBy_77 (Nat.le_of_ble_eq_true rfl) (fun _ => rfl) (fun v8 => ?_)
      refine z_iincL (lv2 := fun v9 => [(5, .int v9), (4, .int v8), (0, .ref 70), (1, .int x1), (2, .int x2), (3, .int x3)]) dX12_waysBy_79 5 rfl rfl (Nat.le_of_ble_eq_true rfl) (fun _ => rfl) (fun v9 => ?_)
      refine z_goto (tgt := 6) dX12_waysBy_82 (by decide) ?_
      exact z_sub [2, 3, 4, 5, 1, 0] rfl (hk6 _ _ _ _ _ _)
set_option maxHeartbeats 4000000 in
set_option maxRecDepth 100000 in
theorem w_X12_waysBy_6 : ∀ (f : Nat) (x1 : Int32) (x2 : Int32) (x3 : Int32) (x4 : Int32) (x5 : Int32) (h : AHp), WO tvI QX12_waysBy 5 6 [(0, .ref 70), (1, .int x1), (2, .int x2), (3, .int x3), (4, .int x4), (5, .int x5)] [] h (m_X12_waysBy_6 f x1 x2 x3 x4 x5 h) := by
  intro f
  induction f with
  | zero => intro x1 x2 x3 x4 x5 h; exact z_none
  | succ f ih =>
    intro x1 x2 x3 x4 x5 h
    rw [m_X12_waysBy_6]
    refine z_iload dX12_waysBy_6 5 rfl ?_
    refine z_bipush (v := 24) dX12_waysBy_8 (by decide) ?_
    refine z_ic_gt (tgt := 85) dX12_waysBy_10 (by decide) ?_ ?_
    · refine z_iload dX12_waysBy_85 4 rfl ?_
      exact z_iret dX12_waysBy_87 rfl
    · refine z_aload_n dX12_waysBy_13 0 rfl ?_
      refine z_getR (j := 72) fX12_17 kc_70 rfl rfl rfl (by decide) dX12_waysBy_14 ?_
      refine z_iload_n dX12_waysBy_17 3 rfl ?_
      refine z_gd (fun g10 => ?_)
      refine z_iald kc_72 dX12_waysBy_18 g10 ?_
      refine z_iload dX12_waysBy_19 5 rfl ?_
      refine z_callSI dX12_waysBy_21 (M_X12_has _ _ _) bX12_has lX12_187 rfl rfl (Nat.le_of_ble_eq_true rfl) (Nat.le_of_ble_eq_true rfl) (fun r11 h12 => ?_)
      refine z_if_ne (tgt := 30) dX12_waysBy_24 (by decide) ?_ ?_
      · refine z_aload_n dX12_waysBy_30 0 rfl ?_
        refine z_iload_n dX12_waysBy_31 2 rfl ?_
        refine z_iload_n dX12_waysBy_32 3 rfl ?_
        refine z_iload dX12_waysBy_33 5 rfl ?_
        refine z_callVV dX12_waysBy_35 (M_X12_says _ _ _ _) bX12_says lX12_371 kc_70 rfl rfl (Nat.le_of_ble_eq_true rfl) (Nat.le_of_ble_eq_true rfl) (fun r13 h14 => ?_)
        refine z_iload_n dX12_waysBy_38 1 rfl ?_
        refine z_iconst (v := 0) dX12_waysBy_39 (by decide) ?_
        refine z_callSI dX12_waysBy_40 (M_X12_has _ _ _) bX12_has lX12_187 rfl rfl (Nat.le_of_ble_eq_true rfl) (Nat.le_of_ble_eq_true rfl) (fun r15 h16 => ?_)
        refine z_if_eq (tgt := 54) dX12_waysBy_43 (by decide) ?_ ?_
        · exact w_X12_waysBy_54 _ ih _ _ _ _ _ _
        · refine z_aload_n dX12_waysBy_46 0 rfl ?_
          refine z_iconst (v := 0) dX12_waysBy_47 (by decide) ?_
          refine z_callVI dX12_waysBy_48 (M_X12_lets _ _) bX12_lets lX12_375 kc_70 rfl rfl (Nat.le_of_ble_eq_true rfl) (Nat.le_of_ble_eq_true rfl) (fun r17 h18 => ?_)
          refine z_if_eq (tgt := 79) dX12_waysBy_51 (by decide) ?_ ?_
          · refine z_iincL (lv2 := fun v19 => [(5, .int v19), (0, .ref 70), (1, .int x1), (2, .int x2), (3, .int x3), (4, .int x4)]) dX12_waysBy_79 5 rfl rfl (Nat.le_of_ble_eq_true rfl) (fun _ => rfl) (fun v19 => ?_)
            refine z_goto (tgt := 6) dX12_waysBy_82 (by decide) ?_
            exact z_sub [1, 2, 3, 4, 5, 0] rfl (ih _ _ _ _ _ _)
          · exact w_X12_waysBy_54 _ ih _ _ _ _ _ _
      · refine z_goto (tgt := 79) dX12_waysBy_27 (by decide) ?_
        refine z_iincL (lv2 := fun v20 => [(5, .int v20), (0, .ref 70), (1, .int x1), (2, .int x2), (3, .int x3), (4, .int x4)]) dX12_waysBy_79 5 rfl rfl (Nat.le_of_ble_eq_true rfl) (fun _ => rfl) (fun v20 => ?_)
        refine z_goto (tgt := 6) dX12_waysBy_82 (by decide) ?_
        exact z_sub [1, 2, 3, 4, 5, 0] rfl (ih _ _ _ _ _ _)
set_option maxHeartbeats 4000000 in
set_option maxRecDepth 100000 in
theorem w_X12_waysBy (x1 : Int32) (x2 : Int32) (x3 : Int32) (h : AHp) : WO tvI QX12_waysBy 5 0 [(0, .ref 70), (1, .int x1), (2, .int x2), (3, .int x3)] [] h (m_X12_waysBy x1 x2 x3 h) := by
  unfold m_X12_waysBy
  refine z_iconst (v := 0) dX12_waysBy_0 (by decide) ?_
  refine z_istore (lv2 := [(4, .int 0), (0, .ref 70), (1, .int x1), (2, .int x2), (3, .int x3)]) dX12_waysBy_1 (Nat.le_of_ble_eq_true rfl) rfl ?_
  refine z_iconst (v := 1) dX12_waysBy_3 (by decide) ?_
  refine z_istore (lv2 := [(5, .int 1), (4, .int 0), (0, .ref 70), (1, .int x1), (2, .int x2), (3, .int x3)]) dX12_waysBy_4 (Nat.le_of_ble_eq_true rfl) rfl ?_
  exact z_sub [2, 3, 4, 5, 1, 0] rfl (w_X12_waysBy_6 FU _ _ _ _ _ _)
theorem M_X12_waysBy (x1 : Int32) (x2 : Int32) (x3 : Int32) (h : AHp) : MI QX12_waysBy 5 [.ref 70, .int x1, .int x2, .int x3] h (m_X12_waysBy x1 x2 x3 h) := MI.of (by decide) rfl rfl (Nat.le_of_ble_eq_true rfl) (w_X12_waysBy x1 x2 x3 h)
set_option maxHeartbeats 4000000 in
set_option maxRecDepth 100000 in
theorem w_X12_colour (x1 : Int32) (x2 : Int32) (h : AHp) : WO tvI QX12_colour 2 0 [(0, .ref 70), (1, .int x1), (2, .int x2)] [] h (m_X12_colour x1 x2 h) := by
  unfold m_X12_colour
  refine z_iload_n dX12_colour_0 1 rfl ?_
  refine z_callSI dX12_colour_1 (M_X12_isSpeaker _ _) bX12_isSpeaker lX12_378 rfl rfl (Nat.le_of_ble_eq_true rfl) (Nat.le_of_ble_eq_true rfl) (fun r1 h2 => ?_)
  refine z_if_eq (tgt := 19) dX12_colour_4 (by decide) ?_ ?_
  · refine z_iconst (v := 0) dX12_colour_19 (by decide) ?_
    exact z_zret dX12_colour_20 rfl (Or.inl rfl)
  · refine z_iload_n dX12_colour_7 2 rfl ?_
    refine z_i2l dX12_colour_8 ?_
    refine z_lconst (v := 0) dX12_colour_9 (by decide) ?_
    refine z_ldc2 dX12_colour_10 kX12_381 ?_
    refine z_callSI dX12_colour_13 (M_X12_lies _ _ _ _) bX12_lies lX12_181 rfl rfl (Nat.le_of_ble_eq_true rfl) (Nat.le_of_ble_eq_true rfl) (fun r3 h4 => ?_)
    refine z_if_ne (tgt := 21) dX12_colour_16 (by decide) ?_ ?_
    · refine z_aload_n dX12_colour_21 0 rfl ?_
      refine z_getR (j := 91) fX12_76 kc_70 rfl rfl rfl (by decide) dX12_colour_22 ?_
      refine z_iload_n dX12_colour_25 1 rfl ?_
      refine z_iload_n dX12_colour_26 2 rfl ?_
      refine z_gd (fun g6 => ?_)
      refine z_iast kc_91 dX12_colour_27 g6 ?_
      refine z_lh (fun h5 => ?_)
      refine z_iconst (v := 1) dX12_colour_28 (by decide) ?_
      exact z_zret dX12_colour_29 rfl (Or.inr rfl)
    · refine z_iconst (v := 0) dX12_colour_19 (by decide) ?_
      exact z_zret dX12_colour_20 rfl (Or.inl rfl)
theorem M_X12_colour (x1 : Int32) (x2 : Int32) (h : AHp) : MI QX12_colour 2 [.ref 70, .int x1, .int x2] h (m_X12_colour x1 x2 h) := MI.of (by decide) rfl rfl (Nat.le_of_ble_eq_true rfl) (w_X12_colour x1 x2 h)
set_option maxHeartbeats 4000000 in
set_option maxRecDepth 100000 in
theorem w_X12_may (x1 : Int32) (x2 : Int32) (x3 : Int32) (x4 : Int32) (h : AHp) : WO tvI QX12_may 5 0 [(0, .ref 70), (1, .int x1), (2, .int x2), (3, .int x3), (4, .int x4)] [] h (m_X12_may x1 x2 x3 x4 h) := by
  unfold m_X12_may
  refine z_iload_n dX12_may_0 1 rfl ?_
  refine z_callSI dX12_may_1 (M_X12_isLaw _ _) bX12_isLaw lX12_319 rfl rfl (Nat.le_of_ble_eq_true rfl) (Nat.le_of_ble_eq_true rfl) (fun r1 h2 => ?_)
  refine z_if_eq (tgt := 21) dX12_may_4 (by decide) ?_ ?_
  · refine z_iconst (v := -1) dX12_may_21 (by decide) ?_
    exact z_iret dX12_may_22 rfl
  · refine z_iload_n dX12_may_7 2 rfl ?_
    refine z_callSI dX12_may_8 (M_X12_isSpeaker _ _) bX12_isSpeaker lX12_378 rfl rfl (Nat.le_of_ble_eq_true rfl) (Nat.le_of_ble_eq_true rfl) (fun r3 h4 => ?_)
    refine z_if_eq (tgt := 21) dX12_may_11 (by decide) ?_ ?_
    · refine z_iconst (v := -1) dX12_may_21 (by decide) ?_
      exact z_iret dX12_may_22 rfl
    · refine z_iload_n dX12_may_14 3 rfl ?_
      refine z_callSI dX12_may_15 (M_X12_isThing _ _) bX12_isThing lX12_229 rfl rfl (Nat.le_of_ble_eq_true rfl) (Nat.le_of_ble_eq_true rfl) (fun r5 h6 => ?_)
      refine z_if_ne (tgt := 23) dX12_may_18 (by decide) ?_ ?_
      · refine z_iload dX12_may_23 4 rfl ?_
        refine z_callSI dX12_may_25 (M_X12_isSize _ _) bX12_isSize lX12_383 rfl rfl (Nat.le_of_ble_eq_true rfl) (Nat.le_of_ble_eq_true rfl) (fun r7 h8 => ?_)
        refine z_if_eq (tgt := 45) dX12_may_28 (by decide) ?_ ?_
        · refine z_bipush (v := -2) dX12_may_45 (by decide) ?_
          exact z_iret dX12_may_47 rfl
        · refine z_aload_n dX12_may_31 0 rfl ?_
          refine z_getR (j := 72) fX12_17 kc_70 rfl rfl rfl (by decide) dX12_may_32 ?_
          refine z_iload_n dX12_may_35 3 rfl ?_
          refine z_gd (fun g9 => ?_)
          refine z_iald kc_72 dX12_may_36 g9 ?_
          refine z_iload dX12_may_37 4 rfl ?_
          refine z_callSI dX12_may_39 (M_X12_has _ _ _) bX12_has lX12_187 rfl rfl (Nat.le_of_ble_eq_true rfl) (Nat.le_of_ble_eq_true rfl) (fun r10 h11 => ?_)
          refine z_if_ne (tgt := 48) dX12_may_42 (by decide) ?_ ?_
          · refine z_aload_n dX12_may_48 0 rfl ?_
            refine z_aload_n dX12_may_49 0 rfl ?_
            refine z_getI fX12_386 kc_70 rfl dX12_may_50 ?_
            refine z_callVV dX12_may_53 (M_X12_standsAt _ _) bX12_standsAt lX12_389 kc_70 rfl rfl (Nat.le_of_ble_eq_true rfl) (Nat.le_of_ble_eq_true rfl) (fun r12 h13 => ?_)
            refine z_aload_n dX12_may_56 0 rfl ?_
            refine z_iload_n dX12_may_57 2 rfl ?_
            refine z_iload_n dX12_may_58 3 rfl ?_
            refine z_iload dX12_may_59 4 rfl ?_
            refine z_callVV dX12_may_61 (M_X12_says _ _ _ _) bX12_says lX12_371 kc_70 rfl rfl (Nat.le_of_ble_eq_true rfl) (Nat.le_of_ble_eq_true rfl) (fun r14 h15 => ?_)
            refine z_aload_n dX12_may_64 0 rfl ?_
            refine z_iload_n dX12_may_65 1 rfl ?_
            refine z_callVI dX12_may_66 (M_X12_lets _ _) bX12_lets lX12_375 kc_70 rfl rfl (Nat.le_of_ble_eq_true rfl) (Nat.le_of_ble_eq_true rfl) (fun r16 h17 => ?_)
            refine z_if_eq (tgt := 76) dX12_may_69 (by decide) ?_ ?_
            · refine z_iconst (v := 0) dX12_may_76 (by decide) ?_
              exact z_iret dX12_may_77 rfl
            · refine z_iconst (v := 1) dX12_may_72 (by decide) ?_
              refine z_goto (tgt := 77) dX12_may_73 (by decide) ?_
              exact z_iret dX12_may_77 rfl
          · refine z_bipush (v := -2) dX12_may_45 (by decide) ?_
            exact z_iret dX12_may_47 rfl
      · refine z_iconst (v := -1) dX12_may_21 (by decide) ?_
        exact z_iret dX12_may_22 rfl
theorem M_X12_may (x1 : Int32) (x2 : Int32) (x3 : Int32) (x4 : Int32) (h : AHp) : MI QX12_may 5 [.ref 70, .int x1, .int x2, .int x3, .int x4] h (m_X12_may x1 x2 x3 x4 h) := MI.of (by decide) rfl rfl (Nat.le_of_ble_eq_true rfl) (w_X12_may x1 x2 x3 x4 h)
set_option maxHeartbeats 4000000 in
set_option maxRecDepth 100000 in
theorem w_X12_ways (x1 : Int32) (x2 : Int32) (x3 : Int32) (h : AHp) : WO tvI QX12_ways 6 0 [(0, .ref 70), (1, .int x1), (2, .int x2), (3, .int x3)] [] h (m_X12_ways x1 x2 x3 h) := by
  unfold m_X12_ways
  refine z_iload_n dX12_ways_0 1 rfl ?_
  refine z_callSI dX12_ways_1 (M_X12_isLaw _ _) bX12_isLaw lX12_319 rfl rfl (Nat.le_of_ble_eq_true rfl) (Nat.le_of_ble_eq_true rfl) (fun r1 h2 => ?_)
  refine z_if_eq (tgt := 21) dX12_ways_4 (by decide) ?_ ?_
  · refine z_iconst (v := -1) dX12_ways_21 (by decide) ?_
    exact z_iret dX12_ways_22 rfl
  · refine z_iload_n dX12_ways_7 2 rfl ?_
    refine z_callSI dX12_ways_8 (M_X12_isSpeaker _ _) bX12_isSpeaker lX12_378 rfl rfl (Nat.le_of_ble_eq_true rfl) (Nat.le_of_ble_eq_true rfl) (fun r3 h4 => ?_)
    refine z_if_eq (tgt := 21) dX12_ways_11 (by decide) ?_ ?_
    · refine z_iconst (v := -1) dX12_ways_21 (by decide) ?_
      exact z_iret dX12_ways_22 rfl
    · refine z_iload_n dX12_ways_14 3 rfl ?_
      refine z_callSI dX12_ways_15 (M_X12_isThing _ _) bX12_isThing lX12_229 rfl rfl (Nat.le_of_ble_eq_true rfl) (Nat.le_of_ble_eq_true rfl) (fun r5 h6 => ?_)
      refine z_if_ne (tgt := 23) dX12_ways_18 (by decide) ?_ ?_
      · refine z_aload_n dX12_ways_23 0 rfl ?_
        refine z_aload_n dX12_ways_24 0 rfl ?_
        refine z_getI fX12_386 kc_70 rfl dX12_ways_25 ?_
        refine z_callVV dX12_ways_28 (M_X12_standsAt _ _) bX12_standsAt lX12_389 kc_70 rfl rfl (Nat.le_of_ble_eq_true rfl) (Nat.le_of_ble_eq_true rfl) (fun r7 h8 => ?_)
        refine z_aload_n dX12_ways_31 0 rfl ?_
        refine z_iconst (v := 1) dX12_ways_32 (by decide) ?_
        refine z_iload_n dX12_ways_33 1 rfl ?_
        refine z_ishl dX12_ways_34 ?_
        refine z_iload_n dX12_ways_35 2 rfl ?_
        refine z_iload_n dX12_ways_36 3 rfl ?_
        refine z_callVI dX12_ways_37 (M_X12_waysBy _ _ _ _) bX12_waysBy lX12_392 kc_70 rfl rfl (Nat.le_of_ble_eq_true rfl) (Nat.le_of_ble_eq_true rfl) (fun r9 h10 => ?_)
        exact z_iret dX12_ways_40 rfl
      · refine z_iconst (v := -1) dX12_ways_21 (by decide) ?_
        exact z_iret dX12_ways_22 rfl
theorem M_X12_ways (x1 : Int32) (x2 : Int32) (x3 : Int32) (h : AHp) : MI QX12_ways 6 [.ref 70, .int x1, .int x2, .int x3] h (m_X12_ways x1 x2 x3 h) := MI.of (by decide) rfl rfl (Nat.le_of_ble_eq_true rfl) (w_X12_ways x1 x2 x3 h)
set_option maxHeartbeats 4000000 in
set_option maxRecDepth 100000 in
theorem w_X12_isSaid (x1 : Int32) (x2 : Int32) (x3 : Int32) (h : AHp) : WO tvV QX12_isSaid 0 0 [(0, .ref 70), (1, .int x1), (2, .int x2), (3, .int x3)] [] h (m_X12_isSaid x1 x2 x3 h) := by
  unfold m_X12_isSaid
  refine z_aload_n dX12_isSaid_0 0 rfl ?_
  refine z_getR (j := 94) fX12_85 kc_70 rfl rfl rfl (by decide) dX12_isSaid_1 ?_
  refine z_aload_n dX12_isSaid_4 0 rfl ?_
  refine z_getI fX12_386 kc_70 rfl dX12_isSaid_5 ?_
  refine z_iload_n dX12_isSaid_8 1 rfl ?_
  refine z_gd (fun g2 => ?_)
  refine z_iast kc_94 dX12_isSaid_9 g2 ?_
  refine z_lh (fun h1 => ?_)
  refine z_aload_n dX12_isSaid_10 0 rfl ?_
  refine z_getR (j := 95) fX12_88 kc_70 rfl rfl rfl (by decide) dX12_isSaid_11 ?_
  refine z_aload_n dX12_isSaid_14 0 rfl ?_
  refine z_getI fX12_386 kc_70 rfl dX12_isSaid_15 ?_
  refine z_iload_n dX12_isSaid_18 2 rfl ?_
  refine z_gd (fun g4 => ?_)
  refine z_iast kc_95 dX12_isSaid_19 g4 ?_
  refine z_lh (fun h3 => ?_)
  refine z_aload_n dX12_isSaid_20 0 rfl ?_
  refine z_getR (j := 96) fX12_91 kc_70 rfl rfl rfl (by decide) dX12_isSaid_21 ?_
  refine z_aload_n dX12_isSaid_24 0 rfl ?_
  refine z_getI fX12_386 kc_70 rfl dX12_isSaid_25 ?_
  refine z_iload_n dX12_isSaid_28 3 rfl ?_
  refine z_gd (fun g6 => ?_)
  refine z_iast kc_96 dX12_isSaid_29 g6 ?_
  refine z_lh (fun h5 => ?_)
  refine z_aload_n dX12_isSaid_30 0 rfl ?_
  refine z_dup dX12_isSaid_31 rfl ?_
  refine z_getI fX12_386 kc_70 rfl dX12_isSaid_32 ?_
  refine z_iconst (v := 1) dX12_isSaid_35 (by decide) ?_
  refine z_iadd dX12_isSaid_36 ?_
  refine z_putI fX12_386 kc_70 rfl dX12_isSaid_37 ?_
  refine z_lh (fun h7 => ?_)
  exact z_vret dX12_isSaid_40 rfl
theorem M_X12_isSaid (x1 : Int32) (x2 : Int32) (x3 : Int32) (h : AHp) : MV QX12_isSaid 0 [.ref 70, .int x1, .int x2, .int x3] h (m_X12_isSaid x1 x2 x3 h) := MV.of (by decide) rfl rfl (Nat.le_of_ble_eq_true rfl) (w_X12_isSaid x1 x2 x3 h)
set_option maxHeartbeats 4000000 in
set_option maxRecDepth 100000 in
theorem w_X12_say (x1 : Int32) (x2 : Int32) (x3 : Int32) (h : AHp) : WO tvI QX12_say 5 0 [(0, .ref 70), (1, .int x1), (2, .int x2), (3, .int x3)] [] h (m_X12_say x1 x2 x3 h) := by
  unfold m_X12_say
  refine z_iload_n dX12_say_0 1 rfl ?_
  refine z_callSI dX12_say_1 (M_X12_isSpeaker _ _) bX12_isSpeaker lX12_378 rfl rfl (Nat.le_of_ble_eq_true rfl) (Nat.le_of_ble_eq_true rfl) (fun r1 h2 => ?_)
  refine z_if_eq (tgt := 24) dX12_say_4 (by decide) ?_ ?_
  · refine z_iconst (v := -1) dX12_say_24 (by decide) ?_
    exact z_iret dX12_say_25 rfl
  · refine z_iload_n dX12_say_7 2 rfl ?_
    refine z_callSI dX12_say_8 (M_X12_isThing _ _) bX12_isThing lX12_229 rfl rfl (Nat.le_of_ble_eq_true rfl) (Nat.le_of_ble_eq_true rfl) (fun r3 h4 => ?_)
    refine z_if_eq (tgt := 24) dX12_say_11 (by decide) ?_ ?_
    · refine z_iconst (v := -1) dX12_say_24 (by decide) ?_
      exact z_iret dX12_say_25 rfl
    · refine z_aload_n dX12_say_14 0 rfl ?_
      refine z_getI fX12_386 kc_70 rfl dX12_say_15 ?_
      refine z_sipush (v := 200) dX12_say_18 (by decide) ?_
      refine z_ic_ne (tgt := 26) dX12_say_21 (by decide) ?_ ?_
      · refine z_iload_n dX12_say_26 3 rfl ?_
        refine z_callSI dX12_say_27 (M_X12_isSize _ _) bX12_isSize lX12_383 rfl rfl (Nat.le_of_ble_eq_true rfl) (Nat.le_of_ble_eq_true rfl) (fun r5 h6 => ?_)
        refine z_if_eq (tgt := 46) dX12_say_30 (by decide) ?_ ?_
        · refine z_bipush (v := -2) dX12_say_46 (by decide) ?_
          exact z_iret dX12_say_48 rfl
        · refine z_aload_n dX12_say_33 0 rfl ?_
          refine z_getR (j := 72) fX12_17 kc_70 rfl rfl rfl (by decide) dX12_say_34 ?_
          refine z_iload_n dX12_say_37 2 rfl ?_
          refine z_gd (fun g7 => ?_)
          refine z_iald kc_72 dX12_say_38 g7 ?_
          refine z_iload_n dX12_say_39 3 rfl ?_
          refine z_callSI dX12_say_40 (M_X12_has _ _ _) bX12_has lX12_187 rfl rfl (Nat.le_of_ble_eq_true rfl) (Nat.le_of_ble_eq_true rfl) (fun r8 h9 => ?_)
          refine z_if_ne (tgt := 49) dX12_say_43 (by decide) ?_ ?_
          · refine z_aload_n dX12_say_49 0 rfl ?_
            refine z_aload_n dX12_say_50 0 rfl ?_
            refine z_getI fX12_386 kc_70 rfl dX12_say_51 ?_
            refine z_callVV dX12_say_54 (M_X12_standsAt _ _) bX12_standsAt lX12_389 kc_70 rfl rfl (Nat.le_of_ble_eq_true rfl) (Nat.le_of_ble_eq_true rfl) (fun r10 h11 => ?_)
            refine z_aload_n dX12_say_57 0 rfl ?_
            refine z_iload_n dX12_say_58 1 rfl ?_
            refine z_iload_n dX12_say_59 2 rfl ?_
            refine z_iload_n dX12_say_60 3 rfl ?_
            refine z_callVV dX12_say_61 (M_X12_says _ _ _ _) bX12_says lX12_371 kc_70 rfl rfl (Nat.le_of_ble_eq_true rfl) (Nat.le_of_ble_eq_true rfl) (fun r12 h13 => ?_)
            refine z_aload_n dX12_say_64 0 rfl ?_
            refine z_iconst (v := 0) dX12_say_65 (by decide) ?_
            refine z_callVI dX12_say_66 (M_X12_lets _ _) bX12_lets lX12_375 kc_70 rfl rfl (Nat.le_of_ble_eq_true rfl) (Nat.le_of_ble_eq_true rfl) (fun r14 h15 => ?_)
            refine z_if_ne (tgt := 75) dX12_say_69 (by decide) ?_ ?_
            · refine z_aload_n dX12_say_75 0 rfl ?_
              refine z_iload_n dX12_say_76 1 rfl ?_
              refine z_iload_n dX12_say_77 2 rfl ?_
              refine z_iload_n dX12_say_78 3 rfl ?_
              refine z_callVV dX12_say_79 (M_X12_isSaid _ _ _ _) bX12_isSaid lX12_395 kc_70 rfl rfl (Nat.le_of_ble_eq_true rfl) (Nat.le_of_ble_eq_true rfl) (fun r16 h17 => ?_)
              refine z_aload_n dX12_say_82 0 rfl ?_
              refine z_getI fX12_386 kc_70 rfl dX12_say_83 ?_
              exact z_iret dX12_say_86 rfl
            · refine z_bipush (v := -3) dX12_say_72 (by decide) ?_
              exact z_iret dX12_say_74 rfl
          · refine z_bipush (v := -2) dX12_say_46 (by decide) ?_
            exact z_iret dX12_say_48 rfl
      · refine z_iconst (v := -1) dX12_say_24 (by decide) ?_
        exact z_iret dX12_say_25 rfl
theorem M_X12_say (x1 : Int32) (x2 : Int32) (x3 : Int32) (h : AHp) : MI QX12_say 5 [.ref 70, .int x1, .int x2, .int x3] h (m_X12_say x1 x2 x3 h) := MI.of (by decide) rfl rfl (Nat.le_of_ble_eq_true rfl) (w_X12_say x1 x2 x3 h)
set_option maxHeartbeats 4000000 in
set_option maxRecDepth 100000 in
theorem w_X12_paidFor (x1 : Int32) (h : AHp) : WO tvI QX12_paidFor 5 0 [(0, .ref 70), (1, .int x1)] [] h (m_X12_paidFor x1 h) := by
  unfold m_X12_paidFor
  refine z_aload_n dX12_paidFor_0 0 rfl ?_
  refine z_iload_n dX12_paidFor_1 1 rfl ?_
  refine z_callVV dX12_paidFor_2 (M_X12_standsAt _ _) bX12_standsAt lX12_389 kc_70 rfl rfl (Nat.le_of_ble_eq_true rfl) (Nat.le_of_ble_eq_true rfl) (fun r1 h2 => ?_)
  refine z_aload_n dX12_paidFor_5 0 rfl ?_
  refine z_aload_n dX12_paidFor_6 0 rfl ?_
  refine z_getR (j := 94) fX12_85 kc_70 rfl rfl rfl (by decide) dX12_paidFor_7 ?_
  refine z_iload_n dX12_paidFor_10 1 rfl ?_
  refine z_gd (fun g3 => ?_)
  refine z_iald kc_94 dX12_paidFor_11 g3 ?_
  refine z_aload_n dX12_paidFor_12 0 rfl ?_
  refine z_getR (j := 95) fX12_88 kc_70 rfl rfl rfl (by decide) dX12_paidFor_13 ?_
  refine z_iload_n dX12_paidFor_16 1 rfl ?_
  refine z_gd (fun g4 => ?_)
  refine z_iald kc_95 dX12_paidFor_17 g4 ?_
  refine z_aload_n dX12_paidFor_18 0 rfl ?_
  refine z_getR (j := 96) fX12_91 kc_70 rfl rfl rfl (by decide) dX12_paidFor_19 ?_
  refine z_iload_n dX12_paidFor_22 1 rfl ?_
  refine z_gd (fun g5 => ?_)
  refine z_iald kc_96 dX12_paidFor_23 g5 ?_
  refine z_callVV dX12_paidFor_24 (M_X12_says _ _ _ _) bX12_says lX12_371 kc_70 rfl rfl (Nat.le_of_ble_eq_true rfl) (Nat.le_of_ble_eq_true rfl) (fun r6 h7 => ?_)
  refine z_aload_n dX12_paidFor_27 0 rfl ?_
  refine z_callVI dX12_paidFor_28 (M_X12_pays _) bX12_pays lX12_398 kc_70 rfl rfl (Nat.le_of_ble_eq_true rfl) (Nat.le_of_ble_eq_true rfl) (fun r8 h9 => ?_)
  exact z_iret dX12_paidFor_31 rfl
theorem M_X12_paidFor (x1 : Int32) (h : AHp) : MI QX12_paidFor 5 [.ref 70, .int x1] h (m_X12_paidFor x1 h) := MI.of (by decide) rfl rfl (Nat.le_of_ble_eq_true rfl) (w_X12_paidFor x1 h)
set_option maxHeartbeats 4000000 in
set_option maxRecDepth 100000 in
theorem w_X12_said (x1 : Int32) (x2 : Int32) (h : AHp) : WO tvI QX12_said 6 0 [(0, .ref 70), (1, .int x1), (2, .int x2)] [] h (m_X12_said x1 x2 h) := by
  unfold m_X12_said
  refine z_iload_n dX12_said_0 1 rfl ?_
  refine z_i2l dX12_said_1 ?_
  refine z_lconst (v := 0) dX12_said_2 (by decide) ?_
  refine z_aload_n dX12_said_3 0 rfl ?_
  refine z_getI fX12_386 kc_70 rfl dX12_said_4 ?_
  refine z_iconst (v := 1) dX12_said_7 (by decide) ?_
  refine z_isub dX12_said_8 ?_
  refine z_i2l dX12_said_9 ?_
  refine z_callSI dX12_said_10 (M_X12_lies _ _ _ _) bX12_lies lX12_181 rfl rfl (Nat.le_of_ble_eq_true rfl) (Nat.le_of_ble_eq_true rfl) (fun r1 h2 => ?_)
  refine z_if_ne (tgt := 18) dX12_said_13 (by decide) ?_ ?_
  · refine z_iload_n dX12_said_18 2 rfl ?_
    refine z_ite (fun c3 => ?_) (fun c3 => ?_)
    · refine z_tin (tgt := 48) (off := 29) dX12_said_19 (by rw [c3]; decide) (by rw [c3]; decide) (by rw [c3]; decide) (by decide) ?_
      refine z_aload_n dX12_said_48 0 rfl ?_
      refine z_getR (j := 94) fX12_85 kc_70 rfl rfl rfl (by decide) dX12_said_49 ?_
      refine z_iload_n dX12_said_52 1 rfl ?_
      refine z_gd (fun g4 => ?_)
      refine z_iald kc_94 dX12_said_53 g4 ?_
      exact z_iret dX12_said_54 rfl
    · refine z_ite (fun c5 => ?_) (fun c5 => ?_)
      · refine z_tin (tgt := 55) (off := 36) dX12_said_19 (by rw [c5]; decide) (by rw [c5]; decide) (by rw [c5]; decide) (by decide) ?_
        refine z_aload_n dX12_said_55 0 rfl ?_
        refine z_getR (j := 95) fX12_88 kc_70 rfl rfl rfl (by decide) dX12_said_56 ?_
        refine z_iload_n dX12_said_59 1 rfl ?_
        refine z_gd (fun g6 => ?_)
        refine z_iald kc_95 dX12_said_60 g6 ?_
        exact z_iret dX12_said_61 rfl
      · refine z_ite (fun c7 => ?_) (fun c7 => ?_)
        · refine z_tin (tgt := 62) (off := 43) dX12_said_19 (by rw [c7]; decide) (by rw [c7]; decide) (by rw [c7]; decide) (by decide) ?_
          refine z_aload_n dX12_said_62 0 rfl ?_
          refine z_getR (j := 96) fX12_91 kc_70 rfl rfl rfl (by decide) dX12_said_63 ?_
          refine z_iload_n dX12_said_66 1 rfl ?_
          refine z_gd (fun g8 => ?_)
          refine z_iald kc_96 dX12_said_67 g8 ?_
          exact z_iret dX12_said_68 rfl
        · refine z_ite (fun c9 => ?_) (fun c9 => ?_)
          · refine z_tin (tgt := 69) (off := 50) dX12_said_19 (by rw [c9]; decide) (by rw [c9]; decide) (by rw [c9]; decide) (by decide) ?_
            refine z_aload_n dX12_said_69 0 rfl ?_
            refine z_iload_n dX12_said_70 1 rfl ?_
            refine z_callVI dX12_said_71 (M_X12_paidFor _ _) bX12_paidFor lX12_401 kc_70 rfl rfl (Nat.le_of_ble_eq_true rfl) (Nat.le_of_ble_eq_true rfl) (fun r10 h11 => ?_)
            exact z_iret dX12_said_74 rfl
          · refine z_tout (tgt := 75) dX12_said_19 (by have a0 := n32 (k := 0) c3 rfl; have a1 := n32 (k := 1) c5 rfl; have a2 := n32 (k := 2) c7 rfl; have a3 := n32 (k := 3) c9 rfl; omega) (by decide) ?_
            refine z_iconst (v := -1) dX12_said_75 (by decide) ?_
            exact z_iret dX12_said_76 rfl
  · refine z_iconst (v := -1) dX12_said_16 (by decide) ?_
    exact z_iret dX12_said_17 rfl
theorem M_X12_said (x1 : Int32) (x2 : Int32) (h : AHp) : MI QX12_said 6 [.ref 70, .int x1, .int x2] h (m_X12_said x1 x2 h) := MI.of (by decide) rfl rfl (Nat.le_of_ble_eq_true rfl) (w_X12_said x1 x2 h)
set_option maxHeartbeats 4000000 in
set_option maxRecDepth 100000 in
theorem w_X12_paid_13 : ∀ (f : Nat) (x1 : Int32) (x2 : Int32) (x3 : Int32) (h : AHp), WO tvI QX12_paid 6 13 [(0, .ref 70), (1, .int x1), (2, .int x2), (3, .int x3)] [] h (m_X12_paid_13 f x1 x2 x3 h) := by
  intro f
  induction f with
  | zero => intro x1 x2 x3 h; exact z_none
  | succ f ih =>
    intro x1 x2 x3 h
    rw [m_X12_paid_13]
    refine z_iload_n dX12_paid_13 3 rfl ?_
    refine z_aload_n dX12_paid_14 0 rfl ?_
    refine z_getI fX12_386 kc_70 rfl dX12_paid_15 ?_
    refine z_ic_ge (tgt := 49) dX12_paid_18 (by decide) ?_ ?_
    · refine z_iload_n dX12_paid_49 2 rfl ?_
      exact z_iret dX12_paid_50 rfl
    · refine z_iload_n dX12_paid_21 2 rfl ?_
      refine z_aload_n dX12_paid_22 0 rfl ?_
      refine z_getR (j := 94) fX12_85 kc_70 rfl rfl rfl (by decide) dX12_paid_23 ?_
      refine z_iload_n dX12_paid_26 3 rfl ?_
      refine z_gd (fun g1 => ?_)
      refine z_iald kc_94 dX12_paid_27 g1 ?_
      refine z_iload_n dX12_paid_28 1 rfl ?_
      refine z_ic_ne (tgt := 40) dX12_paid_29 (by decide) ?_ ?_
      · refine z_iconst (v := 0) dX12_paid_40 (by decide) ?_
        refine z_iadd dX12_paid_41 ?_
        refine z_istore_nL (lv2 := fun v2 => [(2, .int v2), (0, .ref 70), (1, .int x1), (3, .int x3)]) dX12_paid_42 (Nat.le_of_ble_eq_true rfl) (fun _ => rfl) (fun v2 => ?_)
        refine z_iincL (lv2 := fun v3 => [(3, .int v3), (2, .int v2), (0, .ref 70), (1, .int x1)]) dX12_paid_43 3 rfl rfl (Nat.le_of_ble_eq_true rfl) (fun _ => rfl) (fun v3 => ?_)
        refine z_goto (tgt := 13) dX12_paid_46 (by decide) ?_
        exact z_sub [2, 3, 1, 0] rfl (ih _ _ _ _)
      · refine z_aload_n dX12_paid_32 0 rfl ?_
        refine z_iload_n dX12_paid_33 3 rfl ?_
        refine z_callVI dX12_paid_34 (M_X12_paidFor _ _) bX12_paidFor lX12_401 kc_70 rfl rfl (Nat.le_of_ble_eq_true rfl) (Nat.le_of_ble_eq_true rfl) (fun r4 h5 => ?_)
        refine z_goto (tgt := 41) dX12_paid_37 (by decide) ?_
        refine z_iadd dX12_paid_41 ?_
        refine z_istore_nL (lv2 := fun v6 => [(2, .int v6), (0, .ref 70), (1, .int x1), (3, .int x3)]) dX12_paid_42 (Nat.le_of_ble_eq_true rfl) (fun _ => rfl) (fun v6 => ?_)
        refine z_iincL (lv2 := fun v7 => [(3, .int v7), (2, .int v6), (0, .ref 70), (1, .int x1)]) dX12_paid_43 3 rfl rfl (Nat.le_of_ble_eq_true rfl) (fun _ => rfl) (fun v7 => ?_)
        refine z_goto (tgt := 13) dX12_paid_46 (by decide) ?_
        exact z_sub [2, 3, 1, 0] rfl (ih _ _ _ _)
set_option maxHeartbeats 4000000 in
set_option maxRecDepth 100000 in
theorem w_X12_paid (x1 : Int32) (h : AHp) : WO tvI QX12_paid 6 0 [(0, .ref 70), (1, .int x1)] [] h (m_X12_paid x1 h) := by
  unfold m_X12_paid
  refine z_iload_n dX12_paid_0 1 rfl ?_
  refine z_callSI dX12_paid_1 (M_X12_isSpeaker _ _) bX12_isSpeaker lX12_378 rfl rfl (Nat.le_of_ble_eq_true rfl) (Nat.le_of_ble_eq_true rfl) (fun r8 h9 => ?_)
  refine z_if_ne (tgt := 9) dX12_paid_4 (by decide) ?_ ?_
  · refine z_iconst (v := 0) dX12_paid_9 (by decide) ?_
    refine z_istore_n (lv2 := [(2, .int 0), (0, .ref 70), (1, .int x1)]) dX12_paid_10 (Nat.le_of_ble_eq_true rfl) rfl ?_
    refine z_iconst (v := 0) dX12_paid_11 (by decide) ?_
    refine z_istore_n (lv2 := [(3, .int 0), (2, .int 0), (0, .ref 70), (1, .int x1)]) dX12_paid_12 (Nat.le_of_ble_eq_true rfl) rfl ?_
    exact z_sub [2, 3, 1, 0] rfl (w_X12_paid_13 FU _ _ _ _)
  · refine z_iconst (v := -1) dX12_paid_7 (by decide) ?_
    exact z_iret dX12_paid_8 rfl
theorem M_X12_paid (x1 : Int32) (h : AHp) : MI QX12_paid 6 [.ref 70, .int x1] h (m_X12_paid x1 h) := MI.of (by decide) rfl rfl (Nat.le_of_ble_eq_true rfl) (w_X12_paid x1 h)
set_option maxHeartbeats 4000000 in
set_option maxRecDepth 100000 in
theorem w_X12_goesOn (x1 : Int32) (x2 : Int32) (h : AHp) : WO tvV QX12_goesOn 0 0 [(0, .ref 70), (1, .int x1), (2, .int x2)] [] h (m_X12_goesOn x1 x2 h) := by
  unfold m_X12_goesOn
  refine z_aload_n dX12_goesOn_0 0 rfl ?_
  refine z_dup dX12_goesOn_1 rfl ?_
  refine z_getI fX12_345 kc_70 rfl dX12_goesOn_2 ?_
  refine z_iconst (v := 1) dX12_goesOn_5 (by decide) ?_
  refine z_iadd dX12_goesOn_6 ?_
  refine z_putI fX12_345 kc_70 rfl dX12_goesOn_7 ?_
  refine z_lh (fun h1 => ?_)
  refine z_aload_n dX12_goesOn_10 0 rfl ?_
  refine z_aload_n dX12_goesOn_11 0 rfl ?_
  refine z_getI fX12_336 kc_70 rfl dX12_goesOn_12 ?_
  refine z_putI fX12_339 kc_70 rfl dX12_goesOn_15 ?_
  refine z_lh (fun h2 => ?_)
  refine z_aload_n dX12_goesOn_18 0 rfl ?_
  refine z_iload_n dX12_goesOn_19 2 rfl ?_
  refine z_putI fX12_336 kc_70 rfl dX12_goesOn_20 ?_
  refine z_lh (fun h3 => ?_)
  refine z_aload_n dX12_goesOn_23 0 rfl ?_
  refine z_iload_n dX12_goesOn_24 1 rfl ?_
  refine z_putI fX12_342 kc_70 rfl dX12_goesOn_25 ?_
  refine z_lh (fun h4 => ?_)
  exact z_vret dX12_goesOn_28 rfl
theorem M_X12_goesOn (x1 : Int32) (x2 : Int32) (h : AHp) : MV QX12_goesOn 0 [.ref 70, .int x1, .int x2] h (m_X12_goesOn x1 x2 h) := MV.of (by decide) rfl rfl (Nat.le_of_ble_eq_true rfl) (w_X12_goesOn x1 x2 h)
set_option maxHeartbeats 4000000 in
set_option maxRecDepth 100000 in
theorem w_X12_judged_90 : ∀ (f : Nat) (x1 : Int32) (x2 : Int32) (x3 : Int32) (h : AHp), WO tvI QX12_judged 5 90 [(0, .ref 70), (1, .int x1), (2, .int x2), (3, .int x3)] [] h (m_X12_judged_90 f x1 x2 x3 h) := by
  intro f
  induction f with
  | zero => intro x1 x2 x3 h; exact z_none
  | succ f ih =>
    intro x1 x2 x3 h
    rw [m_X12_judged_90]
    refine z_iload_n dX12_judged_90 3 rfl ?_
    refine z_iload_n dX12_judged_91 2 rfl ?_
    refine z_ic_ge (tgt := 189) dX12_judged_92 (by decide) ?_ ?_
    · refine z_iload_n dX12_judged_189 2 rfl ?_
      exact z_iret dX12_judged_190 rfl
    · refine z_aload_n dX12_judged_95 0 rfl ?_
      refine z_iconst (v := 3) dX12_judged_96 (by decide) ?_
      refine z_iload_n dX12_judged_97 3 rfl ?_
      refine z_imul dX12_judged_98 ?_
      refine z_iconst (v := 2) dX12_judged_99 (by decide) ?_
      refine z_iadd dX12_judged_100 ?_
      refine z_callVI dX12_judged_101 (M_X12_byteAt _ _) bX12_byteAt lX12_404 kc_70 rfl rfl (Nat.le_of_ble_eq_true rfl) (Nat.le_of_ble_eq_true rfl) (fun r1 h2 => ?_)
      refine z_istore (lv2 := [(4, .int r1), (0, .ref 70), (1, .int x1), (2, .int x2), (3, .int x3)]) dX12_judged_104 (Nat.le_of_ble_eq_true rfl) rfl ?_
      refine z_iload dX12_judged_106 0 rfl ?_
      refine z_callSI dX12_judged_108 (M_X12_isSize _ _) bX12_isSize lX12_383 rfl rfl (Nat.le_of_ble_eq_true rfl) (Nat.le_of_ble_eq_true rfl) (fun r3 h4 => ?_)
      refine z_if_eq (tgt := 136) dX12_judged_111 (by decide) ?_ ?_
      · refine z_iload_n dX12_judged_136 4 rfl ?_
        exact z_iret dX12_judged_137 rfl
      · refine z_aload_n dX12_judged_114 1 rfl ?_
        refine z_getR (j := 72) fX12_17 kc_70 rfl rfl rfl (by decide) dX12_judged_115 ?_
        refine z_aload_n dX12_judged_118 1 rfl ?_
        refine z_iconst (v := 3) dX12_judged_119 (by decide) ?_
        refine z_iload_n dX12_judged_120 4 rfl ?_
        refine z_imul dX12_judged_121 ?_
        refine z_iconst (v := 1) dX12_judged_122 (by decide) ?_
        refine z_iadd dX12_judged_123 ?_
        refine z_callVI dX12_judged_124 (M_X12_byteAt _ _) bX12_byteAt lX12_404 kc_70 rfl rfl (Nat.le_of_ble_eq_true rfl) (Nat.le_of_ble_eq_true rfl) (fun r5 h6 => ?_)
        refine z_gd (fun g7 => ?_)
        refine z_iald kc_72 dX12_judged_127 g7 ?_
        refine z_iload dX12_judged_128 0 rfl ?_
        refine z_callSI dX12_judged_130 (M_X12_has _ _ _) bX12_has lX12_187 rfl rfl (Nat.le_of_ble_eq_true rfl) (Nat.le_of_ble_eq_true rfl) (fun r8 h9 => ?_)
        refine z_if_ne (tgt := 138) dX12_judged_133 (by decide) ?_ ?_
        · refine z_aload_n dX12_judged_138 1 rfl ?_
          refine z_aload_n dX12_judged_139 1 rfl ?_
          refine z_iconst (v := 3) dX12_judged_140 (by decide) ?_
          refine z_iload_n dX12_judged_141 4 rfl ?_
          refine z_imul dX12_judged_142 ?_
          refine z_callVI dX12_judged_143 (M_X12_byteAt _ _) bX12_byteAt lX12_404 kc_70 rfl rfl (Nat.le_of_ble_eq_true rfl) (Nat.le_of_ble_eq_true rfl) (fun r10 h11 => ?_)
          refine z_aload_n dX12_judged_146 1 rfl ?_
          refine z_iconst (v := 3) dX12_judged_147 (by decide) ?_
          refine z_iload_n dX12_judged_148 4 rfl ?_
          refine z_imul dX12_judged_149 ?_
          refine z_iconst (v := 1) dX12_judged_150 (by decide) ?_
          refine z_iadd dX12_judged_151 ?_
          refine z_callVI dX12_judged_152 (M_X12_byteAt _ _) bX12_byteAt lX12_404 kc_70 rfl rfl (Nat.le_of_ble_eq_true rfl) (Nat.le_of_ble_eq_true rfl) (fun r12 h13 => ?_)
          refine z_iload dX12_judged_155 0 rfl ?_
          refine z_callVV dX12_judged_157 (M_X12_says _ _ _ _) bX12_says lX12_371 kc_70 rfl rfl (Nat.le_of_ble_eq_true rfl) (Nat.le_of_ble_eq_true rfl) (fun r14 h15 => ?_)
          refine z_aload_n dX12_judged_160 1 rfl ?_
          refine z_iload_n dX12_judged_161 2 rfl ?_
          refine z_callVI dX12_judged_162 (M_X12_lets _ _) bX12_lets lX12_375 kc_70 rfl rfl (Nat.le_of_ble_eq_true rfl) (Nat.le_of_ble_eq_true rfl) (fun r16 h17 => ?_)
          refine z_if_ne (tgt := 170) dX12_judged_165 (by decide) ?_ ?_
          · refine z_aload_n dX12_judged_170 1 rfl ?_
            refine z_aload_n dX12_judged_171 1 rfl ?_
            refine z_iconst (v := 3) dX12_judged_172 (by decide) ?_
            refine z_iload_n dX12_judged_173 4 rfl ?_
            refine z_imul dX12_judged_174 ?_
            refine z_callVI dX12_judged_175 (M_X12_byteAt _ _) bX12_byteAt lX12_404 kc_70 rfl rfl (Nat.le_of_ble_eq_true rfl) (Nat.le_of_ble_eq_true rfl) (fun r18 h19 => ?_)
            refine z_iload dX12_judged_178 0 rfl ?_
            refine z_callVV dX12_judged_180 (M_X12_goesOn _ _ _) bX12_goesOn lX12_407 kc_70 rfl rfl (Nat.le_of_ble_eq_true rfl) (Nat.le_of_ble_eq_true rfl) (fun r20 h21 => ?_)
            refine z_iincL (lv2 := fun v22 => [(3, .int v22), (4, .int r1), (0, .ref 70), (1, .int x1), (2, .int x2)]) dX12_judged_183 4 rfl rfl (Nat.le_of_ble_eq_true rfl) (fun _ => rfl) (fun v22 => ?_)
            refine z_goto (tgt := 90) dX12_judged_186 (by decide) ?_
            exact z_sub [2, 3, 4, 0] rfl (ih _ _ _ _)
          · refine z_iload_n dX12_judged_168 4 rfl ?_
            exact z_iret dX12_judged_169 rfl
        · refine z_iload_n dX12_judged_136 4 rfl ?_
          exact z_iret dX12_judged_137 rfl
set_option maxHeartbeats 4000000 in
set_option maxRecDepth 100000 in
theorem w_X12_judged_38 : ∀ (f : Nat) (x1 : Int32) (x2 : Int32) (x3 : Int32) (h : AHp), WO tvI QX12_judged 5 38 [(0, .ref 70), (1, .int x1), (2, .int x2), (3, .int x3)] [] h (m_X12_judged_38 f x1 x2 x3 h) := by
  intro f
  induction f with
  | zero => intro x1 x2 x3 h; exact z_none
  | succ f ih =>
    intro x1 x2 x3 h
    rw [m_X12_judged_38]
    refine z_iload_n dX12_judged_38 3 rfl ?_
    refine z_iload_n dX12_judged_39 2 rfl ?_
    refine z_ic_ge (tgt := 80) dX12_judged_40 (by decide) ?_ ?_
    · refine z_aload_n dX12_judged_80 0 rfl ?_
      refine z_aload_n dX12_judged_81 0 rfl ?_
      refine z_getI fX12_386 kc_70 rfl dX12_judged_82 ?_
      refine z_callVV dX12_judged_85 (M_X12_standsAt _ _) bX12_standsAt lX12_389 kc_70 rfl rfl (Nat.le_of_ble_eq_true rfl) (Nat.le_of_ble_eq_true rfl) (fun r23 h24 => ?_)
      refine z_iconst (v := 0) dX12_judged_88 (by decide) ?_
      refine z_istore_n (lv2 := [(3, .int 0), (0, .ref 70), (1, .int x1), (2, .int x2)]) dX12_judged_89 (Nat.le_of_ble_eq_true rfl) rfl ?_
      exact z_sub [1, 2, 3, 0] rfl (w_X12_judged_90 FU _ _ _ _)
    · refine z_aload_n dX12_judged_43 0 rfl ?_
      refine z_iconst (v := 3) dX12_judged_44 (by decide) ?_
      refine z_iload_n dX12_judged_45 3 rfl ?_
      refine z_imul dX12_judged_46 ?_
      refine z_callVI dX12_judged_47 (M_X12_byteAt _ _) bX12_byteAt lX12_404 kc_70 rfl rfl (Nat.le_of_ble_eq_true rfl) (Nat.le_of_ble_eq_true rfl) (fun r25 h26 => ?_)
      refine z_callSI dX12_judged_50 (M_X12_isSpeaker _ _) bX12_isSpeaker lX12_378 rfl rfl (Nat.le_of_ble_eq_true rfl) (Nat.le_of_ble_eq_true rfl) (fun r27 h28 => ?_)
      refine z_if_eq (tgt := 71) dX12_judged_53 (by decide) ?_ ?_
      · refine z_bipush (v := -2) dX12_judged_71 (by decide) ?_
        exact z_iret dX12_judged_73 rfl
      · refine z_aload_n dX12_judged_56 0 rfl ?_
        refine z_iconst (v := 3) dX12_judged_57 (by decide) ?_
        refine z_iload_n dX12_judged_58 3 rfl ?_
        refine z_imul dX12_judged_59 ?_
        refine z_iconst (v := 1) dX12_judged_60 (by decide) ?_
        refine z_iadd dX12_judged_61 ?_
        refine z_callVI dX12_judged_62 (M_X12_byteAt _ _) bX12_byteAt lX12_404 kc_70 rfl rfl (Nat.le_of_ble_eq_true rfl) (Nat.le_of_ble_eq_true rfl) (fun r29 h30 => ?_)
        refine z_callSI dX12_judged_65 (M_X12_isThing _ _) bX12_isThing lX12_229 rfl rfl (Nat.le_of_ble_eq_true rfl) (Nat.le_of_ble_eq_true rfl) (fun r31 h32 => ?_)
        refine z_if_ne (tgt := 74) dX12_judged_68 (by decide) ?_ ?_
        · refine z_iincL (lv2 := fun v33 => [(3, .int v33), (0, .ref 70), (1, .int x1), (2, .int x2)]) dX12_judged_74 3 rfl rfl (Nat.le_of_ble_eq_true rfl) (fun _ => rfl) (fun v33 => ?_)
          refine z_goto (tgt := 38) dX12_judged_77 (by decide) ?_
          exact z_sub [1, 2, 3, 0] rfl (ih _ _ _ _)
        · refine z_bipush (v := -2) dX12_judged_71 (by decide) ?_
          exact z_iret dX12_judged_73 rfl
set_option maxHeartbeats 4000000 in
set_option maxRecDepth 100000 in
theorem w_X12_judged (x1 : Int32) (x2 : Int32) (h : AHp) : WO tvI QX12_judged 5 0 [(0, .ref 70), (1, .int x1), (2, .int x2)] [] h (m_X12_judged x1 x2 h) := by
  unfold m_X12_judged
  refine z_iload_n dX12_judged_0 1 rfl ?_
  refine z_callSI dX12_judged_1 (M_X12_isLaw _ _) bX12_isLaw lX12_319 rfl rfl (Nat.le_of_ble_eq_true rfl) (Nat.le_of_ble_eq_true rfl) (fun r34 h35 => ?_)
  refine z_if_eq (tgt := 29) dX12_judged_4 (by decide) ?_ ?_
  · refine z_iconst (v := -1) dX12_judged_29 (by decide) ?_
    exact z_iret dX12_judged_30 rfl
  · refine z_iload_n dX12_judged_7 2 rfl ?_
    refine z_i2l dX12_judged_8 ?_
    refine z_lconst (v := 1) dX12_judged_9 (by decide) ?_
    refine z_ldc2 dX12_judged_10 kX12_233 ?_
    refine z_callSI dX12_judged_13 (M_X12_lies _ _ _ _) bX12_lies lX12_181 rfl rfl (Nat.le_of_ble_eq_true rfl) (Nat.le_of_ble_eq_true rfl) (fun r36 h37 => ?_)
    refine z_if_eq (tgt := 29) dX12_judged_16 (by decide) ?_ ?_
    · refine z_iconst (v := -1) dX12_judged_29 (by decide) ?_
      exact z_iret dX12_judged_30 rfl
    · refine z_iconst (v := 3) dX12_judged_19 (by decide) ?_
      refine z_iload_n dX12_judged_20 2 rfl ?_
      refine z_imul dX12_judged_21 ?_
      refine z_aload_n dX12_judged_22 0 rfl ?_
      refine z_getI fX12_157 kc_70 rfl dX12_judged_23 ?_
      refine z_ic_le (tgt := 31) dX12_judged_26 (by decide) ?_ ?_
      · refine z_aload_n dX12_judged_31 0 rfl ?_
        refine z_iconst (v := 0) dX12_judged_32 (by decide) ?_
        refine z_putI fX12_157 kc_70 rfl dX12_judged_33 ?_
        refine z_lh (fun h38 => ?_)
        refine z_iconst (v := 0) dX12_judged_36 (by decide) ?_
        refine z_istore_n (lv2 := [(3, .int 0), (0, .ref 70), (1, .int x1), (2, .int x2)]) dX12_judged_37 (Nat.le_of_ble_eq_true rfl) rfl ?_
        exact z_sub [1, 2, 3, 0] rfl (w_X12_judged_38 FU _ _ _ _)
      · refine z_iconst (v := -1) dX12_judged_29 (by decide) ?_
        exact z_iret dX12_judged_30 rfl
theorem M_X12_judged (x1 : Int32) (x2 : Int32) (h : AHp) : MI QX12_judged 5 [.ref 70, .int x1, .int x2] h (m_X12_judged x1 x2 h) := MI.of (by decide) rfl rfl (Nat.le_of_ble_eq_true rfl) (w_X12_judged x1 x2 h)
set_option maxHeartbeats 4000000 in
set_option maxRecDepth 100000 in
theorem w_X12_standsBehind (x1 : Int32) (x2 : Int32) (x3 : Int32) (h : AHp) : WO tvV QX12_standsBehind 0 0 [(0, .ref 70), (1, .int x1), (2, .int x2), (3, .int x3)] [] h (m_X12_standsBehind x1 x2 x3 h) := by
  unfold m_X12_standsBehind
  refine z_aload_n dX12_standsBehind_0 0 rfl ?_
  refine z_aload_n dX12_standsBehind_1 0 rfl ?_
  refine z_getI fX12_386 kc_70 rfl dX12_standsBehind_2 ?_
  refine z_iload_n dX12_standsBehind_5 1 rfl ?_
  refine z_iadd dX12_standsBehind_6 ?_
  refine z_putI fX12_345 kc_70 rfl dX12_standsBehind_7 ?_
  refine z_lh (fun h1 => ?_)
  refine z_aload_n dX12_standsBehind_10 0 rfl ?_
  refine z_iload_n dX12_standsBehind_11 2 rfl ?_
  refine z_putI fX12_336 kc_70 rfl dX12_standsBehind_12 ?_
  refine z_lh (fun h2 => ?_)
  refine z_aload_n dX12_standsBehind_15 0 rfl ?_
  refine z_iload_n dX12_standsBehind_16 3 rfl ?_
  refine z_putI fX12_339 kc_70 rfl dX12_standsBehind_17 ?_
  refine z_lh (fun h3 => ?_)
  refine z_aload_n dX12_standsBehind_20 0 rfl ?_
  refine z_iload_n dX12_standsBehind_21 1 rfl ?_
  refine z_if_le (tgt := 36) dX12_standsBehind_22 (by decide) ?_ ?_
  · refine z_aload_n dX12_standsBehind_36 0 rfl ?_
    refine z_getI fX12_386 kc_70 rfl dX12_standsBehind_37 ?_
    refine z_if_le (tgt := 57) dX12_standsBehind_40 (by decide) ?_ ?_
    · refine z_iconst (v := -1) dX12_standsBehind_57 (by decide) ?_
      refine z_putI fX12_342 kc_70 rfl dX12_standsBehind_58 ?_
      refine z_lh (fun h4 => ?_)
      exact z_vret dX12_standsBehind_61 rfl
    · refine z_aload_n dX12_standsBehind_43 0 rfl ?_
      refine z_getR (j := 94) fX12_85 kc_70 rfl rfl rfl (by decide) dX12_standsBehind_44 ?_
      refine z_aload_n dX12_standsBehind_47 0 rfl ?_
      refine z_getI fX12_386 kc_70 rfl dX12_standsBehind_48 ?_
      refine z_iconst (v := 1) dX12_standsBehind_51 (by decide) ?_
      refine z_isub dX12_standsBehind_52 ?_
      refine z_gd (fun g5 => ?_)
      refine z_iald kc_94 dX12_standsBehind_53 g5 ?_
      refine z_goto (tgt := 58) dX12_standsBehind_54 (by decide) ?_
      refine z_putI fX12_342 kc_70 rfl dX12_standsBehind_58 ?_
      refine z_lh (fun h6 => ?_)
      exact z_vret dX12_standsBehind_61 rfl
  · refine z_aload_n dX12_standsBehind_25 0 rfl ?_
    refine z_getR (j := 97) fX12_94 kc_70 rfl rfl rfl (by decide) dX12_standsBehind_26 ?_
    refine z_iload_n dX12_standsBehind_29 1 rfl ?_
    refine z_iconst (v := 1) dX12_standsBehind_30 (by decide) ?_
    refine z_isub dX12_standsBehind_31 ?_
    refine z_gd (fun g7 => ?_)
    refine z_iald kc_97 dX12_standsBehind_32 g7 ?_
    refine z_goto (tgt := 58) dX12_standsBehind_33 (by decide) ?_
    refine z_putI fX12_342 kc_70 rfl dX12_standsBehind_58 ?_
    refine z_lh (fun h8 => ?_)
    exact z_vret dX12_standsBehind_61 rfl
theorem M_X12_standsBehind (x1 : Int32) (x2 : Int32) (x3 : Int32) (h : AHp) : MV QX12_standsBehind 0 [.ref 70, .int x1, .int x2, .int x3] h (m_X12_standsBehind x1 x2 x3 h) := MV.of (by decide) rfl rfl (Nat.le_of_ble_eq_true rfl) (w_X12_standsBehind x1 x2 x3 h)
set_option maxHeartbeats 4000000 in
set_option maxRecDepth 100000 in
theorem w_X12_withDigit_5 : ∀ (f : Nat) (x0 : Int32) (x1 : Int32) (x2 : Int32) (x3 : Int32) (x4 : Int32) (h : AHp), WO tvI QX12_withDigit 1 5 [(0, .int x0), (1, .int x1), (2, .int x2), (3, .int x3), (4, .int x4)] [] h (m_X12_withDigit_5 f x0 x1 x2 x3 x4 h) := by
  intro f
  induction f with
  | zero => intro x0 x1 x2 x3 x4 h; exact z_none
  | succ f ih =>
    intro x0 x1 x2 x3 x4 h
    rw [m_X12_withDigit_5]
    refine z_iload dX12_withDigit_5 4 rfl ?_
    refine z_bipush (v := 24) dX12_withDigit_7 (by decide) ?_
    refine z_ic_gt (tgt := 46) dX12_withDigit_9 (by decide) ?_ ?_
    · refine z_iload_n dX12_withDigit_46 3 rfl ?_
      exact z_iret dX12_withDigit_47 rfl
    · refine z_iload_n dX12_withDigit_12 0 rfl ?_
      refine z_iload dX12_withDigit_13 4 rfl ?_
      refine z_callSI dX12_withDigit_15 (M_X12_has _ _ _) bX12_has lX12_187 rfl rfl (Nat.le_of_ble_eq_true rfl) (Nat.le_of_ble_eq_true rfl) (fun r1 h2 => ?_)
      refine z_if_eq (tgt := 40) dX12_withDigit_18 (by decide) ?_ ?_
      · refine z_iincL (lv2 := fun v3 => [(4, .int v3), (0, .int x0), (1, .int x1), (2, .int x2), (3, .int x3)]) dX12_withDigit_40 4 rfl rfl (Nat.le_of_ble_eq_true rfl) (fun _ => rfl) (fun v3 => ?_)
        refine z_goto (tgt := 5) dX12_withDigit_43 (by decide) ?_
        exact z_sub [1, 2, 3, 4, 0] rfl (ih _ _ _ _ _ _)
      · refine z_iload_n dX12_withDigit_21 1 rfl ?_
        refine z_if_eq (tgt := 33) dX12_withDigit_22 (by decide) ?_ ?_
        · refine z_iload_n dX12_withDigit_33 3 rfl ?_
          refine z_iconst (v := 1) dX12_withDigit_34 (by decide) ?_
          refine z_iload dX12_withDigit_35 4 rfl ?_
          refine z_ishl dX12_withDigit_37 ?_
          refine z_ior dX12_withDigit_38 ?_
          refine z_istore_nL (lv2 := fun v4 => [(3, .int v4), (0, .int x0), (1, .int x1), (2, .int x2), (4, .int x4)]) dX12_withDigit_39 (Nat.le_of_ble_eq_true rfl) (fun _ => rfl) (fun v4 => ?_)
          refine z_iincL (lv2 := fun v5 => [(4, .int v5), (3, .int v4), (0, .int x0), (1, .int x1), (2, .int x2)]) dX12_withDigit_40 4 rfl rfl (Nat.le_of_ble_eq_true rfl) (fun _ => rfl) (fun v5 => ?_)
          refine z_goto (tgt := 5) dX12_withDigit_43 (by decide) ?_
          exact z_sub [2, 3, 4, 1, 0] rfl (ih _ _ _ _ _ _)
        · refine z_iload dX12_withDigit_25 4 rfl ?_
          refine z_iload_n dX12_withDigit_27 1 rfl ?_
          refine z_gd (fun g6 => ?_)
          refine z_irem dX12_withDigit_28 g6 ?_
          refine z_iload_n dX12_withDigit_29 2 rfl ?_
          refine z_ic_ne (tgt := 40) dX12_withDigit_30 (by decide) ?_ ?_
          · refine z_iincL (lv2 := fun v7 => [(4, .int v7), (0, .int x0), (1, .int x1), (2, .int x2), (3, .int x3)]) dX12_withDigit_40 4 rfl rfl (Nat.le_of_ble_eq_true rfl) (fun _ => rfl) (fun v7 => ?_)
            refine z_goto (tgt := 5) dX12_withDigit_43 (by decide) ?_
            exact z_sub [1, 2, 3, 4, 0] rfl (ih _ _ _ _ _ _)
          · refine z_iload_n dX12_withDigit_33 3 rfl ?_
            refine z_iconst (v := 1) dX12_withDigit_34 (by decide) ?_
            refine z_iload dX12_withDigit_35 4 rfl ?_
            refine z_ishl dX12_withDigit_37 ?_
            refine z_ior dX12_withDigit_38 ?_
            refine z_istore_nL (lv2 := fun v8 => [(3, .int v8), (0, .int x0), (1, .int x1), (2, .int x2), (4, .int x4)]) dX12_withDigit_39 (Nat.le_of_ble_eq_true rfl) (fun _ => rfl) (fun v8 => ?_)
            refine z_iincL (lv2 := fun v9 => [(4, .int v9), (3, .int v8), (0, .int x0), (1, .int x1), (2, .int x2)]) dX12_withDigit_40 4 rfl rfl (Nat.le_of_ble_eq_true rfl) (fun _ => rfl) (fun v9 => ?_)
            refine z_goto (tgt := 5) dX12_withDigit_43 (by decide) ?_
            exact z_sub [2, 3, 4, 1, 0] rfl (ih _ _ _ _ _ _)
set_option maxHeartbeats 4000000 in
set_option maxRecDepth 100000 in
theorem w_X12_withDigit (x0 : Int32) (x1 : Int32) (x2 : Int32) (h : AHp) : WO tvI QX12_withDigit 1 0 [(0, .int x0), (1, .int x1), (2, .int x2)] [] h (m_X12_withDigit x0 x1 x2 h) := by
  unfold m_X12_withDigit
  refine z_iconst (v := 0) dX12_withDigit_0 (by decide) ?_
  refine z_istore_n (lv2 := [(3, .int 0), (0, .int x0), (1, .int x1), (2, .int x2)]) dX12_withDigit_1 (Nat.le_of_ble_eq_true rfl) rfl ?_
  refine z_iconst (v := 1) dX12_withDigit_2 (by decide) ?_
  refine z_istore (lv2 := [(4, .int 1), (3, .int 0), (0, .int x0), (1, .int x1), (2, .int x2)]) dX12_withDigit_3 (Nat.le_of_ble_eq_true rfl) rfl ?_
  exact z_sub [2, 3, 4, 1, 0] rfl (w_X12_withDigit_5 FU _ _ _ _ _ _)
theorem M_X12_withDigit (x0 : Int32) (x1 : Int32) (x2 : Int32) (h : AHp) : MI QX12_withDigit 1 [.int x0, .int x1, .int x2] h (m_X12_withDigit x0 x1 x2 h) := MI.of (by decide) rfl rfl (Nat.le_of_ble_eq_true rfl) (w_X12_withDigit x0 x1 x2 h)
set_option maxHeartbeats 4000000 in
set_option maxRecDepth 100000 in
theorem w_X12_startPair (h : AHp) : WO tvI QX12_startPair 1 0 [(0, .ref 70)] [] h (m_X12_startPair h) := by
  unfold m_X12_startPair
  refine z_bipush (v := 25) dX12_startPair_0 (by decide) ?_
  refine z_aload_n dX12_startPair_2 0 rfl ?_
  refine z_aload_n dX12_startPair_3 0 rfl ?_
  refine z_getI fX12_386 kc_70 rfl dX12_startPair_4 ?_
  refine z_iconst (v := 1) dX12_startPair_7 (by decide) ?_
  refine z_isub dX12_startPair_8 ?_
  refine z_callVI dX12_startPair_9 (M_X12_lengthAt _ _) bX12_lengthAt lX12_366 kc_70 rfl rfl (Nat.le_of_ble_eq_true rfl) (Nat.le_of_ble_eq_true rfl) (fun r1 h2 => ?_)
  refine z_imul dX12_startPair_12 ?_
  refine z_aload_n dX12_startPair_13 0 rfl ?_
  refine z_aload_n dX12_startPair_14 0 rfl ?_
  refine z_getI fX12_386 kc_70 rfl dX12_startPair_15 ?_
  refine z_iconst (v := 2) dX12_startPair_18 (by decide) ?_
  refine z_isub dX12_startPair_19 ?_
  refine z_callVI dX12_startPair_20 (M_X12_lengthAt _ _) bX12_lengthAt lX12_366 kc_70 rfl rfl (Nat.le_of_ble_eq_true rfl) (Nat.le_of_ble_eq_true rfl) (fun r3 h4 => ?_)
  refine z_iadd dX12_startPair_23 ?_
  exact z_iret dX12_startPair_24 rfl
theorem M_X12_startPair (h : AHp) : MI QX12_startPair 1 [.ref 70] h (m_X12_startPair h) := MI.of (by decide) rfl rfl (Nat.le_of_ble_eq_true rfl) (w_X12_startPair h)
set_option maxHeartbeats 4000000 in
set_option maxRecDepth 100000 in
theorem w_X12_pairBehind (x0 : Int32) (x1 : Int32) (h : AHp) : WO tvI QX12_pairBehind 0 0 [(0, .int x0), (1, .int x1)] [] h (m_X12_pairBehind x0 x1 h) := by
  unfold m_X12_pairBehind
  refine z_bipush (v := 25) dX12_pairBehind_0 (by decide) ?_
  refine z_iload_n dX12_pairBehind_2 1 rfl ?_
  refine z_imul dX12_pairBehind_3 ?_
  refine z_iload_n dX12_pairBehind_4 0 rfl ?_
  refine z_bipush (v := 25) dX12_pairBehind_5 (by decide) ?_
  refine z_idiv dX12_pairBehind_7 (by decide) ?_
  refine z_iadd dX12_pairBehind_8 ?_
  exact z_iret dX12_pairBehind_9 rfl
theorem M_X12_pairBehind (x0 : Int32) (x1 : Int32) (h : AHp) : MI QX12_pairBehind 0 [.int x0, .int x1] h (m_X12_pairBehind x0 x1 h) := MI.of (by decide) rfl rfl (Nat.le_of_ble_eq_true rfl) (w_X12_pairBehind x0 x1 h)
set_option maxHeartbeats 4000000 in
set_option maxRecDepth 100000 in
theorem w_X12_reaches_145 (k41 : Int32 → Int32 → Int32 → Int32 → Int32 → AHp → Option (Int32 × AHp)) (hk41 : ∀ (x1 : Int32) (x2 : Int32) (x3 : Int32) (x4 : Int32) (x5 : Int32) (h : AHp), WO tvI QX12_reaches 6 41 [(0, .ref 70), (1, .int x1), (2, .int x2), (3, .int x3), (4, .int x4), (5, .int x5)] [] h (k41 x1 x2 x3 x4 x5 h)) (k50 : Int32 → Int32 → Int32 → Int32 → Int32 → Int32 → AHp → Option (Int32 × AHp)) (hk50 : ∀ (x1 : Int32) (x2 : Int32) (x3 : Int32) (x4 : Int32) (x5 : Int32) (x6 : Int32) (h : AHp), WO tvI QX12_reaches 6 50 [(0, .ref 70), (1, .int x1), (2, .int x2), (3, .int x3), (4, .int x4), (5, .int x5), (6, .int x6)] [] h (k50 x1 x2 x3 x4 x5 x6 h)) : ∀ (f : Nat) (x1 : Int32) (x2 : Int32) (x3 : Int32) (x4 : Int32) (x5 : Int32) (x6 : Int32) (x7 : Int32) (x8 : Int32) (h : AHp), WO tvI QX12_reaches 6 145 [(0, .ref 70), (1, .int x1), (2, .int x2), (3, .int x3), (4, .int x4), (5, .int x5), (6, .int x6), (7, .int x7), (8, .int x8)] [] h (m_X12_reaches_145 k41 k50 f x1 x2 x3 x4 x5 x6 x7 x8 h) := by
  intro f
  induction f with
  | zero => intro x1 x2 x3 x4 x5 x6 x7 x8 h; exact z_none
  | succ f ih =>
    intro x1 x2 x3 x4 x5 x6 x7 x8 h
    rw [m_X12_reaches_145]
    refine z_iload dX12_reaches_145 8 rfl ?_
    refine z_bipush (v := 24) dX12_reaches_147 (by decide) ?_
    refine z_ic_gt (tgt := 199) dX12_reaches_149 (by decide) ?_ ?_
    · refine z_iincL (lv2 := fun v1 => [(6, .int v1), (0, .ref 70), (1, .int x1), (2, .int x2), (3, .int x3), (4, .int x4), (5, .int x5), (7, .int x7), (8, .int x8)]) dX12_reaches_199 6 rfl rfl (Nat.le_of_ble_eq_true rfl) (fun _ => rfl) (fun v1 => ?_)
      refine z_goto (tgt := 50) dX12_reaches_202 (by decide) ?_
      exact z_sub [1, 2, 3, 4, 5, 6, 0] rfl (hk50 _ _ _ _ _ _ _)
    · refine z_iload dX12_reaches_152 7 rfl ?_
      refine z_iload dX12_reaches_154 8 rfl ?_
      refine z_callSI dX12_reaches_156 (M_X12_has _ _ _) bX12_has lX12_187 rfl rfl (Nat.le_of_ble_eq_true rfl) (Nat.le_of_ble_eq_true rfl) (fun r2 h3 => ?_)
      refine z_if_ne (tgt := 165) dX12_reaches_159 (by decide) ?_ ?_
      · refine z_aload_n dX12_reaches_165 0 rfl ?_
        refine z_getR (j := 102) fX12_109 kc_70 rfl rfl rfl (by decide) dX12_reaches_166 ?_
        refine z_sipush (v := 625) dX12_reaches_169 (by decide) ?_
        refine z_iload dX12_reaches_172 5 rfl ?_
        refine z_iconst (v := 1) dX12_reaches_174 (by decide) ?_
        refine z_iadd dX12_reaches_175 ?_
        refine z_imul dX12_reaches_176 ?_
        refine z_iload dX12_reaches_177 6 rfl ?_
        refine z_iload dX12_reaches_179 8 rfl ?_
        refine z_callSI dX12_reaches_181 (M_X12_pairBehind _ _ _) bX12_pairBehind lX12_419 rfl rfl (Nat.le_of_ble_eq_true rfl) (Nat.le_of_ble_eq_true rfl) (fun r4 h5 => ?_)
        refine z_iadd dX12_reaches_184 ?_
        refine z_iconst (v := 1) dX12_reaches_185 (by decide) ?_
        refine z_gd (fun g7 => ?_)
        refine z_zast kc_102 dX12_reaches_186 g7 ?_
        refine z_lh (fun h6 => ?_)
        refine z_iload dX12_reaches_187 5 rfl ?_
        refine z_iconst (v := 1) dX12_reaches_189 (by decide) ?_
        refine z_iadd dX12_reaches_190 ?_
        refine z_istoreL (lv2 := fun v8 => [(4, .int v8), (0, .ref 70), (1, .int x1), (2, .int x2), (3, .int x3), (5, .int x5), (6, .int x6), (7, .int x7), (8, .int x8)]) dX12_reaches_191 (Nat.le_of_ble_eq_true rfl) (fun _ => rfl) (fun v8 => ?_)
        refine z_iincL (lv2 := fun v9 => [(8, .int v9), (4, .int v8), (0, .ref 70), (1, .int x1), (2, .int x2), (3, .int x3), (5, .int x5), (6, .int x6), (7, .int x7)]) dX12_reaches_193 8 rfl rfl (Nat.le_of_ble_eq_true rfl) (fun _ => rfl) (fun v9 => ?_)
        refine z_goto (tgt := 145) dX12_reaches_196 (by decide) ?_
        exact z_sub [2, 3, 4, 5, 1, 6, 7, 8, 0] rfl (ih _ _ _ _ _ _ _ _ _)
      · refine z_goto (tgt := 193) dX12_reaches_162 (by decide) ?_
        refine z_iincL (lv2 := fun v10 => [(8, .int v10), (0, .ref 70), (1, .int x1), (2, .int x2), (3, .int x3), (4, .int x4), (5, .int x5), (6, .int x6), (7, .int x7)]) dX12_reaches_193 8 rfl rfl (Nat.le_of_ble_eq_true rfl) (fun _ => rfl) (fun v10 => ?_)
        refine z_goto (tgt := 145) dX12_reaches_196 (by decide) ?_
        exact z_sub [1, 2, 3, 4, 5, 6, 7, 8, 0] rfl (ih _ _ _ _ _ _ _ _ _)
set_option maxHeartbeats 4000000 in
set_option maxRecDepth 100000 in
theorem w_X12_reaches_50 (k41 : Int32 → Int32 → Int32 → Int32 → Int32 → AHp → Option (Int32 × AHp)) (hk41 : ∀ (x1 : Int32) (x2 : Int32) (x3 : Int32) (x4 : Int32) (x5 : Int32) (h : AHp), WO tvI QX12_reaches 6 41 [(0, .ref 70), (1, .int x1), (2, .int x2), (3, .int x3), (4, .int x4), (5, .int x5)] [] h (k41 x1 x2 x3 x4 x5 h)) : ∀ (f : Nat) (x1 : Int32) (x2 : Int32) (x3 : Int32) (x4 : Int32) (x5 : Int32) (x6 : Int32) (h : AHp), WO tvI QX12_reaches 6 50 [(0, .ref 70), (1, .int x1), (2, .int x2), (3, .int x3), (4, .int x4), (5, .int x5), (6, .int x6)] [] h (m_X12_reaches_50 k41 f x1 x2 x3 x4 x5 x6 h) := by
  intro f
  induction f with
  | zero => intro x1 x2 x3 x4 x5 x6 h; exact z_none
  | succ f ih =>
    intro x1 x2 x3 x4 x5 x6 h
    rw [m_X12_reaches_50]
    refine z_iload dX12_reaches_50 6 rfl ?_
    refine z_sipush (v := 625) dX12_reaches_52 (by decide) ?_
    refine z_ic_ge (tgt := 205) dX12_reaches_55 (by decide) ?_ ?_
    · refine z_iincL (lv2 := fun v11 => [(5, .int v11), (0, .ref 70), (1, .int x1), (2, .int x2), (3, .int x3), (4, .int x4), (6, .int x6)]) dX12_reaches_205 5 rfl rfl (Nat.le_of_ble_eq_true rfl) (fun _ => rfl) (fun v11 => ?_)
      refine z_goto (tgt := 41) dX12_reaches_208 (by decide) ?_
      exact z_sub [1, 2, 3, 4, 5, 0] rfl (hk41 _ _ _ _ _ _)
    · refine z_aload_n dX12_reaches_58 0 rfl ?_
      refine z_getR (j := 102) fX12_109 kc_70 rfl rfl rfl (by decide) dX12_reaches_59 ?_
      refine z_sipush (v := 625) dX12_reaches_62 (by decide) ?_
      refine z_iload dX12_reaches_65 5 rfl ?_
      refine z_imul dX12_reaches_67 ?_
      refine z_iload dX12_reaches_68 6 rfl ?_
      refine z_iadd dX12_reaches_70 ?_
      refine z_gd (fun g12 => ?_)
      refine z_zald kc_102 dX12_reaches_71 g12 ?_
      refine z_if_ne (tgt := 78) dX12_reaches_72 (by decide) ?_ ?_
      · refine z_aload_n dX12_reaches_78 0 rfl ?_
        refine z_iload dX12_reaches_79 5 rfl ?_
        refine z_iload dX12_reaches_81 6 rfl ?_
        refine z_bipush (v := 25) dX12_reaches_83 (by decide) ?_
        refine z_idiv dX12_reaches_85 (by decide) ?_
        refine z_iload dX12_reaches_86 6 rfl ?_
        refine z_bipush (v := 25) dX12_reaches_88 (by decide) ?_
        refine z_irem dX12_reaches_90 (by decide) ?_
        refine z_callVV dX12_reaches_91 (M_X12_standsBehind _ _ _ _) bX12_standsBehind lX12_413 kc_70 rfl rfl (Nat.le_of_ble_eq_true rfl) (Nat.le_of_ble_eq_true rfl) (fun r13 h14 => ?_)
        refine z_aload_n dX12_reaches_94 0 rfl ?_
        refine z_iload_n dX12_reaches_95 1 rfl ?_
        refine z_aload_n dX12_reaches_96 0 rfl ?_
        refine z_getR (j := 97) fX12_94 kc_70 rfl rfl rfl (by decide) dX12_reaches_97 ?_
        refine z_iload dX12_reaches_100 5 rfl ?_
        refine z_gd (fun g15 => ?_)
        refine z_iald kc_97 dX12_reaches_102 g15 ?_
        refine z_aload_n dX12_reaches_103 0 rfl ?_
        refine z_getR (j := 98) fX12_97 kc_70 rfl rfl rfl (by decide) dX12_reaches_104 ?_
        refine z_iload dX12_reaches_107 5 rfl ?_
        refine z_gd (fun g16 => ?_)
        refine z_iald kc_98 dX12_reaches_109 g16 ?_
        refine z_callVI dX12_reaches_110 (M_X12_waysBy _ _ _ _) bX12_waysBy lX12_392 kc_70 rfl rfl (Nat.le_of_ble_eq_true rfl) (Nat.le_of_ble_eq_true rfl) (fun r17 h18 => ?_)
        refine z_iload_n dX12_reaches_113 3 rfl ?_
        refine z_aload_n dX12_reaches_114 0 rfl ?_
        refine z_getR (j := 99) fX12_100 kc_70 rfl rfl rfl (by decide) dX12_reaches_115 ?_
        refine z_iload dX12_reaches_118 5 rfl ?_
        refine z_gd (fun g19 => ?_)
        refine z_iald kc_99 dX12_reaches_120 g19 ?_
        refine z_callSI dX12_reaches_121 (M_X12_withDigit _ _ _ _) bX12_withDigit lX12_416 rfl rfl (Nat.le_of_ble_eq_true rfl) (Nat.le_of_ble_eq_true rfl) (fun r20 h21 => ?_)
        refine z_istore (lv2 := [(7, .int r20), (0, .ref 70), (1, .int x1), (2, .int x2), (3, .int x3), (4, .int x4), (5, .int x5), (6, .int x6)]) dX12_reaches_124 (Nat.le_of_ble_eq_true rfl) rfl ?_
        refine z_aload_n dX12_reaches_126 1 rfl ?_
        refine z_getR (j := 100) fX12_103 kc_70 rfl rfl rfl (by decide) dX12_reaches_127 ?_
        refine z_sipush (v := 625) dX12_reaches_130 (by decide) ?_
        refine z_iload dX12_reaches_133 6 rfl ?_
        refine z_imul dX12_reaches_135 ?_
        refine z_iload dX12_reaches_136 7 rfl ?_
        refine z_iadd dX12_reaches_138 ?_
        refine z_iload dX12_reaches_139 0 rfl ?_
        refine z_gd (fun g23 => ?_)
        refine z_iast kc_100 dX12_reaches_141 g23 ?_
        refine z_lh (fun h22 => ?_)
        refine z_iconst (v := 1) dX12_reaches_142 (by decide) ?_
        refine z_istore (lv2 := [(8, .int 1), (7, .int r20), (0, .ref 70), (1, .int x1), (2, .int x2), (3, .int x3), (4, .int x4), (5, .int x5), (6, .int x6)]) dX12_reaches_143 (Nat.le_of_ble_eq_true rfl) rfl ?_
        exact z_sub [2, 3, 4, 5, 6, 7, 8, 1, 0] rfl (w_X12_reaches_145 _ hk41 _ ih FU _ _ _ _ _ _ _ _ _)
      · refine z_goto (tgt := 199) dX12_reaches_75 (by decide) ?_
        refine z_iincL (lv2 := fun v24 => [(6, .int v24), (0, .ref 70), (1, .int x1), (2, .int x2), (3, .int x3), (4, .int x4), (5, .int x5)]) dX12_reaches_199 6 rfl rfl (Nat.le_of_ble_eq_true rfl) (fun _ => rfl) (fun v24 => ?_)
        refine z_goto (tgt := 50) dX12_reaches_202 (by decide) ?_
        exact z_sub [1, 2, 3, 4, 5, 6, 0] rfl (ih _ _ _ _ _ _ _)
set_option maxHeartbeats 4000000 in
set_option maxRecDepth 100000 in
theorem w_X12_reaches_41 : ∀ (f : Nat) (x1 : Int32) (x2 : Int32) (x3 : Int32) (x4 : Int32) (x5 : Int32) (h : AHp), WO tvI QX12_reaches 6 41 [(0, .ref 70), (1, .int x1), (2, .int x2), (3, .int x3), (4, .int x4), (5, .int x5)] [] h (m_X12_reaches_41 f x1 x2 x3 x4 x5 h) := by
  intro f
  induction f with
  | zero => intro x1 x2 x3 x4 x5 h; exact z_none
  | succ f ih =>
    intro x1 x2 x3 x4 x5 h
    rw [m_X12_reaches_41]
    refine z_iload dX12_reaches_41 5 rfl ?_
    refine z_iload_n dX12_reaches_43 2 rfl ?_
    refine z_ic_ge (tgt := 211) dX12_reaches_44 (by decide) ?_ ?_
    · refine z_iload dX12_reaches_211 4 rfl ?_
      exact z_iret dX12_reaches_213 rfl
    · refine z_iconst (v := 0) dX12_reaches_47 (by decide) ?_
      refine z_istore (lv2 := [(6, .int 0), (0, .ref 70), (1, .int x1), (2, .int x2), (3, .int x3), (4, .int x4), (5, .int x5)]) dX12_reaches_48 (Nat.le_of_ble_eq_true rfl) rfl ?_
      exact z_sub [1, 2, 3, 4, 5, 6, 0] rfl (w_X12_reaches_50 _ ih FU _ _ _ _ _ _ _)
set_option maxHeartbeats 4000000 in
set_option maxRecDepth 100000 in
theorem w_X12_reaches_3 : ∀ (f : Nat) (x1 : Int32) (x2 : Int32) (x3 : Int32) (x4 : Int32) (h : AHp), WO tvI QX12_reaches 6 3 [(0, .ref 70), (1, .int x1), (2, .int x2), (3, .int x3), (4, .int x4)] [] h (m_X12_reaches_3 f x1 x2 x3 x4 h) := by
  intro f
  induction f with
  | zero => intro x1 x2 x3 x4 h; exact z_none
  | succ f ih =>
    intro x1 x2 x3 x4 h
    rw [m_X12_reaches_3]
    refine z_iload dX12_reaches_3 4 rfl ?_
    refine z_sipush (v := 8125) dX12_reaches_5 (by decide) ?_
    refine z_ic_ge (tgt := 25) dX12_reaches_8 (by decide) ?_ ?_
    · refine z_aload_n dX12_reaches_25 0 rfl ?_
      refine z_getR (j := 102) fX12_109 kc_70 rfl rfl rfl (by decide) dX12_reaches_26 ?_
      refine z_aload_n dX12_reaches_29 0 rfl ?_
      refine z_callVI dX12_reaches_30 (M_X12_startPair _) bX12_startPair lX12_410 kc_70 rfl rfl (Nat.le_of_ble_eq_true rfl) (Nat.le_of_ble_eq_true rfl) (fun r25 h26 => ?_)
      refine z_iconst (v := 1) dX12_reaches_33 (by decide) ?_
      refine z_gd (fun g28 => ?_)
      refine z_zast kc_102 dX12_reaches_34 g28 ?_
      refine z_lh (fun h27 => ?_)
      refine z_iconst (v := 0) dX12_reaches_35 (by decide) ?_
      refine z_istore (lv2 := [(4, .int 0), (0, .ref 70), (1, .int x1), (2, .int x2), (3, .int x3)]) dX12_reaches_36 (Nat.le_of_ble_eq_true rfl) rfl ?_
      refine z_iconst (v := 0) dX12_reaches_38 (by decide) ?_
      refine z_istore (lv2 := [(5, .int 0), (4, .int 0), (0, .ref 70), (1, .int x1), (2, .int x2), (3, .int x3)]) dX12_reaches_39 (Nat.le_of_ble_eq_true rfl) rfl ?_
      exact z_sub [2, 3, 4, 5, 1, 0] rfl (w_X12_reaches_41 FU _ _ _ _ _ _)
    · refine z_aload_n dX12_reaches_11 0 rfl ?_
      refine z_getR (j := 102) fX12_109 kc_70 rfl rfl rfl (by decide) dX12_reaches_12 ?_
      refine z_iload dX12_reaches_15 4 rfl ?_
      refine z_iconst (v := 0) dX12_reaches_17 (by decide) ?_
      refine z_gd (fun g30 => ?_)
      refine z_zast kc_102 dX12_reaches_18 g30 ?_
      refine z_lh (fun h29 => ?_)
      refine z_iincL (lv2 := fun v31 => [(4, .int v31), (0, .ref 70), (1, .int x1), (2, .int x2), (3, .int x3)]) dX12_reaches_19 4 rfl rfl (Nat.le_of_ble_eq_true rfl) (fun _ => rfl) (fun v31 => ?_)
      refine z_goto (tgt := 3) dX12_reaches_22 (by decide) ?_
      exact z_sub [1, 2, 3, 4, 0] rfl (ih _ _ _ _ _)
set_option maxHeartbeats 4000000 in
set_option maxRecDepth 100000 in
theorem w_X12_reaches (x1 : Int32) (x2 : Int32) (x3 : Int32) (h : AHp) : WO tvI QX12_reaches 6 0 [(0, .ref 70), (1, .int x1), (2, .int x2), (3, .int x3)] [] h (m_X12_reaches x1 x2 x3 h) := by
  unfold m_X12_reaches
  refine z_iconst (v := 0) dX12_reaches_0 (by decide) ?_
  refine z_istore (lv2 := [(4, .int 0), (0, .ref 70), (1, .int x1), (2, .int x2), (3, .int x3)]) dX12_reaches_1 (Nat.le_of_ble_eq_true rfl) rfl ?_
  exact z_sub [1, 2, 3, 4, 0] rfl (w_X12_reaches_3 FU _ _ _ _ _)
theorem M_X12_reaches (x1 : Int32) (x2 : Int32) (x3 : Int32) (h : AHp) : MI QX12_reaches 6 [.ref 70, .int x1, .int x2, .int x3] h (m_X12_reaches x1 x2 x3 h) := MI.of (by decide) rfl rfl (Nat.le_of_ble_eq_true rfl) (w_X12_reaches x1 x2 x3 h)
set_option maxHeartbeats 4000000 in
set_option maxRecDepth 100000 in
theorem w_X12_counts_65 (k2 : Int32 → Int32 → AHp → Option (Unit × AHp)) (hk2 : ∀ (x1 : Int32) (x2 : Int32) (h : AHp), WO tvV QX12_counts 1 2 [(0, .ref 70), (1, .int x1), (2, .int x2)] [] h (k2 x1 x2 h)) (k8 : Int32 → Int32 → Int32 → AHp → Option (Unit × AHp)) (hk8 : ∀ (x1 : Int32) (x2 : Int32) (x3 : Int32) (h : AHp), WO tvV QX12_counts 1 8 [(0, .ref 70), (1, .int x1), (2, .int x2), (3, .int x3)] [] h (k8 x1 x2 x3 h)) : ∀ (f : Nat) (x1 : Int32) (x2 : Int32) (x3 : Int32) (x4 : Int32) (h : AHp), WO tvV QX12_counts 1 65 [(0, .ref 70), (1, .int x1), (2, .int x2), (3, .int x3), (4, .int x4)] [] h (m_X12_counts_65 k2 k8 f x1 x2 x3 x4 h) := by
  intro f
  induction f with
  | zero => intro x1 x2 x3 x4 h; exact z_none
  | succ f ih =>
    intro x1 x2 x3 x4 h
    rw [m_X12_counts_65]
    refine z_iload dX12_counts_65 4 rfl ?_
    refine z_bipush (v := 24) dX12_counts_67 (by decide) ?_
    refine z_ic_gt (tgt := 156) dX12_counts_69 (by decide) ?_ ?_
    · refine z_iincL (lv2 := fun v1 => [(3, .int v1), (0, .ref 70), (1, .int x1), (2, .int x2), (4, .int x4)]) dX12_counts_156 3 rfl rfl (Nat.le_of_ble_eq_true rfl) (fun _ => rfl) (fun v1 => ?_)
      refine z_goto (tgt := 8) dX12_counts_159 (by decide) ?_
      exact z_sub [1, 2, 3, 0] rfl (hk8 _ _ _ _)
    · refine z_aload_n dX12_counts_72 0 rfl ?_
      refine z_getR (j := 100) fX12_103 kc_70 rfl rfl rfl (by decide) dX12_counts_73 ?_
      refine z_sipush (v := 625) dX12_counts_76 (by decide) ?_
      refine z_iload_n dX12_counts_79 2 rfl ?_
      refine z_imul dX12_counts_80 ?_
      refine z_iload_n dX12_counts_81 3 rfl ?_
      refine z_iadd dX12_counts_82 ?_
      refine z_gd (fun g2 => ?_)
      refine z_iald kc_100 dX12_counts_83 g2 ?_
      refine z_iload dX12_counts_84 4 rfl ?_
      refine z_callSI dX12_counts_86 (M_X12_has _ _ _) bX12_has lX12_187 rfl rfl (Nat.le_of_ble_eq_true rfl) (Nat.le_of_ble_eq_true rfl) (fun r3 h4 => ?_)
      refine z_if_ne (tgt := 95) dX12_counts_89 (by decide) ?_ ?_
      · refine z_iload dX12_counts_95 4 rfl ?_
        refine z_aload_n dX12_counts_97 0 rfl ?_
        refine z_getR (j := 101) fX12_106 kc_70 rfl rfl rfl (by decide) dX12_counts_98 ?_
        refine z_sipush (v := 625) dX12_counts_101 (by decide) ?_
        refine z_iload_n dX12_counts_104 2 rfl ?_
        refine z_iconst (v := 1) dX12_counts_105 (by decide) ?_
        refine z_iadd dX12_counts_106 ?_
        refine z_imul dX12_counts_107 ?_
        refine z_iload_n dX12_counts_108 3 rfl ?_
        refine z_iload dX12_counts_109 4 rfl ?_
        refine z_callSI dX12_counts_111 (M_X12_pairBehind _ _ _) bX12_pairBehind lX12_419 rfl rfl (Nat.le_of_ble_eq_true rfl) (Nat.le_of_ble_eq_true rfl) (fun r5 h6 => ?_)
        refine z_iadd dX12_counts_114 ?_
        refine z_gd (fun g7 => ?_)
        refine z_iald kc_101 dX12_counts_115 g7 ?_
        refine z_iadd dX12_counts_116 ?_
        refine z_istoreL (lv2 := fun v8 => [(5, .int v8), (0, .ref 70), (1, .int x1), (2, .int x2), (3, .int x3), (4, .int x4)]) dX12_counts_117 (Nat.le_of_ble_eq_true rfl) (fun _ => rfl) (fun v8 => ?_)
        refine z_iload dX12_counts_119 0 rfl ?_
        refine z_aload_n dX12_counts_121 1 rfl ?_
        refine z_getR (j := 101) fX12_106 kc_70 rfl rfl rfl (by decide) dX12_counts_122 ?_
        refine z_sipush (v := 625) dX12_counts_125 (by decide) ?_
        refine z_iload_n dX12_counts_128 3 rfl ?_
        refine z_imul dX12_counts_129 ?_
        refine z_iload_n dX12_counts_130 4 rfl ?_
        refine z_iadd dX12_counts_131 ?_
        refine z_gd (fun g9 => ?_)
        refine z_iald kc_101 dX12_counts_132 g9 ?_
        refine z_ic_ge (tgt := 150) dX12_counts_133 (by decide) ?_ ?_
        · refine z_iincL (lv2 := fun v10 => [(4, .int v10), (5, .int v8), (0, .ref 70), (1, .int x1), (2, .int x2), (3, .int x3)]) dX12_counts_150 5 rfl rfl (Nat.le_of_ble_eq_true rfl) (fun _ => rfl) (fun v10 => ?_)
          refine z_goto (tgt := 65) dX12_counts_153 (by decide) ?_
          exact z_sub [2, 3, 4, 5, 0] rfl (ih _ _ _ _ _)
        · refine z_aload_n dX12_counts_136 1 rfl ?_
          refine z_getR (j := 101) fX12_106 kc_70 rfl rfl rfl (by decide) dX12_counts_137 ?_
          refine z_sipush (v := 625) dX12_counts_140 (by decide) ?_
          refine z_iload_n dX12_counts_143 3 rfl ?_
          refine z_imul dX12_counts_144 ?_
          refine z_iload_n dX12_counts_145 4 rfl ?_
          refine z_iadd dX12_counts_146 ?_
          refine z_iload dX12_counts_147 0 rfl ?_
          refine z_gd (fun g12 => ?_)
          refine z_iast kc_101 dX12_counts_149 g12 ?_
          refine z_lh (fun h11 => ?_)
          refine z_iincL (lv2 := fun v13 => [(4, .int v13), (5, .int v8), (0, .ref 70), (1, .int x1), (2, .int x2), (3, .int x3)]) dX12_counts_150 5 rfl rfl (Nat.le_of_ble_eq_true rfl) (fun _ => rfl) (fun v13 => ?_)
          refine z_goto (tgt := 65) dX12_counts_153 (by decide) ?_
          exact z_sub [2, 3, 4, 5, 0] rfl (ih _ _ _ _ _)
      · refine z_goto (tgt := 150) dX12_counts_92 (by decide) ?_
        refine z_iincL (lv2 := fun v14 => [(4, .int v14), (0, .ref 70), (1, .int x1), (2, .int x2), (3, .int x3)]) dX12_counts_150 4 rfl rfl (Nat.le_of_ble_eq_true rfl) (fun _ => rfl) (fun v14 => ?_)
        refine z_goto (tgt := 65) dX12_counts_153 (by decide) ?_
        exact z_sub [1, 2, 3, 4, 0] rfl (ih _ _ _ _ _)
set_option maxHeartbeats 4000000 in
set_option maxRecDepth 100000 in
theorem w_X12_counts_38 (k2 : Int32 → Int32 → AHp → Option (Unit × AHp)) (hk2 : ∀ (x1 : Int32) (x2 : Int32) (h : AHp), WO tvV QX12_counts 1 2 [(0, .ref 70), (1, .int x1), (2, .int x2)] [] h (k2 x1 x2 h)) (k8 : Int32 → Int32 → Int32 → AHp → Option (Unit × AHp)) (hk8 : ∀ (x1 : Int32) (x2 : Int32) (x3 : Int32) (h : AHp), WO tvV QX12_counts 1 8 [(0, .ref 70), (1, .int x1), (2, .int x2), (3, .int x3)] [] h (k8 x1 x2 x3 h)) (x1 : Int32) (x2 : Int32) (x3 : Int32) (s1 : Int32) (s2 : Int32) (h : AHp) : WO tvV QX12_counts 1 38 [(0, .ref 70), (1, .int x1), (2, .int x2), (3, .int x3)] [.int s2, .int s1, .ref 101] h (m_X12_counts_38 k2 k8 x1 x2 x3 s1 s2 h) := by
  unfold m_X12_counts_38
  refine z_gd (fun g16 => ?_)
  refine z_iast kc_101 dX12_counts_38 g16 ?_
  refine z_lh (fun h15 => ?_)
  refine z_iload_n dX12_counts_39 2 rfl ?_
  refine z_iload_n dX12_counts_40 1 rfl ?_
  refine z_ic_eq (tgt := 156) dX12_counts_41 (by decide) ?_ ?_
  · refine z_iincL (lv2 := fun v17 => [(3, .int v17), (0, .ref 70), (1, .int x1), (2, .int x2)]) dX12_counts_156 3 rfl rfl (Nat.le_of_ble_eq_true rfl) (fun _ => rfl) (fun v17 => ?_)
    refine z_goto (tgt := 8) dX12_counts_159 (by decide) ?_
    exact z_sub [1, 2, 3, 0] rfl (hk8 _ _ _ _)
  · refine z_aload_n dX12_counts_44 0 rfl ?_
    refine z_getR (j := 102) fX12_109 kc_70 rfl rfl rfl (by decide) dX12_counts_45 ?_
    refine z_sipush (v := 625) dX12_counts_48 (by decide) ?_
    refine z_iload_n dX12_counts_51 2 rfl ?_
    refine z_imul dX12_counts_52 ?_
    refine z_iload_n dX12_counts_53 3 rfl ?_
    refine z_iadd dX12_counts_54 ?_
    refine z_gd (fun g18 => ?_)
    refine z_zald kc_102 dX12_counts_55 g18 ?_
    refine z_if_ne (tgt := 62) dX12_counts_56 (by decide) ?_ ?_
    · refine z_iconst (v := 1) dX12_counts_62 (by decide) ?_
      refine z_istore (lv2 := [(4, .int 1), (0, .ref 70), (1, .int x1), (2, .int x2), (3, .int x3)]) dX12_counts_63 (Nat.le_of_ble_eq_true rfl) rfl ?_
      exact z_sub [1, 2, 3, 4, 0] rfl (w_X12_counts_65 _ hk2 _ hk8 FU _ _ _ _ _)
    · refine z_goto (tgt := 156) dX12_counts_59 (by decide) ?_
      refine z_iincL (lv2 := fun v19 => [(3, .int v19), (0, .ref 70), (1, .int x1), (2, .int x2)]) dX12_counts_156 3 rfl rfl (Nat.le_of_ble_eq_true rfl) (fun _ => rfl) (fun v19 => ?_)
      refine z_goto (tgt := 8) dX12_counts_159 (by decide) ?_
      exact z_sub [1, 2, 3, 0] rfl (hk8 _ _ _ _)
set_option maxHeartbeats 4000000 in
set_option maxRecDepth 100000 in
theorem w_X12_counts_8 (k2 : Int32 → Int32 → AHp → Option (Unit × AHp)) (hk2 : ∀ (x1 : Int32) (x2 : Int32) (h : AHp), WO tvV QX12_counts 1 2 [(0, .ref 70), (1, .int x1), (2, .int x2)] [] h (k2 x1 x2 h)) : ∀ (f : Nat) (x1 : Int32) (x2 : Int32) (x3 : Int32) (h : AHp), WO tvV QX12_counts 1 8 [(0, .ref 70), (1, .int x1), (2, .int x2), (3, .int x3)] [] h (m_X12_counts_8 k2 f x1 x2 x3 h) := by
  intro f
  induction f with
  | zero => intro x1 x2 x3 h; exact z_none
  | succ f ih =>
    intro x1 x2 x3 h
    rw [m_X12_counts_8]
    refine z_iload_n dX12_counts_8 3 rfl ?_
    refine z_sipush (v := 625) dX12_counts_9 (by decide) ?_
    refine z_ic_ge (tgt := 162) dX12_counts_12 (by decide) ?_ ?_
    · refine z_iincL (lv2 := fun v20 => [(2, .int v20), (0, .ref 70), (1, .int x1), (3, .int x3)]) dX12_counts_162 2 rfl rfl (Nat.le_of_ble_eq_true rfl) (fun _ => rfl) (fun v20 => ?_)
      refine z_goto (tgt := 2) dX12_counts_165 (by decide) ?_
      exact z_sub [1, 2, 0] rfl (hk2 _ _ _)
    · refine z_aload_n dX12_counts_15 0 rfl ?_
      refine z_getR (j := 101) fX12_106 kc_70 rfl rfl rfl (by decide) dX12_counts_16 ?_
      refine z_sipush (v := 625) dX12_counts_19 (by decide) ?_
      refine z_iload_n dX12_counts_22 2 rfl ?_
      refine z_imul dX12_counts_23 ?_
      refine z_iload_n dX12_counts_24 3 rfl ?_
      refine z_iadd dX12_counts_25 ?_
      refine z_iload_n dX12_counts_26 2 rfl ?_
      refine z_iload_n dX12_counts_27 1 rfl ?_
      refine z_ic_ne (tgt := 35) dX12_counts_28 (by decide) ?_ ?_
      · refine z_ldcw dX12_counts_35 kX12_422 ?_
        exact w_X12_counts_38 _ hk2 _ ih _ _ _ _ _ _
      · refine z_iconst (v := 0) dX12_counts_31 (by decide) ?_
        refine z_goto (tgt := 38) dX12_counts_32 (by decide) ?_
        exact w_X12_counts_38 _ hk2 _ ih _ _ _ _ _ _
set_option maxHeartbeats 4000000 in
set_option maxRecDepth 100000 in
theorem w_X12_counts_2 : ∀ (f : Nat) (x1 : Int32) (x2 : Int32) (h : AHp), WO tvV QX12_counts 1 2 [(0, .ref 70), (1, .int x1), (2, .int x2)] [] h (m_X12_counts_2 f x1 x2 h) := by
  intro f
  induction f with
  | zero => intro x1 x2 h; exact z_none
  | succ f ih =>
    intro x1 x2 h
    rw [m_X12_counts_2]
    refine z_iload_n dX12_counts_2 2 rfl ?_
    refine z_if_lt (tgt := 168) dX12_counts_3 (by decide) ?_ ?_
    · exact z_vret dX12_counts_168 rfl
    · refine z_iconst (v := 0) dX12_counts_6 (by decide) ?_
      refine z_istore_n (lv2 := [(3, .int 0), (0, .ref 70), (1, .int x1), (2, .int x2)]) dX12_counts_7 (Nat.le_of_ble_eq_true rfl) rfl ?_
      exact z_sub [1, 2, 3, 0] rfl (w_X12_counts_8 _ ih FU _ _ _ _)
set_option maxHeartbeats 4000000 in
set_option maxRecDepth 100000 in
theorem w_X12_counts (x1 : Int32) (h : AHp) : WO tvV QX12_counts 1 0 [(0, .ref 70), (1, .int x1)] [] h (m_X12_counts x1 h) := by
  unfold m_X12_counts
  refine z_iload_n dX12_counts_0 1 rfl ?_
  refine z_istore_n (lv2 := [(2, .int x1), (0, .ref 70), (1, .int x1)]) dX12_counts_1 (Nat.le_of_ble_eq_true rfl) rfl ?_
  exact z_sub [1, 2, 0] rfl (w_X12_counts_2 FU _ _ _)
theorem M_X12_counts (x1 : Int32) (h : AHp) : MV QX12_counts 1 [.ref 70, .int x1] h (m_X12_counts x1 h) := MV.of (by decide) rfl rfl (Nat.le_of_ble_eq_true rfl) (w_X12_counts x1 h)
set_option maxHeartbeats 4000000 in
set_option maxRecDepth 100000 in
theorem w_X12_heldBy_69 (k59 : Int32 → Int32 → Int32 → Int32 → AHp → Option (Int32 × AHp)) (hk59 : ∀ (x4 : Int32) (x6 : Int32) (x7 : Int32) (x8 : Int32) (h : AHp), WO tvI QX12_heldBy 7 59 [(0, .ref 70), (4, .int x4), (6, .int x6), (7, .int x7), (8, .int x8)] [] h (k59 x4 x6 x7 x8 h)) : ∀ (f : Nat) (x4 : Int32) (x6 : Int32) (x7 : Int32) (x8 : Int32) (h : AHp), WO tvI QX12_heldBy 7 69 [(0, .ref 70), (4, .int x4), (6, .int x6), (7, .int x7), (8, .int x8)] [] h (m_X12_heldBy_69 k59 f x4 x6 x7 x8 h) := by
  intro f
  induction f with
  | zero => intro x4 x6 x7 x8 h; exact z_none
  | succ f ih =>
    intro x4 x6 x7 x8 h
    rw [m_X12_heldBy_69]
    refine z_aload_n dX12_heldBy_69 0 rfl ?_
    refine z_getR (j := 100) fX12_103 kc_70 rfl rfl rfl (by decide) dX12_heldBy_70 ?_
    refine z_sipush (v := 625) dX12_heldBy_73 (by decide) ?_
    refine z_iload dX12_heldBy_76 4 rfl ?_
    refine z_imul dX12_heldBy_78 ?_
    refine z_iload dX12_heldBy_79 2 rfl ?_
    refine z_iadd dX12_heldBy_81 ?_
    refine z_gd (fun g1 => ?_)
    refine z_iald kc_100 dX12_heldBy_82 g1 ?_
    refine z_iload dX12_heldBy_83 3 rfl ?_
    refine z_callSI dX12_heldBy_85 (M_X12_has _ _ _) bX12_has lX12_187 rfl rfl (Nat.le_of_ble_eq_true rfl) (Nat.le_of_ble_eq_true rfl) (fun r2 h3 => ?_)
    refine z_if_eq (tgt := 132) dX12_heldBy_88 (by decide) ?_ ?_
    · refine z_iincL (lv2 := fun v4 => [(7, .int v4), (0, .ref 70), (4, .int x4), (6, .int x6), (8, .int x8)]) dX12_heldBy_132 3 rfl rfl (Nat.le_of_ble_eq_true rfl) (fun _ => rfl) (fun v4 => ?_)
      refine z_goto (tgt := 69) dX12_heldBy_135 (by decide) ?_
      exact z_sub [1, 2, 3, 0, 4] rfl (ih _ _ _ _ _)
    · refine z_iload dX12_heldBy_91 3 rfl ?_
      refine z_aload_n dX12_heldBy_93 0 rfl ?_
      refine z_getR (j := 101) fX12_106 kc_70 rfl rfl rfl (by decide) dX12_heldBy_94 ?_
      refine z_sipush (v := 625) dX12_heldBy_97 (by decide) ?_
      refine z_iload dX12_heldBy_100 4 rfl ?_
      refine z_iconst (v := 1) dX12_heldBy_102 (by decide) ?_
      refine z_iadd dX12_heldBy_103 ?_
      refine z_imul dX12_heldBy_104 ?_
      refine z_iload dX12_heldBy_105 2 rfl ?_
      refine z_iload dX12_heldBy_107 3 rfl ?_
      refine z_callSI dX12_heldBy_109 (M_X12_pairBehind _ _ _) bX12_pairBehind lX12_419 rfl rfl (Nat.le_of_ble_eq_true rfl) (Nat.le_of_ble_eq_true rfl) (fun r5 h6 => ?_)
      refine z_iadd dX12_heldBy_112 ?_
      refine z_gd (fun g7 => ?_)
      refine z_iald kc_101 dX12_heldBy_113 g7 ?_
      refine z_iadd dX12_heldBy_114 ?_
      refine z_aload_n dX12_heldBy_115 0 rfl ?_
      refine z_getR (j := 101) fX12_106 kc_70 rfl rfl rfl (by decide) dX12_heldBy_116 ?_
      refine z_sipush (v := 625) dX12_heldBy_119 (by decide) ?_
      refine z_iload dX12_heldBy_122 4 rfl ?_
      refine z_imul dX12_heldBy_124 ?_
      refine z_iload dX12_heldBy_125 2 rfl ?_
      refine z_iadd dX12_heldBy_127 ?_
      refine z_gd (fun g8 => ?_)
      refine z_iald kc_101 dX12_heldBy_128 g8 ?_
      refine z_ic_eq (tgt := 138) dX12_heldBy_129 (by decide) ?_ ?_
      · refine z_iload dX12_heldBy_138 2 rfl ?_
        refine z_iload dX12_heldBy_140 3 rfl ?_
        refine z_callSI dX12_heldBy_142 (M_X12_pairBehind _ _ _) bX12_pairBehind lX12_419 rfl rfl (Nat.le_of_ble_eq_true rfl) (Nat.le_of_ble_eq_true rfl) (fun r9 h10 => ?_)
        refine z_istore (lv2 := [(6, .int r9), (0, .ref 70), (4, .int x4), (7, .int x7), (8, .int x8)]) dX12_heldBy_145 (Nat.le_of_ble_eq_true rfl) rfl ?_
        refine z_iincL (lv2 := fun v11 => [(8, .int v11), (6, .int r9), (0, .ref 70), (4, .int x4), (7, .int x7)]) dX12_heldBy_147 4 rfl rfl (Nat.le_of_ble_eq_true rfl) (fun _ => rfl) (fun v11 => ?_)
        refine z_goto (tgt := 59) dX12_heldBy_150 (by decide) ?_
        exact z_sub [2, 3, 1, 4, 0] rfl (hk59 _ _ _ _ _)
      · refine z_iincL (lv2 := fun v12 => [(7, .int v12), (0, .ref 70), (4, .int x4), (6, .int x6), (8, .int x8)]) dX12_heldBy_132 3 rfl rfl (Nat.le_of_ble_eq_true rfl) (fun _ => rfl) (fun v12 => ?_)
        refine z_goto (tgt := 69) dX12_heldBy_135 (by decide) ?_
        exact z_sub [1, 2, 3, 0, 4] rfl (ih _ _ _ _ _)
set_option maxHeartbeats 4000000 in
set_option maxRecDepth 100000 in
theorem w_X12_heldBy_59 : ∀ (f : Nat) (x4 : Int32) (x6 : Int32) (x7 : Int32) (x8 : Int32) (h : AHp), WO tvI QX12_heldBy 7 59 [(0, .ref 70), (4, .int x4), (6, .int x6), (7, .int x7), (8, .int x8)] [] h (m_X12_heldBy_59 f x4 x6 x7 x8 h) := by
  intro f
  induction f with
  | zero => intro x4 x6 x7 x8 h; exact z_none
  | succ f ih =>
    intro x4 x6 x7 x8 h
    rw [m_X12_heldBy_59]
    refine z_iload dX12_heldBy_59 4 rfl ?_
    refine z_iload dX12_heldBy_61 1 rfl ?_
    refine z_ic_gt (tgt := 153) dX12_heldBy_63 (by decide) ?_ ?_
    · refine z_iload dX12_heldBy_153 3 rfl ?_
      exact z_iret dX12_heldBy_155 rfl
    · refine z_iconst (v := 1) dX12_heldBy_66 (by decide) ?_
      refine z_istore (lv2 := [(7, .int 1), (0, .ref 70), (4, .int x4), (6, .int x6), (8, .int x8)]) dX12_heldBy_67 (Nat.le_of_ble_eq_true rfl) rfl ?_
      exact z_sub [1, 2, 3, 0, 4] rfl (w_X12_heldBy_69 _ ih FU _ _ _ _ _)
set_option maxHeartbeats 4000000 in
set_option maxRecDepth 100000 in
theorem w_X12_heldBy (x1 : Int32) (x2 : Int32) (x3 : Int32) (x4 : Int32) (h : AHp) : WO tvI QX12_heldBy 7 0 [(0, .ref 70), (1, .int x1), (2, .int x2), (3, .int x3), (4, .int x4)] [] h (m_X12_heldBy x1 x2 x3 x4 h) := by
  unfold m_X12_heldBy
  refine z_aload_n dX12_heldBy_0 0 rfl ?_
  refine z_iload_n dX12_heldBy_1 1 rfl ?_
  refine z_iload_n dX12_heldBy_2 2 rfl ?_
  refine z_iload_n dX12_heldBy_3 3 rfl ?_
  refine z_callVI dX12_heldBy_4 (M_X12_reaches _ _ _ _) bX12_reaches lX12_423 kc_70 rfl rfl (Nat.le_of_ble_eq_true rfl) (Nat.le_of_ble_eq_true rfl) (fun r13 h14 => ?_)
  refine z_istore (lv2 := [(5, .int r13), (0, .ref 70), (1, .int x1), (2, .int x2), (3, .int x3), (4, .int x4)]) dX12_heldBy_7 (Nat.le_of_ble_eq_true rfl) rfl ?_
  refine z_iload dX12_heldBy_9 5 rfl ?_
  refine z_bipush (v := 20) dX12_heldBy_11 (by decide) ?_
  refine z_ic_ne (tgt := 19) dX12_heldBy_13 (by decide) ?_ ?_
  · refine z_aload_n dX12_heldBy_19 1 rfl ?_
    refine z_iload_n dX12_heldBy_20 3 rfl ?_
    refine z_callVV dX12_heldBy_21 (M_X12_counts _ _) bX12_counts lX12_426 kc_70 rfl rfl (Nat.le_of_ble_eq_true rfl) (Nat.le_of_ble_eq_true rfl) (fun r15 h16 => ?_)
    refine z_aload_n dX12_heldBy_24 1 rfl ?_
    refine z_callVI dX12_heldBy_25 (M_X12_startPair _) bX12_startPair lX12_410 kc_70 rfl rfl (Nat.le_of_ble_eq_true rfl) (Nat.le_of_ble_eq_true rfl) (fun r17 h18 => ?_)
    refine z_istore (lv2 := [(6, .int r17), (5, .int r13), (0, .ref 70), (1, .int x1), (2, .int x2), (3, .int x3), (4, .int x4)]) dX12_heldBy_28 (Nat.le_of_ble_eq_true rfl) rfl ?_
    refine z_iload dX12_heldBy_30 1 rfl ?_
    refine z_iload_n dX12_heldBy_32 4 rfl ?_
    refine z_ic_ge (tgt := 39) dX12_heldBy_33 (by decide) ?_ ?_
    · refine z_iload dX12_heldBy_39 6 rfl ?_
      refine z_iconst (v := -1) dX12_heldBy_41 (by decide) ?_
      refine z_ic_ne (tgt := 53) dX12_heldBy_42 (by decide) ?_ ?_
      · refine z_iconst (v := 0) dX12_heldBy_53 (by decide) ?_
        refine z_istore (lv2 := [(7, .int 0), (6, .int r17), (5, .int r13), (0, .ref 70), (1, .int x1), (2, .int x2), (3, .int x3), (4, .int x4)]) dX12_heldBy_54 (Nat.le_of_ble_eq_true rfl) rfl ?_
        refine z_iconst (v := 0) dX12_heldBy_56 (by decide) ?_
        refine z_istore (lv2 := [(8, .int 0), (7, .int 0), (6, .int r17), (5, .int r13), (0, .ref 70), (1, .int x1), (2, .int x2), (3, .int x3), (4, .int x4)]) dX12_heldBy_57 (Nat.le_of_ble_eq_true rfl) rfl ?_
        exact z_sub [4, 8, 2, 1, 0] rfl (w_X12_heldBy_59 FU _ _ _ _ _)
      · refine z_aload_n dX12_heldBy_45 2 rfl ?_
        refine z_getR (j := 101) fX12_106 kc_70 rfl rfl rfl (by decide) dX12_heldBy_46 ?_
        refine z_iload dX12_heldBy_49 0 rfl ?_
        refine z_gd (fun g19 => ?_)
        refine z_iald kc_101 dX12_heldBy_51 g19 ?_
        exact z_iret dX12_heldBy_52 rfl
    · refine z_bipush (v := -2) dX12_heldBy_36 (by decide) ?_
      exact z_iret dX12_heldBy_38 rfl
  · refine z_iload dX12_heldBy_16 0 rfl ?_
    exact z_iret dX12_heldBy_18 rfl
theorem M_X12_heldBy (x1 : Int32) (x2 : Int32) (x3 : Int32) (x4 : Int32) (h : AHp) : MI QX12_heldBy 7 [.ref 70, .int x1, .int x2, .int x3, .int x4] h (m_X12_heldBy x1 x2 x3 x4 h) := MI.of (by decide) rfl rfl (Nat.le_of_ble_eq_true rfl) (w_X12_heldBy x1 x2 x3 x4 h)
