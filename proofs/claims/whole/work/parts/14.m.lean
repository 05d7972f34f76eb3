set_option maxHeartbeats 4000000 in
set_option maxRecDepth 100000 in
theorem c_X6_isMore (l : Launch) (D : va_G) (cI cL cG cM : ClassId)  (a1 : Int) (b1 : Int) (c1 : Int) (d1 : Int) (ha : -4611686018427387904 ≤ a1 ∧ a1 ≤ 4611686018427387904) (hb1 : 0 < b1 ∧ b1 ≤ 4611686018427387904) (hc : -4611686018427387904 ≤ c1 ∧ c1 ≤ 4611686018427387904) (hd : 0 < d1 ∧ d1 ≤ 4611686018427387904) : Met l yX6_isMore (wU yX6_isMore cX6_isMore 26 (some .boolean)) (rmF 0 0) (pcN [.long (lI a1), .long (lI b1), .long (lI c1), .long (lI d1)]) (qRi (zb (c1 * b1 < a1 * d1))) 0 0 (fun _ => False) := by
  refine zm_N (own := RX6) (lv := [(0, .long (lI a1)), (2, .long (lI b1)), (4, .long (lI c1)), (6, .long (lI d1))]) (by decide) rfl (Nat.le_of_ble_eq_true rfl) rfl ?_
  intro p e s m below meth c args Q hx hb hr hml hown hU hlk hQ ls hl
  refine lv_lload_n hx hb dX6_isMore_0 rfl (lv_at hl 0 rfl) ?_
  refine lv_lstore (lv' := [(8, .long (lI a1)), (0, .long (lI a1)), (2, .long (lI b1)), (4, .long (lI c1)), (6, .long (lI d1))]) hx hb dX6_isMore_1 hl (by decide) rfl (fun ls hl => ?_)
  refine lv_lload_n hx hb dX6_isMore_3 rfl (lv_at hl 2 rfl) ?_
  refine lv_lstore (lv' := [(10, .long (lI b1)), (8, .long (lI a1)), (0, .long (lI a1)), (2, .long (lI b1)), (4, .long (lI c1)), (6, .long (lI d1))]) hx hb dX6_isMore_4 hl (by decide) rfl (fun ls hl => ?_)
  refine lv_lload hx hb dX6_isMore_6 (lv_at hl 4 rfl) ?_
  refine lv_lstore (lv' := [(12, .long (lI c1)), (10, .long (lI b1)), (8, .long (lI a1)), (0, .long (lI a1)), (2, .long (lI b1)), (4, .long (lI c1)), (6, .long (lI d1))]) hx hb dX6_isMore_8 hl (by decide) rfl (fun ls hl => ?_)
  refine lv_lload hx hb dX6_isMore_10 (lv_at hl 6 rfl) ?_
  refine lv_lstore (lv' := [(14, .long (lI d1)), (12, .long (lI c1)), (10, .long (lI b1)), (8, .long (lI a1)), (0, .long (lI a1)), (2, .long (lI b1)), (4, .long (lI c1)), (6, .long (lI d1))]) hx hb dX6_isMore_12 hl (by decide) rfl (fun ls hl => ?_)
  refine lv_iconst (v := iI 0) hx hb dX6_isMore_14 rfl ?_
  refine lv_istore (lv' := [(16, .int (iI 0)), (14, .long (lI d1)), (12, .long (lI c1)), (10, .long (lI b1)), (8, .long (lI a1)), (0, .long (lI a1)), (2, .long (lI b1)), (4, .long (lI c1)), (6, .long (lI d1))]) hx hb dX6_isMore_15 hl (by decide) rfl (fun ls hl => ?_)
  refine lv_iconst (v := iI 0) hx hb dX6_isMore_17 rfl ?_
  refine lv_istore (lv' := [(17, .int (iI 0)), (16, .int (iI 0)), (14, .long (lI d1)), (12, .long (lI c1)), (10, .long (lI b1)), (8, .long (lI a1)), (0, .long (lI a1)), (2, .long (lI b1)), (4, .long (lI c1)), (6, .long (lI d1))]) hx hb dX6_isMore_18 hl (by decide) rfl (fun ls hl => ?_)
  have LP20 : ∀ (n : Nat), ∀ (t : Nat) (pa : Int) (qa : Int) (ra : Int) (sa : Int) (tn : Int), (-4611686018427387904 ≤ pa ∧ pa ≤ 4611686018427387904) → (0 < qa) → (qa ≤ 4611686018427387904) → (-4611686018427387904 ≤ ra ∧ ra ≤ 4611686018427387904) → (0 < sa) → (sa ≤ 4611686018427387904) → (tn = 0 ∨ tn = 1) → ((tn = 0 → (c1 * b1 < a1 * d1 ↔ ra * qa < pa * sa)) ∧ (tn = 1 → (c1 * b1 < a1 * d1 ↔ pa * sa < ra * qa))) → ((t = 0 ∧ qa ≤ 2 ^ 63) ∨ (qa ≤ pa ∧ pa * qa * 2 ^ t ≤ 2 ^ 128)) → (200 < t + n) → ∀ (ls : Array Slot), lv_has ls 26 [(8, .long (lI pa)), (10, .long (lI qa)), (12, .long (lI ra)), (14, .long (lI sa)), (16, .int (iI tn)), (17, .int (iI (t : Int)))] → W p l e (rmF 0 0) s m args below meth c s.heap [] 0 0 Q (F0 m 20 ls []) := by
    intro n
    induction n with
    | zero =>
      intro t pa qa ra sa tn hp hq hq2 hr2 hs hs2 htn hinv hpot hfu
      exfalso
      have := mr_end hq hpot; omega
    | succ n ih20 =>
      intro t pa qa ra sa tn hp hq hq2 hr2 hs hs2 htn hinv hpot hfu ls hl
      have ht := mr_end hq hpot
      have e1 := ed_rg hq (by omega) hp
      have e2 := ed_rg hs (by omega) hr2
      have m1 := Int.lt_tmod_of_pos pa hq
      have m2 := Int.tmod_lt_of_pos pa hq
      have m3 := Int.lt_tmod_of_pos ra hs
      have m4 := Int.tmod_lt_of_pos ra hs
      have n1 := Int.emod_nonneg pa (show qa ≠ 0 by omega)
      have n2 := Int.emod_lt_of_pos pa hq
      have n3 := Int.emod_nonneg ra (show sa ≠ 0 by omega)
      have n4 := Int.emod_lt_of_pos ra hs
      refine lv_iload hx hb dX6_isMore_20 (lv_at hl 5 rfl) ?_
      refine lv_sipush (v := iI 200) hx hb dX6_isMore_22 (by decide) ?_
      refine zr_icmp_ge (tgt := 205) hx hb dX6_isMore_25 (by decide) (by omega) (by omega) (fun c_1 => by exfalso; omega) (fun c_1 => ?_)
      refine lv_lload hx hb dX6_isMore_28 (lv_at hl 0 rfl) ?_
      refine lv_lload hx hb dX6_isMore_30 (lv_at hl 1 rfl) ?_
      refine zr_ldiv hx hb dX6_isMore_32 (by omega) (by omega) (by omega) ?_
      refine lv_lstore (lv' := [(18, .long (lI (pa.tdiv qa))), (8, .long (lI pa)), (10, .long (lI qa)), (12, .long (lI ra)), (14, .long (lI sa)), (16, .int (iI tn)), (17, .int (iI (t : Int)))]) hx hb dX6_isMore_33 hl (by decide) rfl (fun ls hl => ?_)
      refine lv_lload hx hb dX6_isMore_35 (lv_at hl 3 rfl) ?_
      refine lv_lload hx hb dX6_isMore_37 (lv_at hl 4 rfl) ?_
      refine zr_ldiv hx hb dX6_isMore_39 (by omega) (by omega) (by omega) ?_
      refine lv_lstore (lv' := [(20, .long (lI (ra.tdiv sa))), (18, .long (lI (pa.tdiv qa))), (8, .long (lI pa)), (10, .long (lI qa)), (12, .long (lI ra)), (14, .long (lI sa)), (16, .int (iI tn)), (17, .int (iI (t : Int)))]) hx hb dX6_isMore_40 hl (by decide) rfl (fun ls hl => ?_)
      refine lv_lload hx hb dX6_isMore_42 (lv_at hl 2 rfl) ?_
      refine lv_lload hx hb dX6_isMore_44 (lv_at hl 3 rfl) ?_
      refine zr_lrem hx hb dX6_isMore_46 (by omega) (by omega) (by omega) ?_
      refine lv_lconst (v := lI 0) hx hb dX6_isMore_47 rfl ?_
      refine zr_lcmp_ge (tgt := 58) hx hb dX6_isMore_48 dX6_isMore_49 (by decide) (by omega) (by omega) (fun c48 => ?_) (fun c48 => ?_)
      · skip
        rw [show (pa.tdiv qa) = (pa / qa) from fl_div hq c48] at hl
        refine lv_lload hx hb dX6_isMore_58 (lv_at hl 4 rfl) ?_
        refine lv_lload hx hb dX6_isMore_60 (lv_at hl 5 rfl) ?_
        refine zr_lrem hx hb dX6_isMore_62 (by omega) (by omega) (by omega) ?_
        refine lv_lconst (v := lI 0) hx hb dX6_isMore_63 rfl ?_
        refine zr_lcmp_ge (tgt := 74) hx hb dX6_isMore_64 dX6_isMore_65 (by decide) (by omega) (by omega) (fun c64 => ?_) (fun c64 => ?_)
        · skip
          rw [show (ra.tdiv sa) = (ra / sa) from fl_div hs c64] at hl
          refine lv_lload hx hb dX6_isMore_74 (lv_at hl 1 rfl) ?_
          refine lv_lload hx hb dX6_isMore_76 (lv_at hl 0 rfl) ?_
          refine zr_lcmp_eq (tgt := 106) hx hb dX6_isMore_78 dX6_isMore_79 (by decide) (by omega) (by omega) (fun hE => ?_) (fun hE => ?_)
          · skip
            refine lv_lload hx hb dX6_isMore_106 (lv_at hl 2 rfl) ?_
            refine lv_lload hx hb dX6_isMore_108 (lv_at hl 1 rfl) ?_
            refine lv_lload hx hb dX6_isMore_110 (lv_at hl 3 rfl) ?_
            refine zr_lmul hx hb dX6_isMore_112 ?_
            refine zr_lsub hx hb dX6_isMore_113 ?_
            refine zr_rwl (v := (pa % qa)) (mr_sub) ?_
            refine lv_lstore (lv' := [(22, .long (lI (pa % qa))), (20, .long (lI (ra / sa))), (18, .long (lI (pa / qa))), (8, .long (lI pa)), (10, .long (lI qa)), (12, .long (lI ra)), (14, .long (lI sa)), (16, .int (iI tn)), (17, .int (iI (t : Int)))]) hx hb dX6_isMore_114 hl (by decide) rfl (fun ls hl => ?_)
            refine lv_lload hx hb dX6_isMore_116 (lv_at hl 5 rfl) ?_
            refine lv_lload hx hb dX6_isMore_118 (lv_at hl 1 rfl) ?_
            refine lv_lload hx hb dX6_isMore_120 (lv_at hl 6 rfl) ?_
            refine zr_lmul hx hb dX6_isMore_122 ?_
            refine zr_lsub hx hb dX6_isMore_123 ?_
            refine zr_rwl (v := (ra % sa)) (mr_sub) ?_
            refine lv_lstore (lv' := [(24, .long (lI (ra % sa))), (22, .long (lI (pa % qa))), (20, .long (lI (ra / sa))), (18, .long (lI (pa / qa))), (8, .long (lI pa)), (10, .long (lI qa)), (12, .long (lI ra)), (14, .long (lI sa)), (16, .int (iI tn)), (17, .int (iI (t : Int)))]) hx hb dX6_isMore_124 hl (by decide) rfl (fun ls hl => ?_)
            refine lv_lload hx hb dX6_isMore_126 (lv_at hl 1 rfl) ?_
            refine lv_lconst (v := lI 0) hx hb dX6_isMore_128 rfl ?_
            refine zr_lcmp_eq (tgt := 140) hx hb dX6_isMore_129 dX6_isMore_130 (by decide) (by omega) (by omega) (fun c_2 => ?_) (fun c_2 => ?_)
            · skip
              refine lv_lload hx hb dX6_isMore_140 (lv_at hl 1 rfl) ?_
              refine lv_lload hx hb dX6_isMore_142 (lv_at hl 0 rfl) ?_
              refine zr_lcmp_eq (tgt := 169) hx hb dX6_isMore_144 dX6_isMore_145 (by decide) (by omega) (by omega) (fun c_3 => ?_) (fun c_3 => ?_)
              · skip
                refine lv_iconst (v := iI 0) hx hb dX6_isMore_169 rfl ?_
                rw [hQ]
                exact ze_Rz hx hb hr hlk dX6_isMore_170 (Or.inl rfl) (by have h9 := mr_fin hq hs hE; exact (zb_f (fun h8 => by rcases htn with h | h; (have := (hinv.1 h).mp h8; omega); (have := (hinv.2 h).mp h8; omega))).symm)
              · skip
                refine lv_lload hx hb dX6_isMore_148 (lv_at hl 1 rfl) ?_
                refine lv_lconst (v := lI 0) hx hb dX6_isMore_150 rfl ?_
                refine zr_lcmp_le (tgt := 159) hx hb dX6_isMore_151 dX6_isMore_152 (by decide) (by omega) (by omega) (fun c_4 => ?_) (fun c_4 => ?_)
                · skip
                  refine lv_iconst (v := iI 0) hx hb dX6_isMore_159 rfl ?_
                  refine lv_iload hx hb dX6_isMore_160 (lv_at hl 8 rfl) ?_
                  refine zr_icmp_eq (tgt := 169) hx hb dX6_isMore_162 (by decide) (by omega) (by omega) (fun c_5 => ?_) (fun c_5 => ?_)
                  · skip
                    refine lv_iconst (v := iI 0) hx hb dX6_isMore_169 rfl ?_
                    rw [hQ]
                    exact ze_Rz hx hb hr hlk dX6_isMore_170 (Or.inl rfl) (by have h9 := mr_fin hq hs hE; exact (zb_f (fun h8 => by rcases htn with h | h; (have := (hinv.1 h).mp h8; omega); (have := (hinv.2 h).mp h8; omega))).symm)
                  · skip
                    refine lv_iconst (v := iI 1) hx hb dX6_isMore_165 rfl ?_
                    refine lv_goto (tgt := 170) hx hb dX6_isMore_166 (by decide) ?_
                    rw [hQ]
                    exact ze_Rz hx hb hr hlk dX6_isMore_170 (Or.inr rfl) (by have h9 := mr_fin hq hs hE; exact (zb_t (by rcases htn with h | h; (exact (hinv.1 h).mpr (by omega)); (exact (hinv.2 h).mpr (by omega)))).symm)
                · skip
                  refine lv_iconst (v := iI 1) hx hb dX6_isMore_155 rfl ?_
                  refine lv_goto (tgt := 160) hx hb dX6_isMore_156 (by decide) ?_
                  refine lv_iload hx hb dX6_isMore_160 (lv_at hl 8 rfl) ?_
                  refine zr_icmp_eq (tgt := 169) hx hb dX6_isMore_162 (by decide) (by omega) (by omega) (fun c_6 => ?_) (fun c_6 => ?_)
                  · skip
                    refine lv_iconst (v := iI 0) hx hb dX6_isMore_169 rfl ?_
                    rw [hQ]
                    exact ze_Rz hx hb hr hlk dX6_isMore_170 (Or.inl rfl) (by have h9 := mr_fin hq hs hE; exact (zb_f (fun h8 => by rcases htn with h | h; (have := (hinv.1 h).mp h8; omega); (have := (hinv.2 h).mp h8; omega))).symm)
                  · skip
                    refine lv_iconst (v := iI 1) hx hb dX6_isMore_165 rfl ?_
                    refine lv_goto (tgt := 170) hx hb dX6_isMore_166 (by decide) ?_
                    rw [hQ]
                    exact ze_Rz hx hb hr hlk dX6_isMore_170 (Or.inr rfl) (by have h9 := mr_fin hq hs hE; exact (zb_t (by rcases htn with h | h; (exact (hinv.1 h).mpr (by omega)); (exact (hinv.2 h).mpr (by omega)))).symm)
            · skip
              refine lv_lload hx hb dX6_isMore_133 (lv_at hl 0 rfl) ?_
              refine lv_lconst (v := lI 0) hx hb dX6_isMore_135 rfl ?_
              refine zr_lcmp_ne (tgt := 171) hx hb dX6_isMore_136 dX6_isMore_137 (by decide) (by omega) (by omega) (fun c_7 => ?_) (fun c_7 => ?_)
              · skip
                refine lv_lload hx hb dX6_isMore_171 (lv_at hl 5 rfl) ?_
                refine lv_lstore (lv' := [(8, .long (lI qa)), (24, .long (lI (ra % sa))), (22, .long (lI (pa % qa))), (20, .long (lI (ra / sa))), (18, .long (lI (pa / qa))), (10, .long (lI qa)), (12, .long (lI ra)), (14, .long (lI sa)), (16, .int (iI tn)), (17, .int (iI (t : Int)))]) hx hb dX6_isMore_173 hl (by decide) rfl (fun ls hl => ?_)
                refine lv_lload hx hb dX6_isMore_175 (lv_at hl 7 rfl) ?_
                refine lv_lstore (lv' := [(12, .long (lI sa)), (8, .long (lI qa)), (24, .long (lI (ra % sa))), (22, .long (lI (pa % qa))), (20, .long (lI (ra / sa))), (18, .long (lI (pa / qa))), (10, .long (lI qa)), (14, .long (lI sa)), (16, .int (iI tn)), (17, .int (iI (t : Int)))]) hx hb dX6_isMore_177 hl (by decide) rfl (fun ls hl => ?_)
                refine lv_lload hx hb dX6_isMore_179 (lv_at hl 3 rfl) ?_
                refine lv_lstore (lv' := [(10, .long (lI (pa % qa))), (12, .long (lI sa)), (8, .long (lI qa)), (24, .long (lI (ra % sa))), (22, .long (lI (pa % qa))), (20, .long (lI (ra / sa))), (18, .long (lI (pa / qa))), (14, .long (lI sa)), (16, .int (iI tn)), (17, .int (iI (t : Int)))]) hx hb dX6_isMore_181 hl (by decide) rfl (fun ls hl => ?_)
                refine lv_lload hx hb dX6_isMore_183 (lv_at hl 3 rfl) ?_
                refine lv_lstore (lv' := [(14, .long (lI (ra % sa))), (10, .long (lI (pa % qa))), (12, .long (lI sa)), (8, .long (lI qa)), (24, .long (lI (ra % sa))), (22, .long (lI (pa % qa))), (20, .long (lI (ra / sa))), (18, .long (lI (pa / qa))), (16, .int (iI tn)), (17, .int (iI (t : Int)))]) hx hb dX6_isMore_185 hl (by decide) rfl (fun ls hl => ?_)
                refine lv_iload hx hb dX6_isMore_187 (lv_at hl 8 rfl) ?_
                refine zr_if_ne (tgt := 196) hx hb dX6_isMore_189 (by decide) (by omega) (fun c_8 => ?_) (fun c_8 => ?_)
                · skip
                  refine lv_iconst (v := iI 0) hx hb dX6_isMore_196 rfl ?_
                  refine lv_istore (lv' := [(16, .int (iI 0)), (14, .long (lI (ra % sa))), (10, .long (lI (pa % qa))), (12, .long (lI sa)), (8, .long (lI qa)), (24, .long (lI (ra % sa))), (22, .long (lI (pa % qa))), (20, .long (lI (ra / sa))), (18, .long (lI (pa / qa))), (17, .int (iI (t : Int)))]) hx hb dX6_isMore_197 hl (by decide) rfl (fun ls hl => ?_)
                  refine lv_iinc (v := iI ((t : Int) + 1)) (lv' := [(17, .int (iI ((t : Int) + 1))), (16, .int (iI 0)), (14, .long (lI (ra % sa))), (10, .long (lI (pa % qa))), (12, .long (lI sa)), (8, .long (lI qa)), (24, .long (lI (ra % sa))), (22, .long (lI (pa % qa))), (20, .long (lI (ra / sa))), (18, .long (lI (pa / qa)))]) hx hb dX6_isMore_199 hl (k := 9) rfl (iI_add _ _) (by decide) rfl (fun ls hl => ?_)
                  refine lv_goto (tgt := 20) hx hb dX6_isMore_202 (by decide) ?_
                  exact ih20 (t + 1) qa (pa % qa) sa (ra % sa) 0 (by omega) (by omega) (by omega) (by omega) (by omega) (by omega) (by omega) (⟨fun _ => (hinv.2 (by omega)).trans (mr_step hE).1, fun h => by omega⟩) (Or.inr (mr_pot hq (by omega) hpot)) (by first | omega | (have := mr_end hq hpot; omega)) ls (lv_sub hl [5, 3, 4, 2, 1, 0] rfl)
                · skip
                  refine lv_iconst (v := iI 1) hx hb dX6_isMore_192 rfl ?_
                  refine lv_goto (tgt := 197) hx hb dX6_isMore_193 (by decide) ?_
                  refine lv_istore (lv' := [(16, .int (iI 1)), (14, .long (lI (ra % sa))), (10, .long (lI (pa % qa))), (12, .long (lI sa)), (8, .long (lI qa)), (24, .long (lI (ra % sa))), (22, .long (lI (pa % qa))), (20, .long (lI (ra / sa))), (18, .long (lI (pa / qa))), (17, .int (iI (t : Int)))]) hx hb dX6_isMore_197 hl (by decide) rfl (fun ls hl => ?_)
                  refine lv_iinc (v := iI ((t : Int) + 1)) (lv' := [(17, .int (iI ((t : Int) + 1))), (16, .int (iI 1)), (14, .long (lI (ra % sa))), (10, .long (lI (pa % qa))), (12, .long (lI sa)), (8, .long (lI qa)), (24, .long (lI (ra % sa))), (22, .long (lI (pa % qa))), (20, .long (lI (ra / sa))), (18, .long (lI (pa / qa)))]) hx hb dX6_isMore_199 hl (k := 9) rfl (iI_add _ _) (by decide) rfl (fun ls hl => ?_)
                  refine lv_goto (tgt := 20) hx hb dX6_isMore_202 (by decide) ?_
                  exact ih20 (t + 1) qa (pa % qa) sa (ra % sa) 1 (by omega) (by omega) (by omega) (by omega) (by omega) (by omega) (by omega) (⟨fun h => by omega, fun _ => (hinv.1 (by omega)).trans (mr_step hE).2⟩) (Or.inr (mr_pot hq (by omega) hpot)) (by first | omega | (have := mr_end hq hpot; omega)) ls (lv_sub hl [5, 3, 4, 2, 1, 0] rfl)
              · skip
                refine lv_lload hx hb dX6_isMore_140 (lv_at hl 1 rfl) ?_
                refine lv_lload hx hb dX6_isMore_142 (lv_at hl 0 rfl) ?_
                refine zr_lcmp_eq (tgt := 169) hx hb dX6_isMore_144 dX6_isMore_145 (by decide) (by omega) (by omega) (fun c_9 => ?_) (fun c_9 => ?_)
                · skip
                  refine lv_iconst (v := iI 0) hx hb dX6_isMore_169 rfl ?_
                  rw [hQ]
                  exact ze_Rz hx hb hr hlk dX6_isMore_170 (Or.inl rfl) (by have h9 := mr_fin hq hs hE; exact (zb_f (fun h8 => by rcases htn with h | h; (have := (hinv.1 h).mp h8; omega); (have := (hinv.2 h).mp h8; omega))).symm)
                · skip
                  refine lv_lload hx hb dX6_isMore_148 (lv_at hl 1 rfl) ?_
                  refine lv_lconst (v := lI 0) hx hb dX6_isMore_150 rfl ?_
                  refine zr_lcmp_le (tgt := 159) hx hb dX6_isMore_151 dX6_isMore_152 (by decide) (by omega) (by omega) (fun c_10 => ?_) (fun c_10 => ?_)
                  · skip
                    refine lv_iconst (v := iI 0) hx hb dX6_isMore_159 rfl ?_
                    refine lv_iload hx hb dX6_isMore_160 (lv_at hl 8 rfl) ?_
                    refine zr_icmp_eq (tgt := 169) hx hb dX6_isMore_162 (by decide) (by omega) (by omega) (fun c_11 => ?_) (fun c_11 => ?_)
                    · skip
                      refine lv_iconst (v := iI 0) hx hb dX6_isMore_169 rfl ?_
                      rw [hQ]
                      exact ze_Rz hx hb hr hlk dX6_isMore_170 (Or.inl rfl) (by have h9 := mr_fin hq hs hE; exact (zb_f (fun h8 => by rcases htn with h | h; (have := (hinv.1 h).mp h8; omega); (have := (hinv.2 h).mp h8; omega))).symm)
                    · skip
                      refine lv_iconst (v := iI 1) hx hb dX6_isMore_165 rfl ?_
                      refine lv_goto (tgt := 170) hx hb dX6_isMore_166 (by decide) ?_
                      rw [hQ]
                      exact ze_Rz hx hb hr hlk dX6_isMore_170 (Or.inr rfl) (by have h9 := mr_fin hq hs hE; exact (zb_t (by rcases htn with h | h; (exact (hinv.1 h).mpr (by omega)); (exact (hinv.2 h).mpr (by omega)))).symm)
                  · skip
                    refine lv_iconst (v := iI 1) hx hb dX6_isMore_155 rfl ?_
                    refine lv_goto (tgt := 160) hx hb dX6_isMore_156 (by decide) ?_
                    refine lv_iload hx hb dX6_isMore_160 (lv_at hl 8 rfl) ?_
                    refine zr_icmp_eq (tgt := 169) hx hb dX6_isMore_162 (by decide) (by omega) (by omega) (fun c_12 => ?_) (fun c_12 => ?_)
                    · skip
                      refine lv_iconst (v := iI 0) hx hb dX6_isMore_169 rfl ?_
                      rw [hQ]
                      exact ze_Rz hx hb hr hlk dX6_isMore_170 (Or.inl rfl) (by have h9 := mr_fin hq hs hE; exact (zb_f (fun h8 => by rcases htn with h | h; (have := (hinv.1 h).mp h8; omega); (have := (hinv.2 h).mp h8; omega))).symm)
                    · skip
                      refine lv_iconst (v := iI 1) hx hb dX6_isMore_165 rfl ?_
                      refine lv_goto (tgt := 170) hx hb dX6_isMore_166 (by decide) ?_
                      rw [hQ]
                      exact ze_Rz hx hb hr hlk dX6_isMore_170 (Or.inr rfl) (by have h9 := mr_fin hq hs hE; exact (zb_t (by rcases htn with h | h; (exact (hinv.1 h).mpr (by omega)); (exact (hinv.2 h).mpr (by omega)))).symm)
          · skip
            refine lv_lload hx hb dX6_isMore_82 (lv_at hl 1 rfl) ?_
            refine lv_lload hx hb dX6_isMore_84 (lv_at hl 0 rfl) ?_
            refine zr_lcmp_le (tgt := 94) hx hb dX6_isMore_86 dX6_isMore_87 (by decide) (by omega) (by omega) (fun c_13 => ?_) (fun c_13 => ?_)
            · skip
              refine lv_iconst (v := iI 0) hx hb dX6_isMore_94 rfl ?_
              refine lv_iload hx hb dX6_isMore_95 (lv_at hl 6 rfl) ?_
              refine zr_icmp_eq (tgt := 104) hx hb dX6_isMore_97 (by decide) (by omega) (by omega) (fun c_14 => ?_) (fun c_14 => ?_)
              · skip
                refine lv_iconst (v := iI 0) hx hb dX6_isMore_104 rfl ?_
                rw [hQ]
                exact ze_Rz hx hb hr hlk dX6_isMore_105 (Or.inl rfl) (by have h9 := mr_ne hq hs (show pa / qa < ra / sa by omega); exact (zb_f (fun h8 => by rcases htn with h | h; (have := (hinv.1 h).mp h8; omega); (have := (hinv.2 h).mp h8; omega))).symm)
              · skip
                refine lv_iconst (v := iI 1) hx hb dX6_isMore_100 rfl ?_
                refine lv_goto (tgt := 105) hx hb dX6_isMore_101 (by decide) ?_
                rw [hQ]
                exact ze_Rz hx hb hr hlk dX6_isMore_105 (Or.inr rfl) (by have h9 := mr_ne hq hs (show pa / qa < ra / sa by omega); exact (zb_t (by rcases htn with h | h; (exact (hinv.1 h).mpr (by omega)); (exact (hinv.2 h).mpr (by omega)))).symm)
            · skip
              refine lv_iconst (v := iI 1) hx hb dX6_isMore_90 rfl ?_
              refine lv_goto (tgt := 95) hx hb dX6_isMore_91 (by decide) ?_
              refine lv_iload hx hb dX6_isMore_95 (lv_at hl 6 rfl) ?_
              refine zr_icmp_eq (tgt := 104) hx hb dX6_isMore_97 (by decide) (by omega) (by omega) (fun c_15 => ?_) (fun c_15 => ?_)
              · skip
                refine lv_iconst (v := iI 0) hx hb dX6_isMore_104 rfl ?_
                rw [hQ]
                exact ze_Rz hx hb hr hlk dX6_isMore_105 (Or.inl rfl) (by have h9 := mr_ne hs hq (show ra / sa < pa / qa by omega); exact (zb_f (fun h8 => by rcases htn with h | h; (have := (hinv.1 h).mp h8; omega); (have := (hinv.2 h).mp h8; omega))).symm)
              · skip
                refine lv_iconst (v := iI 1) hx hb dX6_isMore_100 rfl ?_
                refine lv_goto (tgt := 105) hx hb dX6_isMore_101 (by decide) ?_
                rw [hQ]
                exact ze_Rz hx hb hr hlk dX6_isMore_105 (Or.inr rfl) (by have h9 := mr_ne hs hq (show ra / sa < pa / qa by omega); exact (zb_t (by rcases htn with h | h; (exact (hinv.1 h).mpr (by omega)); (exact (hinv.2 h).mpr (by omega)))).symm)
        · skip
          refine lv_lload hx hb dX6_isMore_68 (lv_at hl 0 rfl) ?_
          refine lv_lconst (v := lI 1) hx hb dX6_isMore_70 rfl ?_
          refine zr_lsub hx hb dX6_isMore_71 ?_
          refine lv_lstore (lv' := [(20, .long (lI ((ra.tdiv sa) - 1))), (18, .long (lI (pa / qa))), (8, .long (lI pa)), (10, .long (lI qa)), (12, .long (lI ra)), (14, .long (lI sa)), (16, .int (iI tn)), (17, .int (iI (t : Int)))]) hx hb dX6_isMore_72 hl (by decide) rfl (fun ls hl => ?_)
          rw [show ((ra.tdiv sa) - 1) = (ra / sa) from fl_div1 hs c64] at hl
          refine lv_lload hx hb dX6_isMore_74 (lv_at hl 1 rfl) ?_
          refine lv_lload hx hb dX6_isMore_76 (lv_at hl 0 rfl) ?_
          refine zr_lcmp_eq (tgt := 106) hx hb dX6_isMore_78 dX6_isMore_79 (by decide) (by omega) (by omega) (fun hE => ?_) (fun hE => ?_)
          · skip
            refine lv_lload hx hb dX6_isMore_106 (lv_at hl 2 rfl) ?_
            refine lv_lload hx hb dX6_isMore_108 (lv_at hl 1 rfl) ?_
            refine lv_lload hx hb dX6_isMore_110 (lv_at hl 3 rfl) ?_
            refine zr_lmul hx hb dX6_isMore_112 ?_
            refine zr_lsub hx hb dX6_isMore_113 ?_
            refine zr_rwl (v := (pa % qa)) (mr_sub) ?_
            refine lv_lstore (lv' := [(22, .long (lI (pa % qa))), (20, .long (lI (ra / sa))), (18, .long (lI (pa / qa))), (8, .long (lI pa)), (10, .long (lI qa)), (12, .long (lI ra)), (14, .long (lI sa)), (16, .int (iI tn)), (17, .int (iI (t : Int)))]) hx hb dX6_isMore_114 hl (by decide) rfl (fun ls hl => ?_)
            refine lv_lload hx hb dX6_isMore_116 (lv_at hl 5 rfl) ?_
            refine lv_lload hx hb dX6_isMore_118 (lv_at hl 1 rfl) ?_
            refine lv_lload hx hb dX6_isMore_120 (lv_at hl 6 rfl) ?_
            refine zr_lmul hx hb dX6_isMore_122 ?_
            refine zr_lsub hx hb dX6_isMore_123 ?_
            refine zr_rwl (v := (ra % sa)) (mr_sub) ?_
            refine lv_lstore (lv' := [(24, .long (lI (ra % sa))), (22, .long (lI (pa % qa))), (20, .long (lI (ra / sa))), (18, .long (lI (pa / qa))), (8, .long (lI pa)), (10, .long (lI qa)), (12, .long (lI ra)), (14, .long (lI sa)), (16, .int (iI tn)), (17, .int (iI (t : Int)))]) hx hb dX6_isMore_124 hl (by decide) rfl (fun ls hl => ?_)
            refine lv_lload hx hb dX6_isMore_126 (lv_at hl 1 rfl) ?_
            refine lv_lconst (v := lI 0) hx hb dX6_isMore_128 rfl ?_
            refine zr_lcmp_eq (tgt := 140) hx hb dX6_isMore_129 dX6_isMore_130 (by decide) (by omega) (by omega) (fun c_16 => ?_) (fun c_16 => ?_)
            · skip
              refine lv_lload hx hb dX6_isMore_140 (lv_at hl 1 rfl) ?_
              refine lv_lload hx hb dX6_isMore_142 (lv_at hl 0 rfl) ?_
              refine zr_lcmp_eq (tgt := 169) hx hb dX6_isMore_144 dX6_isMore_145 (by decide) (by omega) (by omega) (fun c_17 => ?_) (fun c_17 => ?_)
              · skip
                refine lv_iconst (v := iI 0) hx hb dX6_isMore_169 rfl ?_
                rw [hQ]
                exact ze_Rz hx hb hr hlk dX6_isMore_170 (Or.inl rfl) (by have h9 := mr_fin hq hs hE; exact (zb_f (fun h8 => by rcases htn with h | h; (have := (hinv.1 h).mp h8; omega); (have := (hinv.2 h).mp h8; omega))).symm)
              · skip
                refine lv_lload hx hb dX6_isMore_148 (lv_at hl 1 rfl) ?_
                refine lv_lconst (v := lI 0) hx hb dX6_isMore_150 rfl ?_
                refine zr_lcmp_le (tgt := 159) hx hb dX6_isMore_151 dX6_isMore_152 (by decide) (by omega) (by omega) (fun c_18 => ?_) (fun c_18 => ?_)
                · skip
                  refine lv_iconst (v := iI 0) hx hb dX6_isMore_159 rfl ?_
                  refine lv_iload hx hb dX6_isMore_160 (lv_at hl 8 rfl) ?_
                  refine zr_icmp_eq (tgt := 169) hx hb dX6_isMore_162 (by decide) (by omega) (by omega) (fun c_19 => ?_) (fun c_19 => ?_)
                  · skip
                    refine lv_iconst (v := iI 0) hx hb dX6_isMore_169 rfl ?_
                    rw [hQ]
                    exact ze_Rz hx hb hr hlk dX6_isMore_170 (Or.inl rfl) (by have h9 := mr_fin hq hs hE; exact (zb_f (fun h8 => by rcases htn with h | h; (have := (hinv.1 h).mp h8; omega); (have := (hinv.2 h).mp h8; omega))).symm)
                  · skip
                    refine lv_iconst (v := iI 1) hx hb dX6_isMore_165 rfl ?_
                    refine lv_goto (tgt := 170) hx hb dX6_isMore_166 (by decide) ?_
                    rw [hQ]
                    exact ze_Rz hx hb hr hlk dX6_isMore_170 (Or.inr rfl) (by have h9 := mr_fin hq hs hE; exact (zb_t (by rcases htn with h | h; (exact (hinv.1 h).mpr (by omega)); (exact (hinv.2 h).mpr (by omega)))).symm)
                · skip
                  refine lv_iconst (v := iI 1) hx hb dX6_isMore_155 rfl ?_
                  refine lv_goto (tgt := 160) hx hb dX6_isMore_156 (by decide) ?_
                  refine lv_iload hx hb dX6_isMore_160 (lv_at hl 8 rfl) ?_
                  refine zr_icmp_eq (tgt := 169) hx hb dX6_isMore_162 (by decide) (by omega) (by omega) (fun c_20 => ?_) (fun c_20 => ?_)
                  · skip
                    refine lv_iconst (v := iI 0) hx hb dX6_isMore_169 rfl ?_
                    rw [hQ]
                    exact ze_Rz hx hb hr hlk dX6_isMore_170 (Or.inl rfl) (by have h9 := mr_fin hq hs hE; exact (zb_f (fun h8 => by rcases htn with h | h; (have := (hinv.1 h).mp h8; omega); (have := (hinv.2 h).mp h8; omega))).symm)
                  · skip
                    refine lv_iconst (v := iI 1) hx hb dX6_isMore_165 rfl ?_
                    refine lv_goto (tgt := 170) hx hb dX6_isMore_166 (by decide) ?_
                    rw [hQ]
                    exact ze_Rz hx hb hr hlk dX6_isMore_170 (Or.inr rfl) (by have h9 := mr_fin hq hs hE; exact (zb_t (by rcases htn with h | h; (exact (hinv.1 h).mpr (by omega)); (exact (hinv.2 h).mpr (by omega)))).symm)
            · skip
              refine lv_lload hx hb dX6_isMore_133 (lv_at hl 0 rfl) ?_
              refine lv_lconst (v := lI 0) hx hb dX6_isMore_135 rfl ?_
              refine zr_lcmp_ne (tgt := 171) hx hb dX6_isMore_136 dX6_isMore_137 (by decide) (by omega) (by omega) (fun c_21 => ?_) (fun c_21 => ?_)
              · skip
                refine lv_lload hx hb dX6_isMore_171 (lv_at hl 5 rfl) ?_
                refine lv_lstore (lv' := [(8, .long (lI qa)), (24, .long (lI (ra % sa))), (22, .long (lI (pa % qa))), (20, .long (lI (ra / sa))), (18, .long (lI (pa / qa))), (10, .long (lI qa)), (12, .long (lI ra)), (14, .long (lI sa)), (16, .int (iI tn)), (17, .int (iI (t : Int)))]) hx hb dX6_isMore_173 hl (by decide) rfl (fun ls hl => ?_)
                refine lv_lload hx hb dX6_isMore_175 (lv_at hl 7 rfl) ?_
                refine lv_lstore (lv' := [(12, .long (lI sa)), (8, .long (lI qa)), (24, .long (lI (ra % sa))), (22, .long (lI (pa % qa))), (20, .long (lI (ra / sa))), (18, .long (lI (pa / qa))), (10, .long (lI qa)), (14, .long (lI sa)), (16, .int (iI tn)), (17, .int (iI (t : Int)))]) hx hb dX6_isMore_177 hl (by decide) rfl (fun ls hl => ?_)
                refine lv_lload hx hb dX6_isMore_179 (lv_at hl 3 rfl) ?_
                refine lv_lstore (lv' := [(10, .long (lI (pa % qa))), (12, .long (lI sa)), (8, .long (lI qa)), (24, .long (lI (ra % sa))), (22, .long (lI (pa % qa))), (20, .long (lI (ra / sa))), (18, .long (lI (pa / qa))), (14, .long (lI sa)), (16, .int (iI tn)), (17, .int (iI (t : Int)))]) hx hb dX6_isMore_181 hl (by decide) rfl (fun ls hl => ?_)
                refine lv_lload hx hb dX6_isMore_183 (lv_at hl 3 rfl) ?_
                refine lv_lstore (lv' := [(14, .long (lI (ra % sa))), (10, .long (lI (pa % qa))), (12, .long (lI sa)), (8, .long (lI qa)), (24, .long (lI (ra % sa))), (22, .long (lI (pa % qa))), (20, .long (lI (ra / sa))), (18, .long (lI (pa / qa))), (16, .int (iI tn)), (17, .int (iI (t : Int)))]) hx hb dX6_isMore_185 hl (by decide) rfl (fun ls hl => ?_)
                refine lv_iload hx hb dX6_isMore_187 (lv_at hl 8 rfl) ?_
                refine zr_if_ne (tgt := 196) hx hb dX6_isMore_189 (by decide) (by omega) (fun c_22 => ?_) (fun c_22 => ?_)
                · skip
                  refine lv_iconst (v := iI 0) hx hb dX6_isMore_196 rfl ?_
                  refine lv_istore (lv' := [(16, .int (iI 0)), (14, .long (lI (ra % sa))), (10, .long (lI (pa % qa))), (12, .long (lI sa)), (8, .long (lI qa)), (24, .long (lI (ra % sa))), (22, .long (lI (pa % qa))), (20, .long (lI (ra / sa))), (18, .long (lI (pa / qa))), (17, .int (iI (t : Int)))]) hx hb dX6_isMore_197 hl (by decide) rfl (fun ls hl => ?_)
                  refine lv_iinc (v := iI ((t : Int) + 1)) (lv' := [(17, .int (iI ((t : Int) + 1))), (16, .int (iI 0)), (14, .long (lI (ra % sa))), (10, .long (lI (pa % qa))), (12, .long (lI sa)), (8, .long (lI qa)), (24, .long (lI (ra % sa))), (22, .long (lI (pa % qa))), (20, .long (lI (ra / sa))), (18, .long (lI (pa / qa)))]) hx hb dX6_isMore_199 hl (k := 9) rfl (iI_add _ _) (by decide) rfl (fun ls hl => ?_)
                  refine lv_goto (tgt := 20) hx hb dX6_isMore_202 (by decide) ?_
                  exact ih20 (t + 1) qa (pa % qa) sa (ra % sa) 0 (by omega) (by omega) (by omega) (by omega) (by omega) (by omega) (by omega) (⟨fun _ => (hinv.2 (by omega)).trans (mr_step hE).1, fun h => by omega⟩) (Or.inr (mr_pot hq (by omega) hpot)) (by first | omega | (have := mr_end hq hpot; omega)) ls (lv_sub hl [5, 3, 4, 2, 1, 0] rfl)
                · skip
                  refine lv_iconst (v := iI 1) hx hb dX6_isMore_192 rfl ?_
                  refine lv_goto (tgt := 197) hx hb dX6_isMore_193 (by decide) ?_
                  refine lv_istore (lv' := [(16, .int (iI 1)), (14, .long (lI (ra % sa))), (10, .long (lI (pa % qa))), (12, .long (lI sa)), (8, .long (lI qa)), (24, .long (lI (ra % sa))), (22, .long (lI (pa % qa))), (20, .long (lI (ra / sa))), (18, .long (lI (pa / qa))), (17, .int (iI (t : Int)))]) hx hb dX6_isMore_197 hl (by decide) rfl (fun ls hl => ?_)
                  refine lv_iinc (v := iI ((t : Int) + 1)) (lv' := [(17, .int (iI ((t : Int) + 1))), (16, .int (iI 1)), (14, .long (lI (ra % sa))), (10, .long (lI (pa % qa))), (12, .long (lI sa)), (8, .long (lI qa)), (24, .long (lI (ra % sa))), (22, .long (lI (pa % qa))), (20, .long (lI (ra / sa))), (18, .long (lI (pa / qa)))]) hx hb dX6_isMore_199 hl (k := 9) rfl (iI_add _ _) (by decide) rfl (fun ls hl => ?_)
                  refine lv_goto (tgt := 20) hx hb dX6_isMore_202 (by decide) ?_
                  exact ih20 (t + 1) qa (pa % qa) sa (ra % sa) 1 (by omega) (by omega) (by omega) (by omega) (by omega) (by omega) (by omega) (⟨fun h => by omega, fun _ => (hinv.1 (by omega)).trans (mr_step hE).2⟩) (Or.inr (mr_pot hq (by omega) hpot)) (by first | omega | (have := mr_end hq hpot; omega)) ls (lv_sub hl [5, 3, 4, 2, 1, 0] rfl)
              · skip
                refine lv_lload hx hb dX6_isMore_140 (lv_at hl 1 rfl) ?_
                refine lv_lload hx hb dX6_isMore_142 (lv_at hl 0 rfl) ?_
                refine zr_lcmp_eq (tgt := 169) hx hb dX6_isMore_144 dX6_isMore_145 (by decide) (by omega) (by omega) (fun c_23 => ?_) (fun c_23 => ?_)
                · skip
                  refine lv_iconst (v := iI 0) hx hb dX6_isMore_169 rfl ?_
                  rw [hQ]
                  exact ze_Rz hx hb hr hlk dX6_isMore_170 (Or.inl rfl) (by have h9 := mr_fin hq hs hE; exact (zb_f (fun h8 => by rcases htn with h | h; (have := (hinv.1 h).mp h8; omega); (have := (hinv.2 h).mp h8; omega))).symm)
                · skip
                  refine lv_lload hx hb dX6_isMore_148 (lv_at hl 1 rfl) ?_
                  refine lv_lconst (v := lI 0) hx hb dX6_isMore_150 rfl ?_
                  refine zr_lcmp_le (tgt := 159) hx hb dX6_isMore_151 dX6_isMore_152 (by decide) (by omega) (by omega) (fun c_24 => ?_) (fun c_24 => ?_)
                  · skip
                    refine lv_iconst (v := iI 0) hx hb dX6_isMore_159 rfl ?_
                    refine lv_iload hx hb dX6_isMore_160 (lv_at hl 8 rfl) ?_
                    refine zr_icmp_eq (tgt := 169) hx hb dX6_isMore_162 (by decide) (by omega) (by omega) (fun c_25 => ?_) (fun c_25 => ?_)
                    · skip
                      refine lv_iconst (v := iI 0) hx hb dX6_isMore_169 rfl ?_
                      rw [hQ]
                      exact ze_Rz hx hb hr hlk dX6_isMore_170 (Or.inl rfl) (by have h9 := mr_fin hq hs hE; exact (zb_f (fun h8 => by rcases htn with h | h; (have := (hinv.1 h).mp h8; omega); (have := (hinv.2 h).mp h8; omega))).symm)
                    · skip
                      refine lv_iconst (v := iI 1) hx hb dX6_isMore_165 rfl ?_
                      refine lv_goto (tgt := 170) hx hb dX6_isMore_166 (by decide) ?_
                      rw [hQ]
                      exact ze_Rz hx hb hr hlk dX6_isMore_170 (Or.inr rfl) (by have h9 := mr_fin hq hs hE; exact (zb_t (by rcases htn with h | h; (exact (hinv.1 h).mpr (by omega)); (exact (hinv.2 h).mpr (by omega)))).symm)
                  · skip
                    refine lv_iconst (v := iI 1) hx hb dX6_isMore_155 rfl ?_
                    refine lv_goto (tgt := 160) hx hb dX6_isMore_156 (by decide) ?_
                    refine lv_iload hx hb dX6_isMore_160 (lv_at hl 8 rfl) ?_
                    refine zr_icmp_eq (tgt := 169) hx hb dX6_isMore_162 (by decide) (by omega) (by omega) (fun c_26 => ?_) (fun c_26 => ?_)
                    · skip
                      refine lv_iconst (v := iI 0) hx hb dX6_isMore_169 rfl ?_
                      rw [hQ]
                      exact ze_Rz hx hb hr hlk dX6_isMore_170 (Or.inl rfl) (by have h9 := mr_fin hq hs hE; exact (zb_f (fun h8 => by rcases htn with h | h; (have := (hinv.1 h).mp h8; omega); (have := (hinv.2 h).mp h8; omega))).symm)
                    · skip
                      refine lv_iconst (v := iI 1) hx hb dX6_isMore_165 rfl ?_
                      refine lv_goto (tgt := 170) hx hb dX6_isMore_166 (by decide) ?_
                      rw [hQ]
                      exact ze_Rz hx hb hr hlk dX6_isMore_170 (Or.inr rfl) (by have h9 := mr_fin hq hs hE; exact (zb_t (by rcases htn with h | h; (exact (hinv.1 h).mpr (by omega)); (exact (hinv.2 h).mpr (by omega)))).symm)
          · skip
            refine lv_lload hx hb dX6_isMore_82 (lv_at hl 1 rfl) ?_
            refine lv_lload hx hb dX6_isMore_84 (lv_at hl 0 rfl) ?_
            refine zr_lcmp_le (tgt := 94) hx hb dX6_isMore_86 dX6_isMore_87 (by decide) (by omega) (by omega) (fun c_27 => ?_) (fun c_27 => ?_)
            · skip
              refine lv_iconst (v := iI 0) hx hb dX6_isMore_94 rfl ?_
              refine lv_iload hx hb dX6_isMore_95 (lv_at hl 6 rfl) ?_
              refine zr_icmp_eq (tgt := 104) hx hb dX6_isMore_97 (by decide) (by omega) (by omega) (fun c_28 => ?_) (fun c_28 => ?_)
              · skip
                refine lv_iconst (v := iI 0) hx hb dX6_isMore_104 rfl ?_
                rw [hQ]
                exact ze_Rz hx hb hr hlk dX6_isMore_105 (Or.inl rfl) (by have h9 := mr_ne hq hs (show pa / qa < ra / sa by omega); exact (zb_f (fun h8 => by rcases htn with h | h; (have := (hinv.1 h).mp h8; omega); (have := (hinv.2 h).mp h8; omega))).symm)
              · skip
                refine lv_iconst (v := iI 1) hx hb dX6_isMore_100 rfl ?_
                refine lv_goto (tgt := 105) hx hb dX6_isMore_101 (by decide) ?_
                rw [hQ]
                exact ze_Rz hx hb hr hlk dX6_isMore_105 (Or.inr rfl) (by have h9 := mr_ne hq hs (show pa / qa < ra / sa by omega); exact (zb_t (by rcases htn with h | h; (exact (hinv.1 h).mpr (by omega)); (exact (hinv.2 h).mpr (by omega)))).symm)
            · skip
              refine lv_iconst (v := iI 1) hx hb dX6_isMore_90 rfl ?_
              refine lv_goto (tgt := 95) hx hb dX6_isMore_91 (by decide) ?_
              refine lv_iload hx hb dX6_isMore_95 (lv_at hl 6 rfl) ?_
              refine zr_icmp_eq (tgt := 104) hx hb dX6_isMore_97 (by decide) (by omega) (by omega) (fun c_29 => ?_) (fun c_29 => ?_)
              · skip
                refine lv_iconst (v := iI 0) hx hb dX6_isMore_104 rfl ?_
                rw [hQ]
                exact ze_Rz hx hb hr hlk dX6_isMore_105 (Or.inl rfl) (by have h9 := mr_ne hs hq (show ra / sa < pa / qa by omega); exact (zb_f (fun h8 => by rcases htn with h | h; (have := (hinv.1 h).mp h8; omega); (have := (hinv.2 h).mp h8; omega))).symm)
              · skip
                refine lv_iconst (v := iI 1) hx hb dX6_isMore_100 rfl ?_
                refine lv_goto (tgt := 105) hx hb dX6_isMore_101 (by decide) ?_
                rw [hQ]
                exact ze_Rz hx hb hr hlk dX6_isMore_105 (Or.inr rfl) (by have h9 := mr_ne hs hq (show ra / sa < pa / qa by omega); exact (zb_t (by rcases htn with h | h; (exact (hinv.1 h).mpr (by omega)); (exact (hinv.2 h).mpr (by omega)))).symm)
      · skip
        refine lv_lload hx hb dX6_isMore_52 (lv_at hl 1 rfl) ?_
        refine lv_lconst (v := lI 1) hx hb dX6_isMore_54 rfl ?_
        refine zr_lsub hx hb dX6_isMore_55 ?_
        refine lv_lstore (lv' := [(18, .long (lI ((pa.tdiv qa) - 1))), (20, .long (lI (ra.tdiv sa))), (8, .long (lI pa)), (10, .long (lI qa)), (12, .long (lI ra)), (14, .long (lI sa)), (16, .int (iI tn)), (17, .int (iI (t : Int)))]) hx hb dX6_isMore_56 hl (by decide) rfl (fun ls hl => ?_)
        rw [show ((pa.tdiv qa) - 1) = (pa / qa) from fl_div1 hq c48] at hl
        refine lv_lload hx hb dX6_isMore_58 (lv_at hl 4 rfl) ?_
        refine lv_lload hx hb dX6_isMore_60 (lv_at hl 5 rfl) ?_
        refine zr_lrem hx hb dX6_isMore_62 (by omega) (by omega) (by omega) ?_
        refine lv_lconst (v := lI 0) hx hb dX6_isMore_63 rfl ?_
        refine zr_lcmp_ge (tgt := 74) hx hb dX6_isMore_64 dX6_isMore_65 (by decide) (by omega) (by omega) (fun c64 => ?_) (fun c64 => ?_)
        · skip
          rw [show (ra.tdiv sa) = (ra / sa) from fl_div hs c64] at hl
          refine lv_lload hx hb dX6_isMore_74 (lv_at hl 0 rfl) ?_
          refine lv_lload hx hb dX6_isMore_76 (lv_at hl 1 rfl) ?_
          refine zr_lcmp_eq (tgt := 106) hx hb dX6_isMore_78 dX6_isMore_79 (by decide) (by omega) (by omega) (fun hE => ?_) (fun hE => ?_)
          · skip
            refine lv_lload hx hb dX6_isMore_106 (lv_at hl 2 rfl) ?_
            refine lv_lload hx hb dX6_isMore_108 (lv_at hl 0 rfl) ?_
            refine lv_lload hx hb dX6_isMore_110 (lv_at hl 3 rfl) ?_
            refine zr_lmul hx hb dX6_isMore_112 ?_
            refine zr_lsub hx hb dX6_isMore_113 ?_
            refine zr_rwl (v := (pa % qa)) (mr_sub) ?_
            refine lv_lstore (lv' := [(22, .long (lI (pa % qa))), (18, .long (lI (pa / qa))), (20, .long (lI (ra / sa))), (8, .long (lI pa)), (10, .long (lI qa)), (12, .long (lI ra)), (14, .long (lI sa)), (16, .int (iI tn)), (17, .int (iI (t : Int)))]) hx hb dX6_isMore_114 hl (by decide) rfl (fun ls hl => ?_)
            refine lv_lload hx hb dX6_isMore_116 (lv_at hl 5 rfl) ?_
            refine lv_lload hx hb dX6_isMore_118 (lv_at hl 2 rfl) ?_
            refine lv_lload hx hb dX6_isMore_120 (lv_at hl 6 rfl) ?_
            refine zr_lmul hx hb dX6_isMore_122 ?_
            refine zr_lsub hx hb dX6_isMore_123 ?_
            refine zr_rwl (v := (ra % sa)) (mr_sub) ?_
            refine lv_lstore (lv' := [(24, .long (lI (ra % sa))), (22, .long (lI (pa % qa))), (18, .long (lI (pa / qa))), (20, .long (lI (ra / sa))), (8, .long (lI pa)), (10, .long (lI qa)), (12, .long (lI ra)), (14, .long (lI sa)), (16, .int (iI tn)), (17, .int (iI (t : Int)))]) hx hb dX6_isMore_124 hl (by decide) rfl (fun ls hl => ?_)
            refine lv_lload hx hb dX6_isMore_126 (lv_at hl 1 rfl) ?_
            refine lv_lconst (v := lI 0) hx hb dX6_isMore_128 rfl ?_
            refine zr_lcmp_eq (tgt := 140) hx hb dX6_isMore_129 dX6_isMore_130 (by decide) (by omega) (by omega) (fun c_30 => ?_) (fun c_30 => ?_)
            · skip
              refine lv_lload hx hb dX6_isMore_140 (lv_at hl 1 rfl) ?_
              refine lv_lload hx hb dX6_isMore_142 (lv_at hl 0 rfl) ?_
              refine zr_lcmp_eq (tgt := 169) hx hb dX6_isMore_144 dX6_isMore_145 (by decide) (by omega) (by omega) (fun c_31 => ?_) (fun c_31 => ?_)
              · skip
                refine lv_iconst (v := iI 0) hx hb dX6_isMore_169 rfl ?_
                rw [hQ]
                exact ze_Rz hx hb hr hlk dX6_isMore_170 (Or.inl rfl) (by have h9 := mr_fin hq hs hE; exact (zb_f (fun h8 => by rcases htn with h | h; (have := (hinv.1 h).mp h8; omega); (have := (hinv.2 h).mp h8; omega))).symm)
              · skip
                refine lv_lload hx hb dX6_isMore_148 (lv_at hl 1 rfl) ?_
                refine lv_lconst (v := lI 0) hx hb dX6_isMore_150 rfl ?_
                refine zr_lcmp_le (tgt := 159) hx hb dX6_isMore_151 dX6_isMore_152 (by decide) (by omega) (by omega) (fun c_32 => ?_) (fun c_32 => ?_)
                · skip
                  refine lv_iconst (v := iI 0) hx hb dX6_isMore_159 rfl ?_
                  refine lv_iload hx hb dX6_isMore_160 (lv_at hl 8 rfl) ?_
                  refine zr_icmp_eq (tgt := 169) hx hb dX6_isMore_162 (by decide) (by omega) (by omega) (fun c_33 => ?_) (fun c_33 => ?_)
                  · skip
                    refine lv_iconst (v := iI 0) hx hb dX6_isMore_169 rfl ?_
                    rw [hQ]
                    exact ze_Rz hx hb hr hlk dX6_isMore_170 (Or.inl rfl) (by have h9 := mr_fin hq hs hE; exact (zb_f (fun h8 => by rcases htn with h | h; (have := (hinv.1 h).mp h8; omega); (have := (hinv.2 h).mp h8; omega))).symm)
                  · skip
                    refine lv_iconst (v := iI 1) hx hb dX6_isMore_165 rfl ?_
                    refine lv_goto (tgt := 170) hx hb dX6_isMore_166 (by decide) ?_
                    rw [hQ]
                    exact ze_Rz hx hb hr hlk dX6_isMore_170 (Or.inr rfl) (by have h9 := mr_fin hq hs hE; exact (zb_t (by rcases htn with h | h; (exact (hinv.1 h).mpr (by omega)); (exact (hinv.2 h).mpr (by omega)))).symm)
                · skip
                  refine lv_iconst (v := iI 1) hx hb dX6_isMore_155 rfl ?_
                  refine lv_goto (tgt := 160) hx hb dX6_isMore_156 (by decide) ?_
                  refine lv_iload hx hb dX6_isMore_160 (lv_at hl 8 rfl) ?_
                  refine zr_icmp_eq (tgt := 169) hx hb dX6_isMore_162 (by decide) (by omega) (by omega) (fun c_34 => ?_) (fun c_34 => ?_)
                  · skip
                    refine lv_iconst (v := iI 0) hx hb dX6_isMore_169 rfl ?_
                    rw [hQ]
                    exact ze_Rz hx hb hr hlk dX6_isMore_170 (Or.inl rfl) (by have h9 := mr_fin hq hs hE; exact (zb_f (fun h8 => by rcases htn with h | h; (have := (hinv.1 h).mp h8; omega); (have := (hinv.2 h).mp h8; omega))).symm)
                  · skip
                    refine lv_iconst (v := iI 1) hx hb dX6_isMore_165 rfl ?_
                    refine lv_goto (tgt := 170) hx hb dX6_isMore_166 (by decide) ?_
                    rw [hQ]
                    exact ze_Rz hx hb hr hlk dX6_isMore_170 (Or.inr rfl) (by have h9 := mr_fin hq hs hE; exact (zb_t (by rcases htn with h | h; (exact (hinv.1 h).mpr (by omega)); (exact (hinv.2 h).mpr (by omega)))).symm)
            · skip
              refine lv_lload hx hb dX6_isMore_133 (lv_at hl 0 rfl) ?_
              refine lv_lconst (v := lI 0) hx hb dX6_isMore_135 rfl ?_
              refine zr_lcmp_ne (tgt := 171) hx hb dX6_isMore_136 dX6_isMore_137 (by decide) (by omega) (by omega) (fun c_35 => ?_) (fun c_35 => ?_)
              · skip
                refine lv_lload hx hb dX6_isMore_171 (lv_at hl 5 rfl) ?_
                refine lv_lstore (lv' := [(8, .long (lI qa)), (24, .long (lI (ra % sa))), (22, .long (lI (pa % qa))), (18, .long (lI (pa / qa))), (20, .long (lI (ra / sa))), (10, .long (lI qa)), (12, .long (lI ra)), (14, .long (lI sa)), (16, .int (iI tn)), (17, .int (iI (t : Int)))]) hx hb dX6_isMore_173 hl (by decide) rfl (fun ls hl => ?_)
                refine lv_lload hx hb dX6_isMore_175 (lv_at hl 7 rfl) ?_
                refine lv_lstore (lv' := [(12, .long (lI sa)), (8, .long (lI qa)), (24, .long (lI (ra % sa))), (22, .long (lI (pa % qa))), (18, .long (lI (pa / qa))), (20, .long (lI (ra / sa))), (10, .long (lI qa)), (14, .long (lI sa)), (16, .int (iI tn)), (17, .int (iI (t : Int)))]) hx hb dX6_isMore_177 hl (by decide) rfl (fun ls hl => ?_)
                refine lv_lload hx hb dX6_isMore_179 (lv_at hl 3 rfl) ?_
                refine lv_lstore (lv' := [(10, .long (lI (pa % qa))), (12, .long (lI sa)), (8, .long (lI qa)), (24, .long (lI (ra % sa))), (22, .long (lI (pa % qa))), (18, .long (lI (pa / qa))), (20, .long (lI (ra / sa))), (14, .long (lI sa)), (16, .int (iI tn)), (17, .int (iI (t : Int)))]) hx hb dX6_isMore_181 hl (by decide) rfl (fun ls hl => ?_)
                refine lv_lload hx hb dX6_isMore_183 (lv_at hl 3 rfl) ?_
                refine lv_lstore (lv' := [(14, .long (lI (ra % sa))), (10, .long (lI (pa % qa))), (12, .long (lI sa)), (8, .long (lI qa)), (24, .long (lI (ra % sa))), (22, .long (lI (pa % qa))), (18, .long (lI (pa / qa))), (20, .long (lI (ra / sa))), (16, .int (iI tn)), (17, .int (iI (t : Int)))]) hx hb dX6_isMore_185 hl (by decide) rfl (fun ls hl => ?_)
                refine lv_iload hx hb dX6_isMore_187 (lv_at hl 8 rfl) ?_
                refine zr_if_ne (tgt := 196) hx hb dX6_isMore_189 (by decide) (by omega) (fun c_36 => ?_) (fun c_36 => ?_)
                · skip
                  refine lv_iconst (v := iI 0) hx hb dX6_isMore_196 rfl ?_
                  refine lv_istore (lv' := [(16, .int (iI 0)), (14, .long (lI (ra % sa))), (10, .long (lI (pa % qa))), (12, .long (lI sa)), (8, .long (lI qa)), (24, .long (lI (ra % sa))), (22, .long (lI (pa % qa))), (18, .long (lI (pa / qa))), (20, .long (lI (ra / sa))), (17, .int (iI (t : Int)))]) hx hb dX6_isMore_197 hl (by decide) rfl (fun ls hl => ?_)
                  refine lv_iinc (v := iI ((t : Int) + 1)) (lv' := [(17, .int (iI ((t : Int) + 1))), (16, .int (iI 0)), (14, .long (lI (ra % sa))), (10, .long (lI (pa % qa))), (12, .long (lI sa)), (8, .long (lI qa)), (24, .long (lI (ra % sa))), (22, .long (lI (pa % qa))), (18, .long (lI (pa / qa))), (20, .long (lI (ra / sa)))]) hx hb dX6_isMore_199 hl (k := 9) rfl (iI_add _ _) (by decide) rfl (fun ls hl => ?_)
                  refine lv_goto (tgt := 20) hx hb dX6_isMore_202 (by decide) ?_
                  exact ih20 (t + 1) qa (pa % qa) sa (ra % sa) 0 (by omega) (by omega) (by omega) (by omega) (by omega) (by omega) (by omega) (⟨fun _ => (hinv.2 (by omega)).trans (mr_step hE).1, fun h => by omega⟩) (Or.inr (mr_pot hq (by omega) hpot)) (by first | omega | (have := mr_end hq hpot; omega)) ls (lv_sub hl [5, 3, 4, 2, 1, 0] rfl)
                · skip
                  refine lv_iconst (v := iI 1) hx hb dX6_isMore_192 rfl ?_
                  refine lv_goto (tgt := 197) hx hb dX6_isMore_193 (by decide) ?_
                  refine lv_istore (lv' := [(16, .int (iI 1)), (14, .long (lI (ra % sa))), (10, .long (lI (pa % qa))), (12, .long (lI sa)), (8, .long (lI qa)), (24, .long (lI (ra % sa))), (22, .long (lI (pa % qa))), (18, .long (lI (pa / qa))), (20, .long (lI (ra / sa))), (17, .int (iI (t : Int)))]) hx hb dX6_isMore_197 hl (by decide) rfl (fun ls hl => ?_)
                  refine lv_iinc (v := iI ((t : Int) + 1)) (lv' := [(17, .int (iI ((t : Int) + 1))), (16, .int (iI 1)), (14, .long (lI (ra % sa))), (10, .long (lI (pa % qa))), (12, .long (lI sa)), (8, .long (lI qa)), (24, .long (lI (ra % sa))), (22, .long (lI (pa % qa))), (18, .long (lI (pa / qa))), (20, .long (lI (ra / sa)))]) hx hb dX6_isMore_199 hl (k := 9) rfl (iI_add _ _) (by decide) rfl (fun ls hl => ?_)
                  refine lv_goto (tgt := 20) hx hb dX6_isMore_202 (by decide) ?_
                  exact ih20 (t + 1) qa (pa % qa) sa (ra % sa) 1 (by omega) (by omega) (by omega) (by omega) (by omega) (by omega) (by omega) (⟨fun h => by omega, fun _ => (hinv.1 (by omega)).trans (mr_step hE).2⟩) (Or.inr (mr_pot hq (by omega) hpot)) (by first | omega | (have := mr_end hq hpot; omega)) ls (lv_sub hl [5, 3, 4, 2, 1, 0] rfl)
              · skip
                refine lv_lload hx hb dX6_isMore_140 (lv_at hl 1 rfl) ?_
                refine lv_lload hx hb dX6_isMore_142 (lv_at hl 0 rfl) ?_
                refine zr_lcmp_eq (tgt := 169) hx hb dX6_isMore_144 dX6_isMore_145 (by decide) (by omega) (by omega) (fun c_37 => ?_) (fun c_37 => ?_)
                · skip
                  refine lv_iconst (v := iI 0) hx hb dX6_isMore_169 rfl ?_
                  rw [hQ]
                  exact ze_Rz hx hb hr hlk dX6_isMore_170 (Or.inl rfl) (by have h9 := mr_fin hq hs hE; exact (zb_f (fun h8 => by rcases htn with h | h; (have := (hinv.1 h).mp h8; omega); (have := (hinv.2 h).mp h8; omega))).symm)
                · skip
                  refine lv_lload hx hb dX6_isMore_148 (lv_at hl 1 rfl) ?_
                  refine lv_lconst (v := lI 0) hx hb dX6_isMore_150 rfl ?_
                  refine zr_lcmp_le (tgt := 159) hx hb dX6_isMore_151 dX6_isMore_152 (by decide) (by omega) (by omega) (fun c_38 => ?_) (fun c_38 => ?_)
                  · skip
                    refine lv_iconst (v := iI 0) hx hb dX6_isMore_159 rfl ?_
                    refine lv_iload hx hb dX6_isMore_160 (lv_at hl 8 rfl) ?_
                    refine zr_icmp_eq (tgt := 169) hx hb dX6_isMore_162 (by decide) (by omega) (by omega) (fun c_39 => ?_) (fun c_39 => ?_)
                    · skip
                      refine lv_iconst (v := iI 0) hx hb dX6_isMore_169 rfl ?_
                      rw [hQ]
                      exact ze_Rz hx hb hr hlk dX6_isMore_170 (Or.inl rfl) (by have h9 := mr_fin hq hs hE; exact (zb_f (fun h8 => by rcases htn with h | h; (have := (hinv.1 h).mp h8; omega); (have := (hinv.2 h).mp h8; omega))).symm)
                    · skip
                      refine lv_iconst (v := iI 1) hx hb dX6_isMore_165 rfl ?_
                      refine lv_goto (tgt := 170) hx hb dX6_isMore_166 (by decide) ?_
                      rw [hQ]
                      exact ze_Rz hx hb hr hlk dX6_isMore_170 (Or.inr rfl) (by have h9 := mr_fin hq hs hE; exact (zb_t (by rcases htn with h | h; (exact (hinv.1 h).mpr (by omega)); (exact (hinv.2 h).mpr (by omega)))).symm)
                  · skip
                    refine lv_iconst (v := iI 1) hx hb dX6_isMore_155 rfl ?_
                    refine lv_goto (tgt := 160) hx hb dX6_isMore_156 (by decide) ?_
                    refine lv_iload hx hb dX6_isMore_160 (lv_at hl 8 rfl) ?_
                    refine zr_icmp_eq (tgt := 169) hx hb dX6_isMore_162 (by decide) (by omega) (by omega) (fun c_40 => ?_) (fun c_40 => ?_)
                    · skip
                      refine lv_iconst (v := iI 0) hx hb dX6_isMore_169 rfl ?_
                      rw [hQ]
                      exact ze_Rz hx hb hr hlk dX6_isMore_170 (Or.inl rfl) (by have h9 := mr_fin hq hs hE; exact (zb_f (fun h8 => by rcases htn with h | h; (have := (hinv.1 h).mp h8; omega); (have := (hinv.2 h).mp h8; omega))).symm)
                    · skip
                      refine lv_iconst (v := iI 1) hx hb dX6_isMore_165 rfl ?_
                      refine lv_goto (tgt := 170) hx hb dX6_isMore_166 (by decide) ?_
                      rw [hQ]
                      exact ze_Rz hx hb hr hlk dX6_isMore_170 (Or.inr rfl) (by have h9 := mr_fin hq hs hE; exact (zb_t (by rcases htn with h | h; (exact (hinv.1 h).mpr (by omega)); (exact (hinv.2 h).mpr (by omega)))).symm)
          · skip
            refine lv_lload hx hb dX6_isMore_82 (lv_at hl 0 rfl) ?_
            refine lv_lload hx hb dX6_isMore_84 (lv_at hl 1 rfl) ?_
            refine zr_lcmp_le (tgt := 94) hx hb dX6_isMore_86 dX6_isMore_87 (by decide) (by omega) (by omega) (fun c_41 => ?_) (fun c_41 => ?_)
            · skip
              refine lv_iconst (v := iI 0) hx hb dX6_isMore_94 rfl ?_
              refine lv_iload hx hb dX6_isMore_95 (lv_at hl 6 rfl) ?_
              refine zr_icmp_eq (tgt := 104) hx hb dX6_isMore_97 (by decide) (by omega) (by omega) (fun c_42 => ?_) (fun c_42 => ?_)
              · skip
                refine lv_iconst (v := iI 0) hx hb dX6_isMore_104 rfl ?_
                rw [hQ]
                exact ze_Rz hx hb hr hlk dX6_isMore_105 (Or.inl rfl) (by have h9 := mr_ne hq hs (show pa / qa < ra / sa by omega); exact (zb_f (fun h8 => by rcases htn with h | h; (have := (hinv.1 h).mp h8; omega); (have := (hinv.2 h).mp h8; omega))).symm)
              · skip
                refine lv_iconst (v := iI 1) hx hb dX6_isMore_100 rfl ?_
                refine lv_goto (tgt := 105) hx hb dX6_isMore_101 (by decide) ?_
                rw [hQ]
                exact ze_Rz hx hb hr hlk dX6_isMore_105 (Or.inr rfl) (by have h9 := mr_ne hq hs (show pa / qa < ra / sa by omega); exact (zb_t (by rcases htn with h | h; (exact (hinv.1 h).mpr (by omega)); (exact (hinv.2 h).mpr (by omega)))).symm)
            · skip
              refine lv_iconst (v := iI 1) hx hb dX6_isMore_90 rfl ?_
              refine lv_goto (tgt := 95) hx hb dX6_isMore_91 (by decide) ?_
              refine lv_iload hx hb dX6_isMore_95 (lv_at hl 6 rfl) ?_
              refine zr_icmp_eq (tgt := 104) hx hb dX6_isMore_97 (by decide) (by omega) (by omega) (fun c_43 => ?_) (fun c_43 => ?_)
              · skip
                refine lv_iconst (v := iI 0) hx hb dX6_isMore_104 rfl ?_
                rw [hQ]
                exact ze_Rz hx hb hr hlk dX6_isMore_105 (Or.inl rfl) (by have h9 := mr_ne hs hq (show ra / sa < pa / qa by omega); exact (zb_f (fun h8 => by rcases htn with h | h; (have := (hinv.1 h).mp h8; omega); (have := (hinv.2 h).mp h8; omega))).symm)
              · skip
                refine lv_iconst (v := iI 1) hx hb dX6_isMore_100 rfl ?_
                refine lv_goto (tgt := 105) hx hb dX6_isMore_101 (by decide) ?_
                rw [hQ]
                exact ze_Rz hx hb hr hlk dX6_isMore_105 (Or.inr rfl) (by have h9 := mr_ne hs hq (show ra / sa < pa / qa by omega); exact (zb_t (by rcases htn with h | h; (exact (hinv.1 h).mpr (by omega)); (exact (hinv.2 h).mpr (by omega)))).symm)
        · skip
          refine lv_lload hx hb dX6_isMore_68 (lv_at hl 1 rfl) ?_
          refine lv_lconst (v := lI 1) hx hb dX6_isMore_70 rfl ?_
          refine zr_lsub hx hb dX6_isMore_71 ?_
          refine lv_lstore (lv' := [(20, .long (lI ((ra.tdiv sa) - 1))), (18, .long (lI (pa / qa))), (8, .long (lI pa)), (10, .long (lI qa)), (12, .long (lI ra)), (14, .long (lI sa)), (16, .int (iI tn)), (17, .int (iI (t : Int)))]) hx hb dX6_isMore_72 hl (by decide) rfl (fun ls hl => ?_)
          rw [show ((ra.tdiv sa) - 1) = (ra / sa) from fl_div1 hs c64] at hl
          refine lv_lload hx hb dX6_isMore_74 (lv_at hl 1 rfl) ?_
          refine lv_lload hx hb dX6_isMore_76 (lv_at hl 0 rfl) ?_
          refine zr_lcmp_eq (tgt := 106) hx hb dX6_isMore_78 dX6_isMore_79 (by decide) (by omega) (by omega) (fun hE => ?_) (fun hE => ?_)
          · skip
            refine lv_lload hx hb dX6_isMore_106 (lv_at hl 2 rfl) ?_
            refine lv_lload hx hb dX6_isMore_108 (lv_at hl 1 rfl) ?_
            refine lv_lload hx hb dX6_isMore_110 (lv_at hl 3 rfl) ?_
            refine zr_lmul hx hb dX6_isMore_112 ?_
            refine zr_lsub hx hb dX6_isMore_113 ?_
            refine zr_rwl (v := (pa % qa)) (mr_sub) ?_
            refine lv_lstore (lv' := [(22, .long (lI (pa % qa))), (20, .long (lI (ra / sa))), (18, .long (lI (pa / qa))), (8, .long (lI pa)), (10, .long (lI qa)), (12, .long (lI ra)), (14, .long (lI sa)), (16, .int (iI tn)), (17, .int (iI (t : Int)))]) hx hb dX6_isMore_114 hl (by decide) rfl (fun ls hl => ?_)
            refine lv_lload hx hb dX6_isMore_116 (lv_at hl 5 rfl) ?_
            refine lv_lload hx hb dX6_isMore_118 (lv_at hl 1 rfl) ?_
            refine lv_lload hx hb dX6_isMore_120 (lv_at hl 6 rfl) ?_
            refine zr_lmul hx hb dX6_isMore_122 ?_
            refine zr_lsub hx hb dX6_isMore_123 ?_
            refine zr_rwl (v := (ra % sa)) (mr_sub) ?_
            refine lv_lstore (lv' := [(24, .long (lI (ra % sa))), (22, .long (lI (pa % qa))), (20, .long (lI (ra / sa))), (18, .long (lI (pa / qa))), (8, .long (lI pa)), (10, .long (lI qa)), (12, .long (lI ra)), (14, .long (lI sa)), (16, .int (iI tn)), (17, .int (iI (t : Int)))]) hx hb dX6_isMore_124 hl (by decide) rfl (fun ls hl => ?_)
            refine lv_lload hx hb dX6_isMore_126 (lv_at hl 1 rfl) ?_
            refine lv_lconst (v := lI 0) hx hb dX6_isMore_128 rfl ?_
            refine zr_lcmp_eq (tgt := 140) hx hb dX6_isMore_129 dX6_isMore_130 (by decide) (by omega) (by omega) (fun c_44 => ?_) (fun c_44 => ?_)
            · skip
              refine lv_lload hx hb dX6_isMore_140 (lv_at hl 1 rfl) ?_
              refine lv_lload hx hb dX6_isMore_142 (lv_at hl 0 rfl) ?_
              refine zr_lcmp_eq (tgt := 169) hx hb dX6_isMore_144 dX6_isMore_145 (by decide) (by omega) (by omega) (fun c_45 => ?_) (fun c_45 => ?_)
              · skip
                refine lv_iconst (v := iI 0) hx hb dX6_isMore_169 rfl ?_
                rw [hQ]
                exact ze_Rz hx hb hr hlk dX6_isMore_170 (Or.inl rfl) (by have h9 := mr_fin hq hs hE; exact (zb_f (fun h8 => by rcases htn with h | h; (have := (hinv.1 h).mp h8; omega); (have := (hinv.2 h).mp h8; omega))).symm)
              · skip
                refine lv_lload hx hb dX6_isMore_148 (lv_at hl 1 rfl) ?_
                refine lv_lconst (v := lI 0) hx hb dX6_isMore_150 rfl ?_
                refine zr_lcmp_le (tgt := 159) hx hb dX6_isMore_151 dX6_isMore_152 (by decide) (by omega) (by omega) (fun c_46 => ?_) (fun c_46 => ?_)
                · skip
                  refine lv_iconst (v := iI 0) hx hb dX6_isMore_159 rfl ?_
                  refine lv_iload hx hb dX6_isMore_160 (lv_at hl 8 rfl) ?_
                  refine zr_icmp_eq (tgt := 169) hx hb dX6_isMore_162 (by decide) (by omega) (by omega) (fun c_47 => ?_) (fun c_47 => ?_)
                  · skip
                    refine lv_iconst (v := iI 0) hx hb dX6_isMore_169 rfl ?_
                    rw [hQ]
                    exact ze_Rz hx hb hr hlk dX6_isMore_170 (Or.inl rfl) (by have h9 := mr_fin hq hs hE; exact (zb_f (fun h8 => by rcases htn with h | h; (have := (hinv.1 h).mp h8; omega); (have := (hinv.2 h).mp h8; omega))).symm)
                  · skip
                    refine lv_iconst (v := iI 1) hx hb dX6_isMore_165 rfl ?_
                    refine lv_goto (tgt := 170) hx hb dX6_isMore_166 (by decide) ?_
                    rw [hQ]
                    exact ze_Rz hx hb hr hlk dX6_isMore_170 (Or.inr rfl) (by have h9 := mr_fin hq hs hE; exact (zb_t (by rcases htn with h | h; (exact (hinv.1 h).mpr (by omega)); (exact (hinv.2 h).mpr (by omega)))).symm)
                · skip
                  refine lv_iconst (v := iI 1) hx hb dX6_isMore_155 rfl ?_
                  refine lv_goto (tgt := 160) hx hb dX6_isMore_156 (by decide) ?_
                  refine lv_iload hx hb dX6_isMore_160 (lv_at hl 8 rfl) ?_
                  refine zr_icmp_eq (tgt := 169) hx hb dX6_isMore_162 (by decide) (by omega) (by omega) (fun c_48 => ?_) (fun c_48 => ?_)
                  · skip
                    refine lv_iconst (v := iI 0) hx hb dX6_isMore_169 rfl ?_
                    rw [hQ]
                    exact ze_Rz hx hb hr hlk dX6_isMore_170 (Or.inl rfl) (by have h9 := mr_fin hq hs hE; exact (zb_f (fun h8 => by rcases htn with h | h; (have := (hinv.1 h).mp h8; omega); (have := (hinv.2 h).mp h8; omega))).symm)
                  · skip
                    refine lv_iconst (v := iI 1) hx hb dX6_isMore_165 rfl ?_
                    refine lv_goto (tgt := 170) hx hb dX6_isMore_166 (by decide) ?_
                    rw [hQ]
                    exact ze_Rz hx hb hr hlk dX6_isMore_170 (Or.inr rfl) (by have h9 := mr_fin hq hs hE; exact (zb_t (by rcases htn with h | h; (exact (hinv.1 h).mpr (by omega)); (exact (hinv.2 h).mpr (by omega)))).symm)
            · skip
              refine lv_lload hx hb dX6_isMore_133 (lv_at hl 0 rfl) ?_
              refine lv_lconst (v := lI 0) hx hb dX6_isMore_135 rfl ?_
              refine zr_lcmp_ne (tgt := 171) hx hb dX6_isMore_136 dX6_isMore_137 (by decide) (by omega) (by omega) (fun c_49 => ?_) (fun c_49 => ?_)
              · skip
                refine lv_lload hx hb dX6_isMore_171 (lv_at hl 5 rfl) ?_
                refine lv_lstore (lv' := [(8, .long (lI qa)), (24, .long (lI (ra % sa))), (22, .long (lI (pa % qa))), (20, .long (lI (ra / sa))), (18, .long (lI (pa / qa))), (10, .long (lI qa)), (12, .long (lI ra)), (14, .long (lI sa)), (16, .int (iI tn)), (17, .int (iI (t : Int)))]) hx hb dX6_isMore_173 hl (by decide) rfl (fun ls hl => ?_)
                refine lv_lload hx hb dX6_isMore_175 (lv_at hl 7 rfl) ?_
                refine lv_lstore (lv' := [(12, .long (lI sa)), (8, .long (lI qa)), (24, .long (lI (ra % sa))), (22, .long (lI (pa % qa))), (20, .long (lI (ra / sa))), (18, .long (lI (pa / qa))), (10, .long (lI qa)), (14, .long (lI sa)), (16, .int (iI tn)), (17, .int (iI (t : Int)))]) hx hb dX6_isMore_177 hl (by decide) rfl (fun ls hl => ?_)
                refine lv_lload hx hb dX6_isMore_179 (lv_at hl 3 rfl) ?_
                refine lv_lstore (lv' := [(10, .long (lI (pa % qa))), (12, .long (lI sa)), (8, .long (lI qa)), (24, .long (lI (ra % sa))), (22, .long (lI (pa % qa))), (20, .long (lI (ra / sa))), (18, .long (lI (pa / qa))), (14, .long (lI sa)), (16, .int (iI tn)), (17, .int (iI (t : Int)))]) hx hb dX6_isMore_181 hl (by decide) rfl (fun ls hl => ?_)
                refine lv_lload hx hb dX6_isMore_183 (lv_at hl 3 rfl) ?_
                refine lv_lstore (lv' := [(14, .long (lI (ra % sa))), (10, .long (lI (pa % qa))), (12, .long (lI sa)), (8, .long (lI qa)), (24, .long (lI (ra % sa))), (22, .long (lI (pa % qa))), (20, .long (lI (ra / sa))), (18, .long (lI (pa / qa))), (16, .int (iI tn)), (17, .int (iI (t : Int)))]) hx hb dX6_isMore_185 hl (by decide) rfl (fun ls hl => ?_)
                refine lv_iload hx hb dX6_isMore_187 (lv_at hl 8 rfl) ?_
                refine zr_if_ne (tgt := 196) hx hb dX6_isMore_189 (by decide) (by omega) (fun c_50 => ?_) (fun c_50 => ?_)
                · skip
                  refine lv_iconst (v := iI 0) hx hb dX6_isMore_196 rfl ?_
                  refine lv_istore (lv' := [(16, .int (iI 0)), (14, .long (lI (ra % sa))), (10, .long (lI (pa % qa))), (12, .long (lI sa)), (8, .long (lI qa)), (24, .long (lI (ra % sa))), (22, .long (lI (pa % qa))), (20, .long (lI (ra / sa))), (18, .long (lI (pa / qa))), (17, .int (iI (t : Int)))]) hx hb dX6_isMore_197 hl (by decide) rfl (fun ls hl => ?_)
                  refine lv_iinc (v := iI ((t : Int) + 1)) (lv' := [(17, .int (iI ((t : Int) + 1))), (16, .int (iI 0)), (14, .long (lI (ra % sa))), (10, .long (lI (pa % qa))), (12, .long (lI sa)), (8, .long (lI qa)), (24, .long (lI (ra % sa))), (22, .long (lI (pa % qa))), (20, .long (lI (ra / sa))), (18, .long (lI (pa / qa)))]) hx hb dX6_isMore_199 hl (k := 9) rfl (iI_add _ _) (by decide) rfl (fun ls hl => ?_)
                  refine lv_goto (tgt := 20) hx hb dX6_isMore_202 (by decide) ?_
                  exact ih20 (t + 1) qa (pa % qa) sa (ra % sa) 0 (by omega) (by omega) (by omega) (by omega) (by omega) (by omega) (by omega) (⟨fun _ => (hinv.2 (by omega)).trans (mr_step hE).1, fun h => by omega⟩) (Or.inr (mr_pot hq (by omega) hpot)) (by first | omega | (have := mr_end hq hpot; omega)) ls (lv_sub hl [5, 3, 4, 2, 1, 0] rfl)
                · skip
                  refine lv_iconst (v := iI 1) hx hb dX6_isMore_192 rfl ?_
                  refine lv_goto (tgt := 197) hx hb dX6_isMore_193 (by decide) ?_
                  refine lv_istore (lv' := [(16, .int (iI 1)), (14, .long (lI (ra % sa))), (10, .long (lI (pa % qa))), (12, .long (lI sa)), (8, .long (lI qa)), (24, .long (lI (ra % sa))), (22, .long (lI (pa % qa))), (20, .long (lI (ra / sa))), (18, .long (lI (pa / qa))), (17, .int (iI (t : Int)))]) hx hb dX6_isMore_197 hl (by decide) rfl (fun ls hl => ?_)
                  refine lv_iinc (v := iI ((t : Int) + 1)) (lv' := [(17, .int (iI ((t : Int) + 1))), (16, .int (iI 1)), (14, .long (lI (ra % sa))), (10, .long (lI (pa % qa))), (12, .long (lI sa)), (8, .long (lI qa)), (24, .long (lI (ra % sa))), (22, .long (lI (pa % qa))), (20, .long (lI (ra / sa))), (18, .long (lI (pa / qa)))]) hx hb dX6_isMore_199 hl (k := 9) rfl (iI_add _ _) (by decide) rfl (fun ls hl => ?_)
                  refine lv_goto (tgt := 20) hx hb dX6_isMore_202 (by decide) ?_
                  exact ih20 (t + 1) qa (pa % qa) sa (ra % sa) 1 (by omega) (by omega) (by omega) (by omega) (by omega) (by omega) (by omega) (⟨fun h => by omega, fun _ => (hinv.1 (by omega)).trans (mr_step hE).2⟩) (Or.inr (mr_pot hq (by omega) hpot)) (by first | omega | (have := mr_end hq hpot; omega)) ls (lv_sub hl [5, 3, 4, 2, 1, 0] rfl)
              · skip
                refine lv_lload hx hb dX6_isMore_140 (lv_at hl 1 rfl) ?_
                refine lv_lload hx hb dX6_isMore_142 (lv_at hl 0 rfl) ?_
                refine zr_lcmp_eq (tgt := 169) hx hb dX6_isMore_144 dX6_isMore_145 (by decide) (by omega) (by omega) (fun c_51 => ?_) (fun c_51 => ?_)
                · skip
                  refine lv_iconst (v := iI 0) hx hb dX6_isMore_169 rfl ?_
                  rw [hQ]
                  exact ze_Rz hx hb hr hlk dX6_isMore_170 (Or.inl rfl) (by have h9 := mr_fin hq hs hE; exact (zb_f (fun h8 => by rcases htn with h | h; (have := (hinv.1 h).mp h8; omega); (have := (hinv.2 h).mp h8; omega))).symm)
                · skip
                  refine lv_lload hx hb dX6_isMore_148 (lv_at hl 1 rfl) ?_
                  refine lv_lconst (v := lI 0) hx hb dX6_isMore_150 rfl ?_
                  refine zr_lcmp_le (tgt := 159) hx hb dX6_isMore_151 dX6_isMore_152 (by decide) (by omega) (by omega) (fun c_52 => ?_) (fun c_52 => ?_)
                  · skip
                    refine lv_iconst (v := iI 0) hx hb dX6_isMore_159 rfl ?_
                    refine lv_iload hx hb dX6_isMore_160 (lv_at hl 8 rfl) ?_
                    refine zr_icmp_eq (tgt := 169) hx hb dX6_isMore_162 (by decide) (by omega) (by omega) (fun c_53 => ?_) (fun c_53 => ?_)
                    · skip
                      refine lv_iconst (v := iI 0) hx hb dX6_isMore_169 rfl ?_
                      rw [hQ]
                      exact ze_Rz hx hb hr hlk dX6_isMore_170 (Or.inl rfl) (by have h9 := mr_fin hq hs hE; exact (zb_f (fun h8 => by rcases htn with h | h; (have := (hinv.1 h).mp h8; omega); (have := (hinv.2 h).mp h8; omega))).symm)
                    · skip
                      refine lv_iconst (v := iI 1) hx hb dX6_isMore_165 rfl ?_
                      refine lv_goto (tgt := 170) hx hb dX6_isMore_166 (by decide) ?_
                      rw [hQ]
                      exact ze_Rz hx hb hr hlk dX6_isMore_170 (Or.inr rfl) (by have h9 := mr_fin hq hs hE; exact (zb_t (by rcases htn with h | h; (exact (hinv.1 h).mpr (by omega)); (exact (hinv.2 h).mpr (by omega)))).symm)
                  · skip
                    refine lv_iconst (v := iI 1) hx hb dX6_isMore_155 rfl ?_
                    refine lv_goto (tgt := 160) hx hb dX6_isMore_156 (by decide) ?_
                    refine lv_iload hx hb dX6_isMore_160 (lv_at hl 8 rfl) ?_
                    refine zr_icmp_eq (tgt := 169) hx hb dX6_isMore_162 (by decide) (by omega) (by omega) (fun c_54 => ?_) (fun c_54 => ?_)
                    · skip
                      refine lv_iconst (v := iI 0) hx hb dX6_isMore_169 rfl ?_
                      rw [hQ]
                      exact ze_Rz hx hb hr hlk dX6_isMore_170 (Or.inl rfl) (by have h9 := mr_fin hq hs hE; exact (zb_f (fun h8 => by rcases htn with h | h; (have := (hinv.1 h).mp h8; omega); (have := (hinv.2 h).mp h8; omega))).symm)
                    · skip
                      refine lv_iconst (v := iI 1) hx hb dX6_isMore_165 rfl ?_
                      refine lv_goto (tgt := 170) hx hb dX6_isMore_166 (by decide) ?_
                      rw [hQ]
                      exact ze_Rz hx hb hr hlk dX6_isMore_170 (Or.inr rfl) (by have h9 := mr_fin hq hs hE; exact (zb_t (by rcases htn with h | h; (exact (hinv.1 h).mpr (by omega)); (exact (hinv.2 h).mpr (by omega)))).symm)
          · skip
            refine lv_lload hx hb dX6_isMore_82 (lv_at hl 1 rfl) ?_
            refine lv_lload hx hb dX6_isMore_84 (lv_at hl 0 rfl) ?_
            refine zr_lcmp_le (tgt := 94) hx hb dX6_isMore_86 dX6_isMore_87 (by decide) (by omega) (by omega) (fun c_55 => ?_) (fun c_55 => ?_)
            · skip
              refine lv_iconst (v := iI 0) hx hb dX6_isMore_94 rfl ?_
              refine lv_iload hx hb dX6_isMore_95 (lv_at hl 6 rfl) ?_
              refine zr_icmp_eq (tgt := 104) hx hb dX6_isMore_97 (by decide) (by omega) (by omega) (fun c_56 => ?_) (fun c_56 => ?_)
              · skip
                refine lv_iconst (v := iI 0) hx hb dX6_isMore_104 rfl ?_
                rw [hQ]
                exact ze_Rz hx hb hr hlk dX6_isMore_105 (Or.inl rfl) (by have h9 := mr_ne hq hs (show pa / qa < ra / sa by omega); exact (zb_f (fun h8 => by rcases htn with h | h; (have := (hinv.1 h).mp h8; omega); (have := (hinv.2 h).mp h8; omega))).symm)
              · skip
                refine lv_iconst (v := iI 1) hx hb dX6_isMore_100 rfl ?_
                refine lv_goto (tgt := 105) hx hb dX6_isMore_101 (by decide) ?_
                rw [hQ]
                exact ze_Rz hx hb hr hlk dX6_isMore_105 (Or.inr rfl) (by have h9 := mr_ne hq hs (show pa / qa < ra / sa by omega); exact (zb_t (by rcases htn with h | h; (exact (hinv.1 h).mpr (by omega)); (exact (hinv.2 h).mpr (by omega)))).symm)
            · skip
              refine lv_iconst (v := iI 1) hx hb dX6_isMore_90 rfl ?_
              refine lv_goto (tgt := 95) hx hb dX6_isMore_91 (by decide) ?_
              refine lv_iload hx hb dX6_isMore_95 (lv_at hl 6 rfl) ?_
              refine zr_icmp_eq (tgt := 104) hx hb dX6_isMore_97 (by decide) (by omega) (by omega) (fun c_57 => ?_) (fun c_57 => ?_)
              · skip
                refine lv_iconst (v := iI 0) hx hb dX6_isMore_104 rfl ?_
                rw [hQ]
                exact ze_Rz hx hb hr hlk dX6_isMore_105 (Or.inl rfl) (by have h9 := mr_ne hs hq (show ra / sa < pa / qa by omega); exact (zb_f (fun h8 => by rcases htn with h | h; (have := (hinv.1 h).mp h8; omega); (have := (hinv.2 h).mp h8; omega))).symm)
              · skip
                refine lv_iconst (v := iI 1) hx hb dX6_isMore_100 rfl ?_
                refine lv_goto (tgt := 105) hx hb dX6_isMore_101 (by decide) ?_
                rw [hQ]
                exact ze_Rz hx hb hr hlk dX6_isMore_105 (Or.inr rfl) (by have h9 := mr_ne hs hq (show ra / sa < pa / qa by omega); exact (zb_t (by rcases htn with h | h; (exact (hinv.1 h).mpr (by omega)); (exact (hinv.2 h).mpr (by omega)))).symm)
  exact LP20 201 0 a1 b1 c1 d1 0 (ha) (hb1.1) (hb1.2) (hc) (hd.1) (hd.2) (Or.inl rfl) (⟨fun _ => Iff.rfl, fun h => by omega⟩) (Or.inl ⟨rfl, by omega⟩) (by first | omega | (have := mr_end hq hpot; omega)) ls (lv_sub hl [5, 4, 3, 2, 1, 0] rfl)
