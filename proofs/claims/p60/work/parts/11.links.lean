/-! LINKS: printed by gen_links.py out of the Statement's tables: methods, fields, calls, constants -/
theorem inT1 {w : Cond} (h : w ∈ tables_1_1) (hg : goodWord w = true) : w ∈ tbG := tbG_mem (List.mem_append_right _ (show w ∈ tables_1_1 ++ (tables_1_2 ++ (tables_1_3 ++ (tables_1_4 ++ (tables_1_5 ++ (tables_1_6 ++ (tables_1_7)))))) from List.mem_append_left _ h)) hg
theorem inL1 {w : Cond} (h : w ∈ tables_1_1) : w ∈ lw_tbl := List.mem_append_right _ (show w ∈ tables_1_1 ++ (tables_1_2 ++ (tables_1_3 ++ (tables_1_4 ++ (tables_1_5 ++ (tables_1_6 ++ (tables_1_7)))))) from List.mem_append_left _ h)
theorem inT2 {w : Cond} (h : w ∈ tables_1_2) (hg : goodWord w = true) : w ∈ tbG := tbG_mem (List.mem_append_right _ (show w ∈ tables_1_1 ++ (tables_1_2 ++ (tables_1_3 ++ (tables_1_4 ++ (tables_1_5 ++ (tables_1_6 ++ (tables_1_7)))))) from List.mem_append_right _ (List.mem_append_left _ h))) hg
theorem inL2 {w : Cond} (h : w ∈ tables_1_2) : w ∈ lw_tbl := List.mem_append_right _ (show w ∈ tables_1_1 ++ (tables_1_2 ++ (tables_1_3 ++ (tables_1_4 ++ (tables_1_5 ++ (tables_1_6 ++ (tables_1_7)))))) from List.mem_append_right _ (List.mem_append_left _ h))
theorem inT3 {w : Cond} (h : w ∈ tables_1_3) (hg : goodWord w = true) : w ∈ tbG := tbG_mem (List.mem_append_right _ (show w ∈ tables_1_1 ++ (tables_1_2 ++ (tables_1_3 ++ (tables_1_4 ++ (tables_1_5 ++ (tables_1_6 ++ (tables_1_7)))))) from List.mem_append_right _ (List.mem_append_right _ (List.mem_append_left _ h)))) hg
theorem inL3 {w : Cond} (h : w ∈ tables_1_3) : w ∈ lw_tbl := List.mem_append_right _ (show w ∈ tables_1_1 ++ (tables_1_2 ++ (tables_1_3 ++ (tables_1_4 ++ (tables_1_5 ++ (tables_1_6 ++ (tables_1_7)))))) from List.mem_append_right _ (List.mem_append_right _ (List.mem_append_left _ h)))
theorem inT4 {w : Cond} (h : w ∈ tables_1_4) (hg : goodWord w = true) : w ∈ tbG := tbG_mem (List.mem_append_right _ (show w ∈ tables_1_1 ++ (tables_1_2 ++ (tables_1_3 ++ (tables_1_4 ++ (tables_1_5 ++ (tables_1_6 ++ (tables_1_7)))))) from List.mem_append_right _ (List.mem_append_right _ (List.mem_append_right _ (List.mem_append_left _ h))))) hg
theorem inL4 {w : Cond} (h : w ∈ tables_1_4) : w ∈ lw_tbl := List.mem_append_right _ (show w ∈ tables_1_1 ++ (tables_1_2 ++ (tables_1_3 ++ (tables_1_4 ++ (tables_1_5 ++ (tables_1_6 ++ (tables_1_7)))))) from List.mem_append_right _ (List.mem_append_right _ (List.mem_append_right _ (List.mem_append_left _ h))))
theorem inT5 {w : Cond} (h : w ∈ tables_1_5) (hg : goodWord w = true) : w ∈ tbG := tbG_mem (List.mem_append_right _ (show w ∈ tables_1_1 ++ (tables_1_2 ++ (tables_1_3 ++ (tables_1_4 ++ (tables_1_5 ++ (tables_1_6 ++ (tables_1_7)))))) from List.mem_append_right _ (List.mem_append_right _ (List.mem_append_right _ (List.mem_append_right _ (List.mem_append_left _ h)))))) hg
theorem inL5 {w : Cond} (h : w ∈ tables_1_5) : w ∈ lw_tbl := List.mem_append_right _ (show w ∈ tables_1_1 ++ (tables_1_2 ++ (tables_1_3 ++ (tables_1_4 ++ (tables_1_5 ++ (tables_1_6 ++ (tables_1_7)))))) from List.mem_append_right _ (List.mem_append_right _ (List.mem_append_right _ (List.mem_append_right _ (List.mem_append_left _ h)))))
theorem inT6 {w : Cond} (h : w ∈ tables_1_6) (hg : goodWord w = true) : w ∈ tbG := tbG_mem (List.mem_append_right _ (show w ∈ tables_1_1 ++ (tables_1_2 ++ (tables_1_3 ++ (tables_1_4 ++ (tables_1_5 ++ (tables_1_6 ++ (tables_1_7)))))) from List.mem_append_right _ (List.mem_append_right _ (List.mem_append_right _ (List.mem_append_right _ (List.mem_append_right _ (List.mem_append_left _ h))))))) hg
theorem inL6 {w : Cond} (h : w ∈ tables_1_6) : w ∈ lw_tbl := List.mem_append_right _ (show w ∈ tables_1_1 ++ (tables_1_2 ++ (tables_1_3 ++ (tables_1_4 ++ (tables_1_5 ++ (tables_1_6 ++ (tables_1_7)))))) from List.mem_append_right _ (List.mem_append_right _ (List.mem_append_right _ (List.mem_append_right _ (List.mem_append_right _ (List.mem_append_left _ h))))))
theorem inT7 {w : Cond} (h : w ∈ tables_1_7) (hg : goodWord w = true) : w ∈ tbG := tbG_mem (List.mem_append_right _ (show w ∈ tables_1_1 ++ (tables_1_2 ++ (tables_1_3 ++ (tables_1_4 ++ (tables_1_5 ++ (tables_1_6 ++ (tables_1_7)))))) from List.mem_append_right _ (List.mem_append_right _ (List.mem_append_right _ (List.mem_append_right _ (List.mem_append_right _ (List.mem_append_right _ (h)))))))) hg
theorem inL7 {w : Cond} (h : w ∈ tables_1_7) : w ∈ lw_tbl := List.mem_append_right _ (show w ∈ tables_1_1 ++ (tables_1_2 ++ (tables_1_3 ++ (tables_1_4 ++ (tables_1_5 ++ (tables_1_6 ++ (tables_1_7)))))) from List.mem_append_right _ (List.mem_append_right _ (List.mem_append_right _ (List.mem_append_right _ (List.mem_append_right _ (List.mem_append_right _ (h)))))))
theorem inP1 {q : MethodName × Nat} (h : q ∈ lw_privs_1) : Cond.selects q.1.cls q.1 q.1 ∈ tbG := tbG_mem (List.mem_append_left _ (List.mem_map.mpr ⟨q, show q ∈ lw_privs_1 ++ (lw_privs_2 ++ (lw_privs_3)) from List.mem_append_left _ h, rfl⟩)) rfl
theorem inP2 {q : MethodName × Nat} (h : q ∈ lw_privs_2) : Cond.selects q.1.cls q.1 q.1 ∈ tbG := tbG_mem (List.mem_append_left _ (List.mem_map.mpr ⟨q, show q ∈ lw_privs_1 ++ (lw_privs_2 ++ (lw_privs_3)) from List.mem_append_right _ (List.mem_append_left _ h), rfl⟩)) rfl
theorem inP3 {q : MethodName × Nat} (h : q ∈ lw_privs_3) : Cond.selects q.1.cls q.1 q.1 ∈ tbG := tbG_mem (List.mem_append_left _ (List.mem_map.mpr ⟨q, show q ∈ lw_privs_1 ++ (lw_privs_2 ++ (lw_privs_3)) from List.mem_append_right _ (List.mem_append_right _ (h)), rfl⟩)) rfl
theorem uw0 : ∀ w ∈ u_ws RX0 TX0 15, w ∈ tbG := List.forall_mem_cons.mpr ⟨(inT2 (List.mem_of_getElem? (i := 157) rfl) rfl), List.forall_mem_cons.mpr ⟨(inT2 (List.mem_of_getElem? (i := 159) rfl) rfl), List.forall_mem_cons.mpr ⟨(inT2 (List.mem_of_getElem? (i := 161) rfl) rfl), List.forall_mem_cons.mpr ⟨(inT2 (List.mem_of_getElem? (i := 163) rfl) rfl), List.forall_mem_cons.mpr ⟨(inT2 (List.mem_of_getElem? (i := 165) rfl) rfl), List.forall_mem_cons.mpr ⟨(inT2 (List.mem_of_getElem? (i := 167) rfl) rfl), List.forall_mem_cons.mpr ⟨(inT2 (List.mem_of_getElem? (i := 169) rfl) rfl), List.forall_mem_cons.mpr ⟨(inT2 (List.mem_of_getElem? (i := 171) rfl) rfl), List.forall_mem_cons.mpr ⟨(inT2 (List.mem_of_getElem? (i := 173) rfl) rfl), List.forall_mem_cons.mpr ⟨(inT2 (List.mem_of_getElem? (i := 175) rfl) rfl), List.forall_mem_cons.mpr ⟨(inT2 (List.mem_of_getElem? (i := 177) rfl) rfl), List.forall_mem_cons.mpr ⟨(inT2 (List.mem_of_getElem? (i := 179) rfl) rfl), List.forall_mem_cons.mpr ⟨(inT2 (List.mem_of_getElem? (i := 181) rfl) rfl), List.forall_mem_cons.mpr ⟨(inT2 (List.mem_of_getElem? (i := 183) rfl) rfl), List.forall_mem_cons.mpr ⟨(inT2 (List.mem_of_getElem? (i := 185) rfl) rfl), fun _ h => absurd h List.not_mem_nil⟩⟩⟩⟩⟩⟩⟩⟩⟩⟩⟩⟩⟩⟩⟩
theorem uw1 : ∀ w ∈ u_ws RX1 TX1 8, w ∈ tbG := List.forall_mem_cons.mpr ⟨(inT2 (List.mem_of_getElem? (i := 107) rfl) rfl), List.forall_mem_cons.mpr ⟨(inT2 (List.mem_of_getElem? (i := 109) rfl) rfl), List.forall_mem_cons.mpr ⟨(inT2 (List.mem_of_getElem? (i := 111) rfl) rfl), List.forall_mem_cons.mpr ⟨(inT2 (List.mem_of_getElem? (i := 113) rfl) rfl), List.forall_mem_cons.mpr ⟨(inT2 (List.mem_of_getElem? (i := 115) rfl) rfl), List.forall_mem_cons.mpr ⟨(inT2 (List.mem_of_getElem? (i := 117) rfl) rfl), List.forall_mem_cons.mpr ⟨(inT2 (List.mem_of_getElem? (i := 119) rfl) rfl), List.forall_mem_cons.mpr ⟨(inT2 (List.mem_of_getElem? (i := 121) rfl) rfl), fun _ h => absurd h List.not_mem_nil⟩⟩⟩⟩⟩⟩⟩⟩
theorem uw2 : ∀ w ∈ u_ws RX2 TX2 3, w ∈ tbG := List.forall_mem_cons.mpr ⟨(inT2 (List.mem_of_getElem? (i := 41) rfl) rfl), List.forall_mem_cons.mpr ⟨(inT2 (List.mem_of_getElem? (i := 43) rfl) rfl), List.forall_mem_cons.mpr ⟨(inT2 (List.mem_of_getElem? (i := 45) rfl) rfl), fun _ h => absurd h List.not_mem_nil⟩⟩⟩
theorem uw3 : ∀ w ∈ u_ws RX3 TX3 7, w ∈ tbG := List.forall_mem_cons.mpr ⟨(inT2 (List.mem_of_getElem? (i := 70) rfl) rfl), List.forall_mem_cons.mpr ⟨(inT2 (List.mem_of_getElem? (i := 72) rfl) rfl), List.forall_mem_cons.mpr ⟨(inT2 (List.mem_of_getElem? (i := 74) rfl) rfl), List.forall_mem_cons.mpr ⟨(inT2 (List.mem_of_getElem? (i := 76) rfl) rfl), List.forall_mem_cons.mpr ⟨(inT2 (List.mem_of_getElem? (i := 78) rfl) rfl), List.forall_mem_cons.mpr ⟨(inT2 (List.mem_of_getElem? (i := 80) rfl) rfl), List.forall_mem_cons.mpr ⟨(inT2 (List.mem_of_getElem? (i := 82) rfl) rfl), fun _ h => absurd h List.not_mem_nil⟩⟩⟩⟩⟩⟩⟩
theorem uw4 : ∀ w ∈ u_ws RX4 TX4 17, w ∈ tbG := List.forall_mem_cons.mpr ⟨(inT1 (List.mem_of_getElem? (i := 234) rfl) rfl), List.forall_mem_cons.mpr ⟨(inT1 (List.mem_of_getElem? (i := 236) rfl) rfl), List.forall_mem_cons.mpr ⟨(inT1 (List.mem_of_getElem? (i := 238) rfl) rfl), List.forall_mem_cons.mpr ⟨(inT2 (List.mem_of_getElem? (i := 0) rfl) rfl), List.forall_mem_cons.mpr ⟨(inT2 (List.mem_of_getElem? (i := 2) rfl) rfl), List.forall_mem_cons.mpr ⟨(inT2 (List.mem_of_getElem? (i := 4) rfl) rfl), List.forall_mem_cons.mpr ⟨(inT2 (List.mem_of_getElem? (i := 6) rfl) rfl), List.forall_mem_cons.mpr ⟨(inT2 (List.mem_of_getElem? (i := 8) rfl) rfl), List.forall_mem_cons.mpr ⟨(inT2 (List.mem_of_getElem? (i := 10) rfl) rfl), List.forall_mem_cons.mpr ⟨(inT2 (List.mem_of_getElem? (i := 12) rfl) rfl), List.forall_mem_cons.mpr ⟨(inT2 (List.mem_of_getElem? (i := 14) rfl) rfl), List.forall_mem_cons.mpr ⟨(inT2 (List.mem_of_getElem? (i := 16) rfl) rfl), List.forall_mem_cons.mpr ⟨(inT2 (List.mem_of_getElem? (i := 18) rfl) rfl), List.forall_mem_cons.mpr ⟨(inT2 (List.mem_of_getElem? (i := 20) rfl) rfl), List.forall_mem_cons.mpr ⟨(inT2 (List.mem_of_getElem? (i := 22) rfl) rfl), List.forall_mem_cons.mpr ⟨(inT2 (List.mem_of_getElem? (i := 24) rfl) rfl), List.forall_mem_cons.mpr ⟨(inT2 (List.mem_of_getElem? (i := 26) rfl) rfl), fun _ h => absurd h List.not_mem_nil⟩⟩⟩⟩⟩⟩⟩⟩⟩⟩⟩⟩⟩⟩⟩⟩⟩
theorem uw5 : ∀ w ∈ u_ws RX5 TX5 6, w ∈ tbG := List.forall_mem_cons.mpr ⟨(inT1 (List.mem_of_getElem? (i := 68) rfl) rfl), List.forall_mem_cons.mpr ⟨(inT1 (List.mem_of_getElem? (i := 70) rfl) rfl), List.forall_mem_cons.mpr ⟨(inT1 (List.mem_of_getElem? (i := 72) rfl) rfl), List.forall_mem_cons.mpr ⟨(inT1 (List.mem_of_getElem? (i := 74) rfl) rfl), List.forall_mem_cons.mpr ⟨(inT1 (List.mem_of_getElem? (i := 76) rfl) rfl), List.forall_mem_cons.mpr ⟨(inT1 (List.mem_of_getElem? (i := 78) rfl) rfl), fun _ h => absurd h List.not_mem_nil⟩⟩⟩⟩⟩⟩
theorem uw6 : ∀ w ∈ u_ws RX6 TX6 6, w ∈ tbG := List.forall_mem_cons.mpr ⟨(inT1 (List.mem_of_getElem? (i := 128) rfl) rfl), List.forall_mem_cons.mpr ⟨(inT1 (List.mem_of_getElem? (i := 130) rfl) rfl), List.forall_mem_cons.mpr ⟨(inT1 (List.mem_of_getElem? (i := 132) rfl) rfl), List.forall_mem_cons.mpr ⟨(inT1 (List.mem_of_getElem? (i := 134) rfl) rfl), List.forall_mem_cons.mpr ⟨(inT1 (List.mem_of_getElem? (i := 136) rfl) rfl), List.forall_mem_cons.mpr ⟨(inT1 (List.mem_of_getElem? (i := 138) rfl) rfl), fun _ h => absurd h List.not_mem_nil⟩⟩⟩⟩⟩⟩
theorem uw7 : ∀ w ∈ u_ws RX7 TX7 14, w ∈ tbG := List.forall_mem_cons.mpr ⟨(inT2 (List.mem_of_getElem? (i := 214) rfl) rfl), List.forall_mem_cons.mpr ⟨(inT2 (List.mem_of_getElem? (i := 216) rfl) rfl), List.forall_mem_cons.mpr ⟨(inT2 (List.mem_of_getElem? (i := 218) rfl) rfl), List.forall_mem_cons.mpr ⟨(inT2 (List.mem_of_getElem? (i := 220) rfl) rfl), List.forall_mem_cons.mpr ⟨(inT2 (List.mem_of_getElem? (i := 222) rfl) rfl), List.forall_mem_cons.mpr ⟨(inT2 (List.mem_of_getElem? (i := 224) rfl) rfl), List.forall_mem_cons.mpr ⟨(inT2 (List.mem_of_getElem? (i := 226) rfl) rfl), List.forall_mem_cons.mpr ⟨(inT2 (List.mem_of_getElem? (i := 228) rfl) rfl), List.forall_mem_cons.mpr ⟨(inT2 (List.mem_of_getElem? (i := 230) rfl) rfl), List.forall_mem_cons.mpr ⟨(inT2 (List.mem_of_getElem? (i := 232) rfl) rfl), List.forall_mem_cons.mpr ⟨(inT2 (List.mem_of_getElem? (i := 234) rfl) rfl), List.forall_mem_cons.mpr ⟨(inT2 (List.mem_of_getElem? (i := 236) rfl) rfl), List.forall_mem_cons.mpr ⟨(inT2 (List.mem_of_getElem? (i := 238) rfl) rfl), List.forall_mem_cons.mpr ⟨(inT3 (List.mem_of_getElem? (i := 0) rfl) rfl), fun _ h => absurd h List.not_mem_nil⟩⟩⟩⟩⟩⟩⟩⟩⟩⟩⟩⟩⟩⟩
theorem uw8 : ∀ w ∈ u_ws RX8 TX8 10, w ∈ tbG := List.forall_mem_cons.mpr ⟨(inT1 (List.mem_of_getElem? (i := 166) rfl) rfl), List.forall_mem_cons.mpr ⟨(inT1 (List.mem_of_getElem? (i := 168) rfl) rfl), List.forall_mem_cons.mpr ⟨(inT1 (List.mem_of_getElem? (i := 170) rfl) rfl), List.forall_mem_cons.mpr ⟨(inT1 (List.mem_of_getElem? (i := 172) rfl) rfl), List.forall_mem_cons.mpr ⟨(inT1 (List.mem_of_getElem? (i := 174) rfl) rfl), List.forall_mem_cons.mpr ⟨(inT1 (List.mem_of_getElem? (i := 176) rfl) rfl), List.forall_mem_cons.mpr ⟨(inT1 (List.mem_of_getElem? (i := 178) rfl) rfl), List.forall_mem_cons.mpr ⟨(inT1 (List.mem_of_getElem? (i := 180) rfl) rfl), List.forall_mem_cons.mpr ⟨(inT1 (List.mem_of_getElem? (i := 182) rfl) rfl), List.forall_mem_cons.mpr ⟨(inT1 (List.mem_of_getElem? (i := 184) rfl) rfl), fun _ h => absurd h List.not_mem_nil⟩⟩⟩⟩⟩⟩⟩⟩⟩⟩
theorem uw9 : ∀ w ∈ u_ws RX9 TX9 4, w ∈ tbG := List.forall_mem_cons.mpr ⟨(inT1 (List.mem_of_getElem? (i := 98) rfl) rfl), List.forall_mem_cons.mpr ⟨(inT1 (List.mem_of_getElem? (i := 100) rfl) rfl), List.forall_mem_cons.mpr ⟨(inT1 (List.mem_of_getElem? (i := 102) rfl) rfl), List.forall_mem_cons.mpr ⟨(inT1 (List.mem_of_getElem? (i := 104) rfl) rfl), fun _ h => absurd h List.not_mem_nil⟩⟩⟩⟩
theorem uw10 : ∀ w ∈ u_ws RX10 TX10 5, w ∈ tbG := List.forall_mem_cons.mpr ⟨(inT3 (List.mem_of_getElem? (i := 10) rfl) rfl), List.forall_mem_cons.mpr ⟨(inT3 (List.mem_of_getElem? (i := 12) rfl) rfl), List.forall_mem_cons.mpr ⟨(inT3 (List.mem_of_getElem? (i := 14) rfl) rfl), List.forall_mem_cons.mpr ⟨(inT3 (List.mem_of_getElem? (i := 16) rfl) rfl), List.forall_mem_cons.mpr ⟨(inT3 (List.mem_of_getElem? (i := 18) rfl) rfl), fun _ h => absurd h List.not_mem_nil⟩⟩⟩⟩⟩
theorem uw13 : ∀ w ∈ u_ws RJ0 TJ0 4, w ∈ tbG := List.forall_mem_cons.mpr ⟨(inT6 (List.mem_of_getElem? (i := 151) rfl) rfl), List.forall_mem_cons.mpr ⟨(inT6 (List.mem_of_getElem? (i := 153) rfl) rfl), List.forall_mem_cons.mpr ⟨(inT6 (List.mem_of_getElem? (i := 155) rfl) rfl), List.forall_mem_cons.mpr ⟨(inT6 (List.mem_of_getElem? (i := 157) rfl) rfl), fun _ h => absurd h List.not_mem_nil⟩⟩⟩⟩
theorem uw12 : ∀ w ∈ u_ws RJ4 TJ4 4, w ∈ tbG := List.forall_mem_cons.mpr ⟨(inT5 (List.mem_of_getElem? (i := 220) rfl) rfl), List.forall_mem_cons.mpr ⟨(inT5 (List.mem_of_getElem? (i := 222) rfl) rfl), List.forall_mem_cons.mpr ⟨(inT5 (List.mem_of_getElem? (i := 224) rfl) rfl), List.forall_mem_cons.mpr ⟨(inT5 (List.mem_of_getElem? (i := 226) rfl) rfl), fun _ h => absurd h List.not_mem_nil⟩⟩⟩⟩
theorem uw11 : ∀ w ∈ u_ws RL TL 6, w ∈ tbG := List.forall_mem_cons.mpr ⟨(inT3 (List.mem_of_getElem? (i := 27) rfl) rfl), List.forall_mem_cons.mpr ⟨(inT3 (List.mem_of_getElem? (i := 29) rfl) rfl), List.forall_mem_cons.mpr ⟨(inT3 (List.mem_of_getElem? (i := 31) rfl) rfl), List.forall_mem_cons.mpr ⟨(inT3 (List.mem_of_getElem? (i := 33) rfl) rfl), List.forall_mem_cons.mpr ⟨(inT3 (List.mem_of_getElem? (i := 35) rfl) rfl), List.forall_mem_cons.mpr ⟨(inT3 (List.mem_of_getElem? (i := 37) rfl) rfl), fun _ h => absurd h List.not_mem_nil⟩⟩⟩⟩⟩⟩
def μL_init : MI := (yL_init, cL_init, 1, none)
theorem kμL_init : Cond.code yL_init cL_init 1 none ∈ tbG := (inT1 (List.mem_of_getElem? (i := 29) rfl) rfl)
def μX10_init : MI := (yX10_init, cX10_init, 2, none)
theorem kμX10_init : Cond.code yX10_init cX10_init 2 none ∈ tbG := (inT1 (List.mem_of_getElem? (i := 37) rfl) rfl)
def μX0_init : MI := (yX0_init, cX0_init, 2, none)
theorem kμX0_init : Cond.code yX0_init cX0_init 2 none ∈ tbG := (inT1 (List.mem_of_getElem? (i := 43) rfl) rfl)
def μX5_init : MI := (yX5_init, cX5_init, 1, none)
theorem kμX5_init : Cond.code yX5_init cX5_init 1 none ∈ tbG := (inT1 (List.mem_of_getElem? (i := 57) rfl) rfl)
def μX9_init : MI := (yX9_init, cX9_init, 1, none)
theorem kμX9_init : Cond.code yX9_init cX9_init 1 none ∈ tbG := (inT1 (List.mem_of_getElem? (i := 86) rfl) rfl)
def μX6_init : MI := (yX6_init, cX6_init, 1, none)
theorem kμX6_init : Cond.code yX6_init cX6_init 1 none ∈ tbG := (inT1 (List.mem_of_getElem? (i := 111) rfl) rfl)
def μX8_init : MI := (yX8_init, cX8_init, 1, none)
theorem kμX8_init : Cond.code yX8_init cX8_init 1 none ∈ tbG := (inT1 (List.mem_of_getElem? (i := 145) rfl) rfl)
def μX4_init : MI := (yX4_init, cX4_init, 1, none)
theorem kμX4_init : Cond.code yX4_init cX4_init 1 none ∈ tbG := (inT1 (List.mem_of_getElem? (i := 191) rfl) rfl)
def μX2_init : MI := (yX2_init, cX2_init, 1, none)
theorem kμX2_init : Cond.code yX2_init cX2_init 1 none ∈ tbG := (inT2 (List.mem_of_getElem? (i := 32) rfl) rfl)
def μX3_init : MI := (yX3_init, cX3_init, 1, none)
theorem kμX3_init : Cond.code yX3_init cX3_init 1 none ∈ tbG := (inT2 (List.mem_of_getElem? (i := 51) rfl) rfl)
def μX1_init : MI := (yX1_init, cX1_init, 1, none)
theorem kμX1_init : Cond.code yX1_init cX1_init 1 none ∈ tbG := (inT2 (List.mem_of_getElem? (i := 88) rfl) rfl)
def μX7_init : MI := (yX7_init, cX7_init, 1, none)
theorem kμX7_init : Cond.code yX7_init cX7_init 1 none ∈ tbG := (inT2 (List.mem_of_getElem? (i := 193) rfl) rfl)
def μL_flies : MI := (yL_flies, cL_flies, 5, (some .boolean))
theorem kμL_flies : Cond.code yL_flies cL_flies 5 (some .boolean) ∈ tbG := (inT3 (List.mem_of_getElem? (i := 43) rfl) rfl)
def μL_builds : MI := (yL_builds, cL_builds, 6, (some .boolean))
theorem kμL_builds : Cond.code yL_builds cL_builds 6 (some .boolean) ∈ tbG := (inT3 (List.mem_of_getElem? (i := 47) rfl) rfl)
def μL_draw : MI := (yL_draw, cL_draw, 3, (some .int))
theorem kμL_draw : Cond.code yL_draw cL_draw 3 (some .int) ∈ tbG := (inT3 (List.mem_of_getElem? (i := 51) rfl) rfl)
def μJ9_max_7cf53 : MI := (yJ9_max_7cf53, cJ9_max_7cf53, 2, (some .int))
theorem kμJ9_max_7cf53 : Cond.code yJ9_max_7cf53 cJ9_max_7cf53 2 (some .int) ∈ tbG := (inT3 (List.mem_of_getElem? (i := 54) rfl) rfl)
def μL_at : MI := (yL_at, cL_at, 3, (some .int))
theorem kμL_at : Cond.code yL_at cL_at 3 (some .int) ∈ tbG := (inT3 (List.mem_of_getElem? (i := 57) rfl) rfl)
def μX10_addNode : MI := (yX10_addNode, cX10_addNode, 7, (some .int))
theorem kμX10_addNode : Cond.code yX10_addNode cX10_addNode 7 (some .int) ∈ tbG := (inT3 (List.mem_of_getElem? (i := 67) rfl) rfl)
def μX10_within : MI := (yX10_within, cX10_within, 3, (some .boolean))
theorem kμX10_within : Cond.code yX10_within cX10_within 3 (some .boolean) ∈ tbG := (inT3 (List.mem_of_getElem? (i := 71) rfl) rfl)
def μX4_begin : MI := (yX4_begin, cX4_begin, 6, none)
theorem kμX4_begin : Cond.code yX4_begin cX4_begin 6 none ∈ tbG := (inT3 (List.mem_of_getElem? (i := 80) rfl) rfl)
def μX4_beginRecords : MI := (yX4_beginRecords, cX4_beginRecords, 1, none)
theorem kμX4_beginRecords : Cond.code yX4_beginRecords cX4_beginRecords 1 none ∈ tbG := (inT3 (List.mem_of_getElem? (i := 86) rfl) rfl)
def μX10_linkCount : MI := (yX10_linkCount, cX10_linkCount, 1, (some .int))
theorem kμX10_linkCount : Cond.code yX10_linkCount cX10_linkCount 1 (some .int) ∈ tbG := (inT3 (List.mem_of_getElem? (i := 90) rfl) rfl)
def μX10_link : MI := (yX10_link, cX10_link, 6, (some .int))
theorem kμX10_link : Cond.code yX10_link cX10_link 6 (some .int) ∈ tbG := (inT3 (List.mem_of_getElem? (i := 94) rfl) rfl)
def μX0_hasNode : MI := (yX0_hasNode, cX0_hasNode, 2, (some .boolean))
theorem kμX0_hasNode : Cond.code yX0_hasNode cX0_hasNode 2 (some .boolean) ∈ tbG := (inT3 (List.mem_of_getElem? (i := 98) rfl) rfl)
def μX0_placeOfLink : MI := (yX0_placeOfLink, cX0_placeOfLink, 5, (some .int))
theorem kμX0_placeOfLink : Cond.code yX0_placeOfLink cX0_placeOfLink 5 (some .int) ∈ tbG := (inT3 (List.mem_of_getElem? (i := 103) rfl) rfl)
def μX0_makeLink : MI := (yX0_makeLink, cX0_makeLink, 4, (some .int))
theorem kμX0_makeLink : Cond.code yX0_makeLink cX0_makeLink 4 (some .int) ∈ tbG := (inT3 (List.mem_of_getElem? (i := 107) rfl) rfl)
def μX2_begin : MI := (yX2_begin, cX2_begin, 4, none)
theorem kμX2_begin : Cond.code yX2_begin cX2_begin 4 none ∈ tbG := (inT3 (List.mem_of_getElem? (i := 112) rfl) rfl)
def μX0_dropLink : MI := (yX0_dropLink, cX0_dropLink, 2, none)
theorem kμX0_dropLink : Cond.code yX0_dropLink cX0_dropLink 2 none ∈ tbG := (inT3 (List.mem_of_getElem? (i := 116) rfl) rfl)
def μX2_copyFrom : MI := (yX2_copyFrom, cX2_copyFrom, 2, none)
theorem kμX2_copyFrom : Cond.code yX2_copyFrom cX2_copyFrom 2 none ∈ tbG := (inT3 (List.mem_of_getElem? (i := 120) rfl) rfl)
def μX10_conductance : MI := (yX10_conductance, cX10_conductance, 4, (some .int))
theorem kμX10_conductance : Cond.code yX10_conductance cX10_conductance 4 (some .int) ∈ tbG := (inT3 (List.mem_of_getElem? (i := 125) rfl) rfl)
def μX10_addLouvre : MI := (yX10_addLouvre, cX10_addLouvre, 7, (some .int))
theorem kμX10_addLouvre : Cond.code yX10_addLouvre cX10_addLouvre 7 (some .int) ∈ tbG := (inT3 (List.mem_of_getElem? (i := 129) rfl) rfl)
def μX3_begin : MI := (yX3_begin, cX3_begin, 6, none)
theorem kμX3_begin : Cond.code yX3_begin cX3_begin 6 none ∈ tbG := (inT3 (List.mem_of_getElem? (i := 134) rfl) rfl)
def μX10_addHeater : MI := (yX10_addHeater, cX10_addHeater, 7, (some .int))
theorem kμX10_addHeater : Cond.code yX10_addHeater cX10_addHeater 7 (some .int) ∈ tbG := (inT3 (List.mem_of_getElem? (i := 138) rfl) rfl)
def μX1_begin : MI := (yX1_begin, cX1_begin, 6, none)
theorem kμX1_begin : Cond.code yX1_begin cX1_begin 6 none ∈ tbG := (inT3 (List.mem_of_getElem? (i := 142) rfl) rfl)
def μX0_rankHeater : MI := (yX0_rankHeater, cX0_rankHeater, 4, none)
theorem kμX0_rankHeater : Cond.code yX0_rankHeater cX0_rankHeater 4 none ∈ tbG := (inT3 (List.mem_of_getElem? (i := 146) rfl) rfl)
def μX10_setOrbit : MI := (yX10_setOrbit, cX10_setOrbit, 7, (some .int))
theorem kμX10_setOrbit : Cond.code yX10_setOrbit cX10_setOrbit 7 (some .int) ∈ tbG := (inT3 (List.mem_of_getElem? (i := 153) rfl) rfl)
def μX5_begin : MI := (yX5_begin, cX5_begin, 7, none)
theorem kμX5_begin : Cond.code yX5_begin cX5_begin 7 none ∈ tbG := (inT3 (List.mem_of_getElem? (i := 157) rfl) rfl)
def μX10_setPower : MI := (yX10_setPower, cX10_setPower, 5, (some .int))
theorem kμX10_setPower : Cond.code yX10_setPower cX10_setPower 5 (some .int) ∈ tbG := (inT3 (List.mem_of_getElem? (i := 162) rfl) rfl)
def μX9_begin : MI := (yX9_begin, cX9_begin, 5, none)
theorem kμX9_begin : Cond.code yX9_begin cX9_begin 5 none ∈ tbG := (inT3 (List.mem_of_getElem? (i := 167) rfl) rfl)
def μX10_setStepLength : MI := (yX10_setStepLength, cX10_setStepLength, 3, (some .int))
theorem kμX10_setStepLength : Cond.code yX10_setStepLength cX10_setStepLength 3 (some .int) ∈ tbG := (inT3 (List.mem_of_getElem? (i := 171) rfl) rfl)
def μL_balances : MI := (yL_balances, cL_balances, 9, (some .boolean))
theorem kμL_balances : Cond.code yL_balances cL_balances 9 (some .boolean) ∈ tbG := (inT3 (List.mem_of_getElem? (i := 175) rfl) rfl)
def μX10_nodeCount : MI := (yX10_nodeCount, cX10_nodeCount, 1, (some .int))
theorem kμX10_nodeCount : Cond.code yX10_nodeCount cX10_nodeCount 1 (some .int) ∈ tbG := (inT3 (List.mem_of_getElem? (i := 179) rfl) rfl)
def μX10_load : MI := (yX10_load, cX10_load, 2, (some .int))
theorem kμX10_load : Cond.code yX10_load cX10_load 2 (some .int) ∈ tbG := (inT3 (List.mem_of_getElem? (i := 183) rfl) rfl)
def μX10_absorbedHeat : MI := (yX10_absorbedHeat, cX10_absorbedHeat, 2, (some .long))
theorem kμX10_absorbedHeat : Cond.code yX10_absorbedHeat cX10_absorbedHeat 2 (some .long) ∈ tbG := (inT3 (List.mem_of_getElem? (i := 187) rfl) rfl)
def μX0_balanceHeat : MI := (yX0_balanceHeat, cX0_balanceHeat, 4, none)
theorem kμX0_balanceHeat : Cond.code yX0_balanceHeat cX0_balanceHeat 4 none ∈ tbG := (inT3 (List.mem_of_getElem? (i := 192) rfl) rfl)
def μX0_hasSun : MI := (yX0_hasSun, cX0_hasSun, 2, (some .boolean))
theorem kμX0_hasSun : Cond.code yX0_hasSun cX0_hasSun 2 (some .boolean) ∈ tbG := (inT3 (List.mem_of_getElem? (i := 196) rfl) rfl)
def μX0_phaseNow : MI := (yX0_phaseNow, cX0_phaseNow, 1, (some .int))
theorem kμX0_phaseNow : Cond.code yX0_phaseNow cX0_phaseNow 1 (some .int) ∈ tbG := (inT3 (List.mem_of_getElem? (i := 200) rfl) rfl)
def μX5_heatInto : MI := (yX5_heatInto, cX5_heatInto, 7, (some .long))
theorem kμX5_heatInto : Cond.code yX5_heatInto cX5_heatInto 7 (some .long) ∈ tbG := (inT3 (List.mem_of_getElem? (i := 204) rfl) rfl)
def μX0_conductThrough : MI := (yX0_conductThrough, cX0_conductThrough, 6, none)
theorem kμX0_conductThrough : Cond.code yX0_conductThrough cX0_conductThrough 6 none ∈ tbG := (inT3 (List.mem_of_getElem? (i := 211) rfl) rfl)
def μX4_emit : MI := (yX4_emit, cX4_emit, 3, none)
theorem kμX4_emit : Cond.code yX4_emit cX4_emit 3 none ∈ tbG := (inT3 (List.mem_of_getElem? (i := 216) rfl) rfl)
def μX10_conductedHeat : MI := (yX10_conductedHeat, cX10_conductedHeat, 2, (some .long))
theorem kμX10_conductedHeat : Cond.code yX10_conductedHeat cX10_conductedHeat 2 (some .long) ∈ tbG := (inT3 (List.mem_of_getElem? (i := 223) rfl) rfl)
def μX10_emittedHeat : MI := (yX10_emittedHeat, cX10_emittedHeat, 2, (some .long))
theorem kμX10_emittedHeat : Cond.code yX10_emittedHeat cX10_emittedHeat 2 (some .long) ∈ tbG := (inT3 (List.mem_of_getElem? (i := 227) rfl) rfl)
def μX10_netHeat : MI := (yX10_netHeat, cX10_netHeat, 2, (some .long))
theorem kμX10_netHeat : Cond.code yX10_netHeat cX10_netHeat 2 (some .long) ∈ tbG := (inT3 (List.mem_of_getElem? (i := 231) rfl) rfl)
def μX4_gain : MI := (yX4_gain, cX4_gain, 1, (some .long))
theorem kμX4_gain : Cond.code yX4_gain cX4_gain 1 (some .long) ∈ tbG := (inT3 (List.mem_of_getElem? (i := 235) rfl) rfl)
def μX10_usedPower : MI := (yX10_usedPower, cX10_usedPower, 1, (some .int))
theorem kμX10_usedPower : Cond.code yX10_usedPower cX10_usedPower 1 (some .int) ∈ tbG := (inT3 (List.mem_of_getElem? (i := 239) rfl) rfl)
def μX0_powerInUse : MI := (yX0_powerInUse, cX0_powerInUse, 3, (some .int))
theorem kμX0_powerInUse : Cond.code yX0_powerInUse cX0_powerInUse 3 (some .int) ∈ tbG := (inT4 (List.mem_of_getElem? (i := 3) rfl) rfl)
def μL_put : MI := (yL_put, cL_put, 5, none)
theorem kμL_put : Cond.code yL_put cL_put 5 none ∈ tbG := (inT4 (List.mem_of_getElem? (i := 8) rfl) rfl)
def μX10_truncateText : MI := (yX10_truncateText, cX10_truncateText, 2, (some .int))
theorem kμX10_truncateText : Cond.code yX10_truncateText cX10_truncateText 2 (some .int) ∈ tbG := (inT4 (List.mem_of_getElem? (i := 12) rfl) rfl)
def μJ0_length_8abf5 : MI := (yJ0_length_8abf5, cJ0_length_8abf5, 1, (some .int))
theorem kμJ0_length_8abf5 : Cond.code yJ0_length_8abf5 cJ0_length_8abf5 1 (some .int) ∈ tbG := (inT4 (List.mem_of_getElem? (i := 16) rfl) rfl)
def μJ0_coder_7d493 : MI := (yJ0_coder_7d493, cJ0_coder_7d493, 1, (some .byte))
theorem kμJ0_coder_7d493 : Cond.code yJ0_coder_7d493 cJ0_coder_7d493 1 (some .byte) ∈ tbG := (inT4 (List.mem_of_getElem? (i := 20) rfl) rfl)
def μJ0_charAt_5068e : MI := (yJ0_charAt_5068e, cJ0_charAt_5068e, 2, (some .char))
theorem kμJ0_charAt_5068e : Cond.code yJ0_charAt_5068e cJ0_charAt_5068e 2 (some .char) ∈ tbG := (inT4 (List.mem_of_getElem? (i := 26) rfl) rfl)
def μJ0_isLatin1_aae02 : MI := (yJ0_isLatin1_aae02, cJ0_isLatin1_aae02, 1, (some .boolean))
theorem kμJ0_isLatin1_aae02 : Cond.code yJ0_isLatin1_aae02 cJ0_isLatin1_aae02 1 (some .boolean) ∈ tbG := (inT4 (List.mem_of_getElem? (i := 30) rfl) rfl)
def μJ1_charAt_3b067 : MI := (yJ1_charAt_3b067, cJ1_charAt_3b067, 2, (some .char))
theorem kμJ1_charAt_3b067 : Cond.code yJ1_charAt_3b067 cJ1_charAt_3b067 2 (some .char) ∈ tbG := (inT4 (List.mem_of_getElem? (i := 33) rfl) rfl)
def μJ0_checkIndex_df160 : MI := (yJ0_checkIndex_df160, cJ0_checkIndex_df160, 2, none)
theorem kμJ0_checkIndex_df160 : Cond.code yJ0_checkIndex_df160 cJ0_checkIndex_df160 2 none ∈ tbG := (inT4 (List.mem_of_getElem? (i := 36) rfl) rfl)
def μJ3_checkIndex_8e157 : MI := (yJ3_checkIndex_8e157, cJ3_checkIndex_8e157, 3, (some .int))
theorem kμJ3_checkIndex_8e157 : Cond.code yJ3_checkIndex_8e157 cJ3_checkIndex_8e157 3 (some .int) ∈ tbG := (inT4 (List.mem_of_getElem? (i := 41) rfl) rfl)
def μJ2_charAt_3b067 : MI := (yJ2_charAt_3b067, cJ2_charAt_3b067, 2, (some .char))
theorem kμJ2_charAt_3b067 : Cond.code yJ2_charAt_3b067 cJ2_charAt_3b067 2 (some .char) ∈ tbG := (inT4 (List.mem_of_getElem? (i := 44) rfl) rfl)
def μJ2_checkIndex_2214a : MI := (yJ2_checkIndex_2214a, cJ2_checkIndex_2214a, 2, none)
theorem kμJ2_checkIndex_2214a : Cond.code yJ2_checkIndex_2214a cJ2_checkIndex_2214a 2 none ∈ tbG := (inT4 (List.mem_of_getElem? (i := 47) rfl) rfl)
def μJ2_length_9d52b : MI := (yJ2_length_9d52b, cJ2_length_9d52b, 1, (some .int))
theorem kμJ2_length_9d52b : Cond.code yJ2_length_9d52b cJ2_length_9d52b 1 (some .int) ∈ tbG := (inT4 (List.mem_of_getElem? (i := 50) rfl) rfl)
def μJ2_getChar_3b067 : MI := (yJ2_getChar_3b067, cJ2_getChar_3b067, 2, (some .char))
theorem kμJ2_getChar_3b067 : Cond.code yJ2_getChar_3b067 cJ2_getChar_3b067 2 (some .char) ∈ tbG := (inT4 (List.mem_of_getElem? (i := 54) rfl) rfl)
def μX10_appendText : MI := (yX10_appendText, cX10_appendText, 3, (some .int))
theorem kμX10_appendText : Cond.code yX10_appendText cX10_appendText 3 (some .int) ∈ tbG := (inT4 (List.mem_of_getElem? (i := 64) rfl) rfl)
def μX10_loadRules : MI := (yX10_loadRules, cX10_loadRules, 2, (some .int))
theorem kμX10_loadRules : Cond.code yX10_loadRules cX10_loadRules 2 (some .int) ∈ tbG := (inT4 (List.mem_of_getElem? (i := 68) rfl) rfl)
def μX7_readRules : MI := (yX7_readRules, cX7_readRules, 5, (some .boolean))
theorem kμX7_readRules : Cond.code yX7_readRules cX7_readRules 5 (some .boolean) ∈ tbG := (inT4 (List.mem_of_getElem? (i := 72) rfl) rfl)
def μX7_splitText : MI := (yX7_splitText, cX7_splitText, 4, none)
theorem kμX7_splitText : Cond.code yX7_splitText cX7_splitText 4 none ∈ tbG := (inT4 (List.mem_of_getElem? (i := 76) rfl) rfl)
def μX7_skipBlanks : MI := (yX7_skipBlanks, cX7_skipBlanks, 3, (some .int))
theorem kμX7_skipBlanks : Cond.code yX7_skipBlanks cX7_skipBlanks 3 (some .int) ∈ tbG := (inT4 (List.mem_of_getElem? (i := 80) rfl) rfl)
def μX7_endOfToken : MI := (yX7_endOfToken, cX7_endOfToken, 3, (some .int))
theorem kμX7_endOfToken : Cond.code yX7_endOfToken cX7_endOfToken 3 (some .int) ∈ tbG := (inT4 (List.mem_of_getElem? (i := 84) rfl) rfl)
def μX7_isLetter : MI := (yX7_isLetter, cX7_isLetter, 1, (some .boolean))
theorem kμX7_isLetter : Cond.code yX7_isLetter cX7_isLetter 1 (some .boolean) ∈ tbG := (inT4 (List.mem_of_getElem? (i := 87) rfl) rfl)
def μX7_isDigit : MI := (yX7_isDigit, cX7_isDigit, 1, (some .boolean))
theorem kμX7_isDigit : Cond.code yX7_isDigit cX7_isDigit 1 (some .boolean) ∈ tbG := (inT4 (List.mem_of_getElem? (i := 90) rfl) rfl)
def μX7_kindOf : MI := (yX7_kindOf, cX7_kindOf, 4, (some .int))
theorem kμX7_kindOf : Cond.code yX7_kindOf cX7_kindOf 4 (some .int) ∈ tbG := (inT4 (List.mem_of_getElem? (i := 94) rfl) rfl)
def μX7_kindOfWord : MI := (yX7_kindOfWord, cX7_kindOfWord, 6, (some .int))
theorem kμX7_kindOfWord : Cond.code yX7_kindOfWord cX7_kindOfWord 6 (some .int) ∈ tbG := (inT4 (List.mem_of_getElem? (i := 98) rfl) rfl)
def μX7_isWord : MI := (yX7_isWord, cX7_isWord, 6, (some .boolean))
theorem kμX7_isWord : Cond.code yX7_isWord cX7_isWord 6 (some .boolean) ∈ tbG := (inT4 (List.mem_of_getElem? (i := 105) rfl) rfl)
def μJ0_indexOf_0f7a4 : MI := (yJ0_indexOf_0f7a4, cJ0_indexOf_0f7a4, 2, (some .int))
theorem kμJ0_indexOf_0f7a4 : Cond.code yJ0_indexOf_0f7a4 cJ0_indexOf_0f7a4 2 (some .int) ∈ tbG := (inT4 (List.mem_of_getElem? (i := 110) rfl) rfl)
def μJ0_indexOf_7cf53 : MI := (yJ0_indexOf_7cf53, cJ0_indexOf_7cf53, 3, (some .int))
theorem kμJ0_indexOf_7cf53 : Cond.code yJ0_indexOf_7cf53 cJ0_indexOf_7cf53 3 (some .int) ∈ tbG := (inT4 (List.mem_of_getElem? (i := 114) rfl) rfl)
def μJ1_indexOf_4cfef : MI := (yJ1_indexOf_4cfef, cJ1_indexOf_4cfef, 4, (some .int))
theorem kμJ1_indexOf_4cfef : Cond.code yJ1_indexOf_4cfef cJ1_indexOf_4cfef 4 (some .int) ∈ tbG := (inT4 (List.mem_of_getElem? (i := 118) rfl) rfl)
def μJ1_canEncode_9a6ad : MI := (yJ1_canEncode_9a6ad, cJ1_canEncode_9a6ad, 1, (some .boolean))
theorem kμJ1_canEncode_9a6ad : Cond.code yJ1_canEncode_9a6ad cJ1_canEncode_9a6ad 1 (some .boolean) ∈ tbG := (inT4 (List.mem_of_getElem? (i := 121) rfl) rfl)
def μJ9_min_7cf53 : MI := (yJ9_min_7cf53, cJ9_min_7cf53, 2, (some .int))
theorem kμJ9_min_7cf53 : Cond.code yJ9_min_7cf53 cJ9_min_7cf53 2 (some .int) ∈ tbG := (inT4 (List.mem_of_getElem? (i := 125) rfl) rfl)
def μJ1_indexOfChar_4cfef : MI := (yJ1_indexOfChar_4cfef, cJ1_indexOfChar_4cfef, 6, (some .int))
theorem kμJ1_indexOfChar_4cfef : Cond.code yJ1_indexOfChar_4cfef cJ1_indexOfChar_4cfef 6 (some .int) ∈ tbG := (inT4 (List.mem_of_getElem? (i := 128) rfl) rfl)
def μJ2_indexOf_4cfef : MI := (yJ2_indexOf_4cfef, cJ2_indexOf_4cfef, 4, (some .int))
theorem kμJ2_indexOf_4cfef : Cond.code yJ2_indexOf_4cfef cJ2_indexOf_4cfef 4 (some .int) ∈ tbG := (inT4 (List.mem_of_getElem? (i := 131) rfl) rfl)
def μJ2_indexOfChar_4cfef : MI := (yJ2_indexOfChar_4cfef, cJ2_indexOfChar_4cfef, 4, (some .int))
theorem kμJ2_indexOfChar_4cfef : Cond.code yJ2_indexOfChar_4cfef cJ2_indexOfChar_4cfef 4 (some .int) ∈ tbG := (inT4 (List.mem_of_getElem? (i := 137) rfl) rfl)
def μJ2_checkBoundsBeginEnd_d044e : MI := (yJ2_checkBoundsBeginEnd_d044e, cJ2_checkBoundsBeginEnd_d044e, 3, none)
theorem kμJ2_checkBoundsBeginEnd_d044e : Cond.code yJ2_checkBoundsBeginEnd_d044e cJ2_checkBoundsBeginEnd_d044e 3 none ∈ tbG := (inT4 (List.mem_of_getElem? (i := 140) rfl) rfl)
def μJ0_checkBoundsBeginEnd_23922 : MI := (yJ0_checkBoundsBeginEnd_23922, cJ0_checkBoundsBeginEnd_23922, 3, none)
theorem kμJ0_checkBoundsBeginEnd_23922 : Cond.code yJ0_checkBoundsBeginEnd_23922 cJ0_checkBoundsBeginEnd_23922 3 none ∈ tbG := (inT4 (List.mem_of_getElem? (i := 143) rfl) rfl)
def μJ3_checkFromToIndex_8c36e : MI := (yJ3_checkFromToIndex_8c36e, cJ3_checkFromToIndex_8c36e, 4, (some .int))
theorem kμJ3_checkFromToIndex_8c36e : Cond.code yJ3_checkFromToIndex_8c36e cJ3_checkFromToIndex_8c36e 4 (some .int) ∈ tbG := (inT4 (List.mem_of_getElem? (i := 146) rfl) rfl)
def μJ2_indexOfCharUnsafe_4cfef : MI := (yJ2_indexOfCharUnsafe_4cfef, cJ2_indexOfCharUnsafe_4cfef, 5, (some .int))
theorem kμJ2_indexOfCharUnsafe_4cfef : Cond.code yJ2_indexOfCharUnsafe_4cfef cJ2_indexOfCharUnsafe_4cfef 5 (some .int) ∈ tbG := (inT4 (List.mem_of_getElem? (i := 149) rfl) rfl)
def μJ2_indexOfSupplementary_4cfef : MI := (yJ2_indexOfSupplementary_4cfef, cJ2_indexOfSupplementary_4cfef, 7, (some .int))
theorem kμJ2_indexOfSupplementary_4cfef : Cond.code yJ2_indexOfSupplementary_4cfef cJ2_indexOfSupplementary_4cfef 7 (some .int) ∈ tbG := (inT4 (List.mem_of_getElem? (i := 152) rfl) rfl)
def μJ11_isValidCodePoint_9a6ad : MI := (yJ11_isValidCodePoint_9a6ad, cJ11_isValidCodePoint_9a6ad, 2, (some .boolean))
theorem kμJ11_isValidCodePoint_9a6ad : Cond.code yJ11_isValidCodePoint_9a6ad cJ11_isValidCodePoint_9a6ad 2 (some .boolean) ∈ tbG := (inT4 (List.mem_of_getElem? (i := 155) rfl) rfl)
def μJ11_highSurrogate_5068e : MI := (yJ11_highSurrogate_5068e, cJ11_highSurrogate_5068e, 1, (some .char))
theorem kμJ11_highSurrogate_5068e : Cond.code yJ11_highSurrogate_5068e cJ11_highSurrogate_5068e 1 (some .char) ∈ tbG := (inT4 (List.mem_of_getElem? (i := 158) rfl) rfl)
def μJ11_lowSurrogate_5068e : MI := (yJ11_lowSurrogate_5068e, cJ11_lowSurrogate_5068e, 1, (some .char))
theorem kμJ11_lowSurrogate_5068e : Cond.code yJ11_lowSurrogate_5068e cJ11_lowSurrogate_5068e 1 (some .char) ∈ tbG := (inT4 (List.mem_of_getElem? (i := 162) rfl) rfl)
def μX7_numberIn : MI := (yX7_numberIn, cX7_numberIn, 5, (some .int))
theorem kμX7_numberIn : Cond.code yX7_numberIn cX7_numberIn 5 (some .int) ∈ tbG := (inT4 (List.mem_of_getElem? (i := 167) rfl) rfl)
def μX7_kind : MI := (yX7_kind, cX7_kind, 1, (some .int))
theorem kμX7_kind : Cond.code yX7_kind cX7_kind 1 (some .int) ∈ tbG := (inT4 (List.mem_of_getElem? (i := 173) rfl) rfl)
def μX7_readTest : MI := (yX7_readTest, cX7_readTest, 8, (some .boolean))
theorem kμX7_readTest : Cond.code yX7_readTest cX7_readTest 8 (some .boolean) ∈ tbG := (inT4 (List.mem_of_getElem? (i := 177) rfl) rfl)
def μX7_readSum : MI := (yX7_readSum, cX7_readSum, 5, (some .boolean))
theorem kμX7_readSum : Cond.code yX7_readSum cX7_readSum 5 (some .boolean) ∈ tbG := (inT4 (List.mem_of_getElem? (i := 181) rfl) rfl)
def μX7_readProduct : MI := (yX7_readProduct, cX7_readProduct, 5, (some .boolean))
theorem kμX7_readProduct : Cond.code yX7_readProduct cX7_readProduct 5 (some .boolean) ∈ tbG := (inT4 (List.mem_of_getElem? (i := 185) rfl) rfl)
def μX7_readFactor : MI := (yX7_readFactor, cX7_readFactor, 4, (some .boolean))
theorem kμX7_readFactor : Cond.code yX7_readFactor cX7_readFactor 4 (some .boolean) ∈ tbG := (inT4 (List.mem_of_getElem? (i := 189) rfl) rfl)
def μX7_fail : MI := (yX7_fail, cX7_fail, 2, (some .boolean))
theorem kμX7_fail : Cond.code yX7_fail cX7_fail 2 (some .boolean) ∈ tbG := (inT4 (List.mem_of_getElem? (i := 193) rfl) rfl)
def μX7_take : MI := (yX7_take, cX7_take, 2, (some .boolean))
theorem kμX7_take : Cond.code yX7_take cX7_take 2 (some .boolean) ∈ tbG := (inT4 (List.mem_of_getElem? (i := 197) rfl) rfl)
def μX8_emitCode : MI := (yX8_emitCode, cX8_emitCode, 3, none)
theorem kμX8_emitCode : Cond.code yX8_emitCode cX8_emitCode 3 none ∈ tbG := (inT4 (List.mem_of_getElem? (i := 201) rfl) rfl)
def μX7_takeNumber : MI := (yX7_takeNumber, cX7_takeNumber, 2, (some .boolean))
theorem kμX7_takeNumber : Cond.code yX7_takeNumber cX7_takeNumber 2 (some .boolean) ∈ tbG := (inT4 (List.mem_of_getElem? (i := 205) rfl) rfl)
def μX7_takeComparison : MI := (yX7_takeComparison, cX7_takeComparison, 1, (some .boolean))
theorem kμX7_takeComparison : Cond.code yX7_takeComparison cX7_takeComparison 1 (some .boolean) ∈ tbG := (inT4 (List.mem_of_getElem? (i := 209) rfl) rfl)
def μX7_readAction : MI := (yX7_readAction, cX7_readAction, 4, (some .boolean))
theorem kμX7_readAction : Cond.code yX7_readAction cX7_readAction 4 (some .boolean) ∈ tbG := (inT4 (List.mem_of_getElem? (i := 213) rfl) rfl)
def μX7_takeWord : MI := (yX7_takeWord, cX7_takeWord, 3, (some .boolean))
theorem kμX7_takeWord : Cond.code yX7_takeWord cX7_takeWord 3 (some .boolean) ∈ tbG := (inT4 (List.mem_of_getElem? (i := 217) rfl) rfl)
def μX8_copyFrom : MI := (yX8_copyFrom, cX8_copyFrom, 2, none)
theorem kμX8_copyFrom : Cond.code yX8_copyFrom cX8_copyFrom 2 none ∈ tbG := (inT4 (List.mem_of_getElem? (i := 223) rfl) rfl)
def μL_moves : MI := (yL_moves, cL_moves, 21, (some .boolean))
theorem kμL_moves : Cond.code yL_moves cL_moves 21 (some .boolean) ∈ tbG := (inT4 (List.mem_of_getElem? (i := 228) rfl) rfl)
def μX10_louvreCount : MI := (yX10_louvreCount, cX10_louvreCount, 1, (some .int))
theorem kμX10_louvreCount : Cond.code yX10_louvreCount cX10_louvreCount 1 (some .int) ∈ tbG := (inT4 (List.mem_of_getElem? (i := 232) rfl) rfl)
def μX10_heaterCount : MI := (yX10_heaterCount, cX10_heaterCount, 1, (some .int))
theorem kμX10_heaterCount : Cond.code yX10_heaterCount cX10_heaterCount 1 (some .int) ∈ tbG := (inT4 (List.mem_of_getElem? (i := 236) rfl) rfl)
def μX10_time : MI := (yX10_time, cX10_time, 1, (some .int))
theorem kμX10_time : Cond.code yX10_time cX10_time 1 (some .int) ∈ tbG := (inT5 (List.mem_of_getElem? (i := 0) rfl) rfl)
def μX10_shedCount : MI := (yX10_shedCount, cX10_shedCount, 1, (some .int))
theorem kμX10_shedCount : Cond.code yX10_shedCount cX10_shedCount 1 (some .int) ∈ tbG := (inT5 (List.mem_of_getElem? (i := 4) rfl) rfl)
def μX10_violatorCount : MI := (yX10_violatorCount, cX10_violatorCount, 1, (some .int))
theorem kμX10_violatorCount : Cond.code yX10_violatorCount cX10_violatorCount 1 (some .int) ∈ tbG := (inT5 (List.mem_of_getElem? (i := 8) rfl) rfl)
def μX10_energy : MI := (yX10_energy, cX10_energy, 2, (some .long))
theorem kμX10_energy : Cond.code yX10_energy cX10_energy 2 (some .long) ∈ tbG := (inT5 (List.mem_of_getElem? (i := 12) rfl) rfl)
def μX10_opening : MI := (yX10_opening, cX10_opening, 2, (some .int))
theorem kμX10_opening : Cond.code yX10_opening cX10_opening 2 (some .int) ∈ tbG := (inT5 (List.mem_of_getElem? (i := 17) rfl) rfl)
def μX0_hasLouvre : MI := (yX0_hasLouvre, cX0_hasLouvre, 2, (some .boolean))
theorem kμX0_hasLouvre : Cond.code yX0_hasLouvre cX0_hasLouvre 2 (some .boolean) ∈ tbG := (inT5 (List.mem_of_getElem? (i := 21) rfl) rfl)
def μX10_target : MI := (yX10_target, cX10_target, 2, (some .int))
theorem kμX10_target : Cond.code yX10_target cX10_target 2 (some .int) ∈ tbG := (inT5 (List.mem_of_getElem? (i := 25) rfl) rfl)
def μX0_targetOf : MI := (yX0_targetOf, cX0_targetOf, 4, (some .int))
theorem kμX0_targetOf : Cond.code yX0_targetOf cX0_targetOf 4 (some .int) ∈ tbG := (inT5 (List.mem_of_getElem? (i := 29) rfl) rfl)
def μX0_temperatureAt : MI := (yX0_temperatureAt, cX0_temperatureAt, 2, (some .int))
theorem kμX0_temperatureAt : Cond.code yX0_temperatureAt cX0_temperatureAt 2 (some .int) ∈ tbG := (inT5 (List.mem_of_getElem? (i := 33) rfl) rfl)
def μX10_quotient : MI := (yX10_quotient, cX10_quotient, 4, (some .long))
theorem kμX10_quotient : Cond.code yX10_quotient cX10_quotient 4 (some .long) ∈ tbG := (inT5 (List.mem_of_getElem? (i := 36) rfl) rfl)
def μX10_limited : MI := (yX10_limited, cX10_limited, 6, (some .long))
theorem kμX10_limited : Cond.code yX10_limited cX10_limited 6 (some .long) ∈ tbG := (inT5 (List.mem_of_getElem? (i := 39) rfl) rfl)
def μX10_lowest : MI := (yX10_lowest, cX10_lowest, 2, (some .int))
theorem kμX10_lowest : Cond.code yX10_lowest cX10_lowest 2 (some .int) ∈ tbG := (inT5 (List.mem_of_getElem? (i := 43) rfl) rfl)
def μX10_highest : MI := (yX10_highest, cX10_highest, 2, (some .int))
theorem kμX10_highest : Cond.code yX10_highest cX10_highest 2 (some .int) ∈ tbG := (inT5 (List.mem_of_getElem? (i := 47) rfl) rfl)
def μX10_run : MI := (yX10_run, cX10_run, 4, (some .int))
theorem kμX10_run : Cond.code yX10_run cX10_run 4 (some .int) ∈ tbG := (inT5 (List.mem_of_getElem? (i := 51) rfl) rfl)
def μX0_step : MI := (yX0_step, cX0_step, 2, (some .boolean))
theorem kμX0_step : Cond.code yX0_step cX0_step 2 (some .boolean) ∈ tbG := (inT5 (List.mem_of_getElem? (i := 56) rfl) rfl)
def μX8_isDue : MI := (yX8_isDue, cX8_isDue, 3, (some .boolean))
theorem kμX8_isDue : Cond.code yX8_isDue cX8_isDue 3 (some .boolean) ∈ tbG := (inT5 (List.mem_of_getElem? (i := 60) rfl) rfl)
def μX8_evaluate : MI := (yX8_evaluate, cX8_evaluate, 9, (some .long))
theorem kμX8_evaluate : Cond.code yX8_evaluate cX8_evaluate 9 (some .long) ∈ tbG := (inT5 (List.mem_of_getElem? (i := 64) rfl) rfl)
def μX8_valueOf : MI := (yX8_valueOf, cX8_valueOf, 3, (some .long))
theorem kμX8_valueOf : Cond.code yX8_valueOf cX8_valueOf 3 (some .long) ∈ tbG := (inT5 (List.mem_of_getElem? (i := 67) rfl) rfl)
def μX0_hasHeater : MI := (yX0_hasHeater, cX0_hasHeater, 2, (some .boolean))
theorem kμX0_hasHeater : Cond.code yX0_hasHeater cX0_hasHeater 2 (some .boolean) ∈ tbG := (inT5 (List.mem_of_getElem? (i := 73) rfl) rfl)
def μX8_operate : MI := (yX8_operate, cX8_operate, 5, (some .long))
theorem kμX8_operate : Cond.code yX8_operate cX8_operate 5 (some .long) ∈ tbG := (inT5 (List.mem_of_getElem? (i := 79) rfl) rfl)
def μX8_product : MI := (yX8_product, cX8_product, 4, (some .long))
theorem kμX8_product : Cond.code yX8_product cX8_product 4 (some .long) ∈ tbG := (inT5 (List.mem_of_getElem? (i := 85) rfl) rfl)
def μJ9_abs_067f4 : MI := (yJ9_abs_067f4, cJ9_abs_067f4, 2, (some .long))
theorem kμJ9_abs_067f4 : Cond.code yJ9_abs_067f4 cJ9_abs_067f4 2 (some .long) ∈ tbG := (inT5 (List.mem_of_getElem? (i := 88) rfl) rfl)
def μX8_act : MI := (yX8_act, cX8_act, 7, none)
theorem kμX8_act : Cond.code yX8_act cX8_act 7 none ∈ tbG := (inT5 (List.mem_of_getElem? (i := 93) rfl) rfl)
def μX0_moveLouvres : MI := (yX0_moveLouvres, cX0_moveLouvres, 2, none)
theorem kμX0_moveLouvres : Cond.code yX0_moveLouvres cX0_moveLouvres 2 none ∈ tbG := (inT5 (List.mem_of_getElem? (i := 99) rfl) rfl)
def μX3_moveTowards : MI := (yX3_moveTowards, cX3_moveTowards, 2, none)
theorem kμX3_moveTowards : Cond.code yX3_moveTowards cX3_moveTowards 2 none ∈ tbG := (inT5 (List.mem_of_getElem? (i := 104) rfl) rfl)
def μX0_decideWishes : MI := (yX0_decideWishes, cX0_decideWishes, 2, none)
theorem kμX0_decideWishes : Cond.code yX0_decideWishes cX0_decideWishes 2 none ∈ tbG := (inT5 (List.mem_of_getElem? (i := 109) rfl) rfl)
def μX1_decideWish : MI := (yX1_decideWish, cX1_decideWish, 2, none)
theorem kμX1_decideWish : Cond.code yX1_decideWish cX1_decideWish 2 none ∈ tbG := (inT5 (List.mem_of_getElem? (i := 113) rfl) rfl)
def μX0_sharePower : MI := (yX0_sharePower, cX0_sharePower, 9, none)
theorem kμX0_sharePower : Cond.code yX0_sharePower cX0_sharePower 9 none ∈ tbG := (inT5 (List.mem_of_getElem? (i := 117) rfl) rfl)
def μJ9_max_f86c9 : MI := (yJ9_max_f86c9, cJ9_max_f86c9, 4, (some .long))
theorem kμJ9_max_f86c9 : Cond.code yJ9_max_f86c9 cJ9_max_f86c9 4 (some .long) ∈ tbG := (inT5 (List.mem_of_getElem? (i := 120) rfl) rfl)
def μX0_switchHeater : MI := (yX0_switchHeater, cX0_switchHeater, 4, (some .int))
theorem kμX0_switchHeater : Cond.code yX0_switchHeater cX0_switchHeater 4 (some .int) ∈ tbG := (inT5 (List.mem_of_getElem? (i := 125) rfl) rfl)
def μX0_warmNodes : MI := (yX0_warmNodes, cX0_warmNodes, 3, none)
theorem kμX0_warmNodes : Cond.code yX0_warmNodes cX0_warmNodes 3 none ∈ tbG := (inT5 (List.mem_of_getElem? (i := 130) rfl) rfl)
def μX4_warm : MI := (yX4_warm, cX4_warm, 4, none)
theorem kμX4_warm : Cond.code yX4_warm cX4_warm 4 none ∈ tbG := (inT5 (List.mem_of_getElem? (i := 134) rfl) rfl)
def μX0_recordTemperatures : MI := (yX0_recordTemperatures, cX0_recordTemperatures, 4, (some .boolean))
theorem kμX0_recordTemperatures : Cond.code yX0_recordTemperatures cX0_recordTemperatures 4 (some .boolean) ∈ tbG := (inT5 (List.mem_of_getElem? (i := 143) rfl) rfl)
def μX4_isOutside : MI := (yX4_isOutside, cX4_isOutside, 1, (some .boolean))
theorem kμX4_isOutside : Cond.code yX4_isOutside cX4_isOutside 1 (some .boolean) ∈ tbG := (inT5 (List.mem_of_getElem? (i := 149) rfl) rfl)
def μX6_addViolator : MI := (yX6_addViolator, cX6_addViolator, 2, none)
theorem kμX6_addViolator : Cond.code yX6_addViolator cX6_addViolator 2 none ∈ tbG := (inT5 (List.mem_of_getElem? (i := 153) rfl) rfl)
def μX10_isHeld : MI := (yX10_isHeld, cX10_isHeld, 2, (some .int))
theorem kμX10_isHeld : Cond.code yX10_isHeld cX10_isHeld 2 (some .int) ∈ tbG := (inT5 (List.mem_of_getElem? (i := 157) rfl) rfl)
def μX10_heaterState : MI := (yX10_heaterState, cX10_heaterState, 2, (some .int))
theorem kμX10_heaterState : Cond.code yX10_heaterState cX10_heaterState 2 (some .int) ∈ tbG := (inT5 (List.mem_of_getElem? (i := 162) rfl) rfl)
def μX10_heaterMode : MI := (yX10_heaterMode, cX10_heaterMode, 2, (some .int))
theorem kμX10_heaterMode : Cond.code yX10_heaterMode cX10_heaterMode 2 (some .int) ∈ tbG := (inT5 (List.mem_of_getElem? (i := 167) rfl) rfl)
def μX10_temperature : MI := (yX10_temperature, cX10_temperature, 2, (some .int))
theorem kμX10_temperature : Cond.code yX10_temperature cX10_temperature 2 (some .int) ∈ tbG := (inT5 (List.mem_of_getElem? (i := 171) rfl) rfl)
def μX10_margin : MI := (yX10_margin, cX10_margin, 3, (some .int))
theorem kμX10_margin : Cond.code yX10_margin cX10_margin 3 (some .int) ∈ tbG := (inT5 (List.mem_of_getElem? (i := 175) rfl) rfl)
def μX10_violations : MI := (yX10_violations, cX10_violations, 2, (some .int))
theorem kμX10_violations : Cond.code yX10_violations cX10_violations 2 (some .int) ∈ tbG := (inT5 (List.mem_of_getElem? (i := 182) rfl) rfl)
def μX10_firstViolation : MI := (yX10_firstViolation, cX10_firstViolation, 2, (some .int))
theorem kμX10_firstViolation : Cond.code yX10_firstViolation cX10_firstViolation 2 (some .int) ∈ tbG := (inT5 (List.mem_of_getElem? (i := 186) rfl) rfl)
def μL_sheds : MI := (yL_sheds, cL_sheds, 5, (some .boolean))
theorem kμL_sheds : Cond.code yL_sheds cL_sheds 5 (some .boolean) ∈ tbG := (inT5 (List.mem_of_getElem? (i := 190) rfl) rfl)
def μL_changes : MI := (yL_changes, cL_changes, 7, (some .boolean))
theorem kμL_changes : Cond.code yL_changes cL_changes 7 (some .boolean) ∈ tbG := (inT5 (List.mem_of_getElem? (i := 194) rfl) rfl)
def μX10_setMode : MI := (yX10_setMode, cX10_setMode, 4, (some .int))
theorem kμX10_setMode : Cond.code yX10_setMode cX10_setMode 4 (some .int) ∈ tbG := (inT5 (List.mem_of_getElem? (i := 198) rfl) rfl)
def μJ4_init_da8c8 : MI := (yJ4_init_da8c8, cJ4_init_da8c8, 1, none)
theorem kμJ4_init_da8c8 : Cond.code yJ4_init_da8c8 cJ4_init_da8c8 1 none ∈ tbG := (inT5 (List.mem_of_getElem? (i := 203) rfl) rfl)
def μJ5_init_d00df : MI := (yJ5_init_d00df, cJ5_init_d00df, 2, none)
theorem kμJ5_init_d00df : Cond.code yJ5_init_d00df cJ5_init_d00df 2 none ∈ tbG := (inT5 (List.mem_of_getElem? (i := 206) rfl) rfl)
def μJ2_newBytesFor_77867 : MI := (yJ2_newBytesFor_77867, cJ2_newBytesFor_77867, 1, (some (.array .byte)))
theorem kμJ2_newBytesFor_77867 : Cond.code yJ2_newBytesFor_77867 cJ2_newBytesFor_77867 1 (some (.array .byte)) ∈ tbG := (inT5 (List.mem_of_getElem? (i := 211) rfl) rfl)
def μJ2_newBytesLength_0f7a4 : MI := (yJ2_newBytesLength_0f7a4, cJ2_newBytesLength_0f7a4, 1, (some .int))
theorem kμJ2_newBytesLength_0f7a4 : Cond.code yJ2_newBytesLength_0f7a4 cJ2_newBytesLength_0f7a4 1 (some .int) ∈ tbG := (inT5 (List.mem_of_getElem? (i := 214) rfl) rfl)
def μJ4_append_15ec4 : MI := (yJ4_append_15ec4, cJ4_append_15ec4, 2, (some (.object "java/lang/StringBuilder")))
theorem kμJ4_append_15ec4 : Cond.code yJ4_append_15ec4 cJ4_append_15ec4 2 (some (.object "java/lang/StringBuilder")) ∈ tbG := (inT5 (List.mem_of_getElem? (i := 233) rfl) rfl)
def μJ5_append_cf1ce : MI := (yJ5_append_cf1ce, cJ5_append_cf1ce, 3, (some (.object "java/lang/AbstractStringBuilder")))
theorem kμJ5_append_cf1ce : Cond.code yJ5_append_cf1ce cJ5_append_cf1ce 3 (some (.object "java/lang/AbstractStringBuilder")) ∈ tbG := (inT5 (List.mem_of_getElem? (i := 236) rfl) rfl)
def μJ5_appendNull_278bc : MI := (yJ5_appendNull_278bc, cJ5_appendNull_278bc, 3, (some (.object "java/lang/AbstractStringBuilder")))
theorem kμJ5_appendNull_278bc : Cond.code yJ5_appendNull_278bc cJ5_appendNull_278bc 3 (some (.object "java/lang/AbstractStringBuilder")) ∈ tbG := (inT6 (List.mem_of_getElem? (i := 0) rfl) rfl)
def μJ5_ensureCapacityInternal_d00df : MI := (yJ5_ensureCapacityInternal_d00df, cJ5_ensureCapacityInternal_d00df, 3, none)
theorem kμJ5_ensureCapacityInternal_d00df : Cond.code yJ5_ensureCapacityInternal_d00df cJ5_ensureCapacityInternal_d00df 3 none ∈ tbG := (inT6 (List.mem_of_getElem? (i := 4) rfl) rfl)
def μJ5_newCapacity_0f7a4 : MI := (yJ5_newCapacity_0f7a4, cJ5_newCapacity_0f7a4, 6, (some .int))
theorem kμJ5_newCapacity_0f7a4 : Cond.code yJ5_newCapacity_0f7a4 cJ5_newCapacity_0f7a4 6 (some .int) ∈ tbG := (inT6 (List.mem_of_getElem? (i := 8) rfl) rfl)
def μJ8_newLength_cabcc : MI := (yJ8_newLength_cabcc, cJ8_newLength_cabcc, 4, (some .int))
theorem kμJ8_newLength_cabcc : Cond.code yJ8_newLength_cabcc cJ8_newLength_cabcc 4 (some .int) ∈ tbG := (inT6 (List.mem_of_getElem? (i := 11) rfl) rfl)
def μJ8_hugeLength_7cf53 : MI := (yJ8_hugeLength_7cf53, cJ8_hugeLength_7cf53, 3, (some .int))
theorem kμJ8_hugeLength_7cf53 : Cond.code yJ8_hugeLength_7cf53 cJ8_hugeLength_7cf53 3 (some .int) ∈ tbG := (inT6 (List.mem_of_getElem? (i := 16) rfl) rfl)
def μJ7_copyOf_9075b : MI := (yJ7_copyOf_9075b, cJ7_copyOf_9075b, 3, (some (.array .byte)))
theorem kμJ7_copyOf_9075b : Cond.code yJ7_copyOf_9075b cJ7_copyOf_9075b 3 (some (.array .byte)) ∈ tbG := (inT6 (List.mem_of_getElem? (i := 20) rfl) rfl)
def μJ5_isLatin1_aae02 : MI := (yJ5_isLatin1_aae02, cJ5_isLatin1_aae02, 1, (some .boolean))
theorem kμJ5_isLatin1_aae02 : Cond.code yJ5_isLatin1_aae02 cJ5_isLatin1_aae02 1 (some .boolean) ∈ tbG := (inT6 (List.mem_of_getElem? (i := 34) rfl) rfl)
def μJ2_putCharsAt_cd4e5 : MI := (yJ2_putCharsAt_cd4e5, cJ2_putCharsAt_cd4e5, 7, (some .int))
theorem kμJ2_putCharsAt_cd4e5 : Cond.code yJ2_putCharsAt_cd4e5 cJ2_putCharsAt_cd4e5 7 (some .int) ∈ tbG := (inT6 (List.mem_of_getElem? (i := 37) rfl) rfl)
def μJ2_putChar_b72d1 : MI := (yJ2_putChar_b72d1, cJ2_putChar_b72d1, 3, none)
theorem kμJ2_putChar_b72d1 : Cond.code yJ2_putChar_b72d1 cJ2_putChar_b72d1 3 none ∈ tbG := (inT6 (List.mem_of_getElem? (i := 40) rfl) rfl)
def μJ5_putStringAt_47b60 : MI := (yJ5_putStringAt_47b60, cJ5_putStringAt_47b60, 3, none)
theorem kμJ5_putStringAt_47b60 : Cond.code yJ5_putStringAt_47b60 cJ5_putStringAt_47b60 3 none ∈ tbG := (inT6 (List.mem_of_getElem? (i := 45) rfl) rfl)
def μJ5_inflateIfNeededFor_a7421 : MI := (yJ5_inflateIfNeededFor_a7421, cJ5_inflateIfNeededFor_a7421, 2, none)
theorem kμJ5_inflateIfNeededFor_a7421 : Cond.code yJ5_inflateIfNeededFor_a7421 cJ5_inflateIfNeededFor_a7421 2 none ∈ tbG := (inT6 (List.mem_of_getElem? (i := 49) rfl) rfl)
def μJ5_inflate_da8c8 : MI := (yJ5_inflate_da8c8, cJ5_inflate_da8c8, 2, none)
theorem kμJ5_inflate_da8c8 : Cond.code yJ5_inflate_da8c8 cJ5_inflate_da8c8 2 none ∈ tbG := (inT6 (List.mem_of_getElem? (i := 54) rfl) rfl)
def μJ1_inflate_0e8fd : MI := (yJ1_inflate_0e8fd, cJ1_inflate_0e8fd, 5, none)
theorem kμJ1_inflate_0e8fd : Cond.code yJ1_inflate_0e8fd cJ1_inflate_0e8fd 5 none ∈ tbG := (inT6 (List.mem_of_getElem? (i := 57) rfl) rfl)
def μJ2_inflate_0e8fd : MI := (yJ2_inflate_0e8fd, cJ2_inflate_0e8fd, 6, none)
theorem kμJ2_inflate_0e8fd : Cond.code yJ2_inflate_0e8fd cJ2_inflate_0e8fd 6 none ∈ tbG := (inT6 (List.mem_of_getElem? (i := 60) rfl) rfl)
def μJ2_checkBoundsOffCount_d044e : MI := (yJ2_checkBoundsOffCount_d044e, cJ2_checkBoundsOffCount_d044e, 3, none)
theorem kμJ2_checkBoundsOffCount_d044e : Cond.code yJ2_checkBoundsOffCount_d044e cJ2_checkBoundsOffCount_d044e 3 none ∈ tbG := (inT6 (List.mem_of_getElem? (i := 63) rfl) rfl)
def μJ0_checkBoundsOffCount_cabcc : MI := (yJ0_checkBoundsOffCount_cabcc, cJ0_checkBoundsOffCount_cabcc, 3, (some .int))
theorem kμJ0_checkBoundsOffCount_cabcc : Cond.code yJ0_checkBoundsOffCount_cabcc cJ0_checkBoundsOffCount_cabcc 3 (some .int) ∈ tbG := (inT6 (List.mem_of_getElem? (i := 66) rfl) rfl)
def μJ3_checkFromIndexSize_8c36e : MI := (yJ3_checkFromIndexSize_8c36e, cJ3_checkFromIndexSize_8c36e, 4, (some .int))
theorem kμJ3_checkFromIndexSize_8c36e : Cond.code yJ3_checkFromIndexSize_8c36e cJ3_checkFromIndexSize_8c36e 4 (some .int) ∈ tbG := (inT6 (List.mem_of_getElem? (i := 69) rfl) rfl)
def μJ0_getBytes_840e7 : MI := (yJ0_getBytes_840e7, cJ0_getBytes_840e7, 4, none)
theorem kμJ0_getBytes_840e7 : Cond.code yJ0_getBytes_840e7 cJ0_getBytes_840e7 4 none ∈ tbG := (inT6 (List.mem_of_getElem? (i := 73) rfl) rfl)
def μJ4_append_bf812 : MI := (yJ4_append_bf812, cJ4_append_bf812, 2, (some (.object "java/lang/StringBuilder")))
theorem kμJ4_append_bf812 : Cond.code yJ4_append_bf812 cJ4_append_bf812 2 (some (.object "java/lang/StringBuilder")) ∈ tbG := (inT6 (List.mem_of_getElem? (i := 79) rfl) rfl)
def μJ5_append_c97b9 : MI := (yJ5_append_c97b9, cJ5_append_c97b9, 4, (some (.object "java/lang/AbstractStringBuilder")))
theorem kμJ5_append_c97b9 : Cond.code yJ5_append_c97b9 cJ5_append_c97b9 4 (some (.object "java/lang/AbstractStringBuilder")) ∈ tbG := (inT6 (List.mem_of_getElem? (i := 82) rfl) rfl)
def μJ6_stringSize_0f7a4 : MI := (yJ6_stringSize_0f7a4, cJ6_stringSize_0f7a4, 4, (some .int))
theorem kμJ6_stringSize_0f7a4 : Cond.code yJ6_stringSize_0f7a4 cJ6_stringSize_0f7a4 4 (some .int) ∈ tbG := (inT6 (List.mem_of_getElem? (i := 85) rfl) rfl)
def μJ6_getChars_ba4f3 : MI := (yJ6_getChars_ba4f3, cJ6_getChars_ba4f3, 7, (some .int))
theorem kμJ6_getChars_ba4f3 : Cond.code yJ6_getChars_ba4f3 cJ6_getChars_ba4f3 7 (some .int) ∈ tbG := (inT6 (List.mem_of_getElem? (i := 88) rfl) rfl)
def μJ2_getChars_46870 : MI := (yJ2_getChars_46870, cJ2_getChars_46870, 5, (some .int))
theorem kμJ2_getChars_46870 : Cond.code yJ2_getChars_46870 cJ2_getChars_46870 5 (some .int) ∈ tbG := (inT6 (List.mem_of_getElem? (i := 95) rfl) rfl)
def μJ2_getChars_ba4f3 : MI := (yJ2_getChars_ba4f3, cJ2_getChars_ba4f3, 7, (some .int))
theorem kμJ2_getChars_ba4f3 : Cond.code yJ2_getChars_ba4f3 cJ2_getChars_ba4f3 7 (some .int) ∈ tbG := (inT6 (List.mem_of_getElem? (i := 98) rfl) rfl)
def μJ4_toString_0e30d : MI := (yJ4_toString_0e30d, cJ4_toString_0e30d, 1, (some (.object "java/lang/String")))
theorem kμJ4_toString_0e30d : Cond.code yJ4_toString_0e30d cJ4_toString_0e30d 1 (some (.object "java/lang/String")) ∈ tbG := (inT6 (List.mem_of_getElem? (i := 106) rfl) rfl)
def μJ0_init_81219 : MI := (yJ0_init_81219, cJ0_init_81219, 2, none)
theorem kμJ0_init_81219 : Cond.code yJ0_init_81219 cJ0_init_81219 2 none ∈ tbG := (inT6 (List.mem_of_getElem? (i := 111) rfl) rfl)
def μJ0_init_db425 : MI := (yJ0_init_db425, cJ0_init_db425, 5, none)
theorem kμJ0_init_db425 : Cond.code yJ0_init_db425 cJ0_init_db425 5 none ∈ tbG := (inT6 (List.mem_of_getElem? (i := 114) rfl) rfl)
def μJ5_getValue_6d5f1 : MI := (yJ5_getValue_6d5f1, cJ5_getValue_6d5f1, 1, (some (.array .byte)))
theorem kμJ5_getValue_6d5f1 : Cond.code yJ5_getValue_6d5f1 cJ5_getValue_6d5f1 1 (some (.array .byte)) ∈ tbG := (inT6 (List.mem_of_getElem? (i := 120) rfl) rfl)
def μJ4_length_8abf5 : MI := (yJ4_length_8abf5, cJ4_length_8abf5, 1, (some .int))
theorem kμJ4_length_8abf5 : Cond.code yJ4_length_8abf5 cJ4_length_8abf5 1 (some .int) ∈ tbG := (inT6 (List.mem_of_getElem? (i := 126) rfl) rfl)
def μJ5_length_8abf5 : MI := (yJ5_length_8abf5, cJ5_length_8abf5, 1, (some .int))
theorem kμJ5_length_8abf5 : Cond.code yJ5_length_8abf5 cJ5_length_8abf5 1 (some .int) ∈ tbG := (inT6 (List.mem_of_getElem? (i := 128) rfl) rfl)
def μJ7_copyOfRange_39247 : MI := (yJ7_copyOfRange_39247, cJ7_copyOfRange_39247, 3, (some (.array .byte)))
theorem kμJ7_copyOfRange_39247 : Cond.code yJ7_copyOfRange_39247 cJ7_copyOfRange_39247 3 (some (.array .byte)) ∈ tbG := (inT6 (List.mem_of_getElem? (i := 132) rfl) rfl)
def μJ7_copyOfRangeByte_39247 : MI := (yJ7_copyOfRangeByte_39247, cJ7_copyOfRangeByte_39247, 5, (some (.array .byte)))
theorem kμJ7_copyOfRangeByte_39247 : Cond.code yJ7_copyOfRangeByte_39247 cJ7_copyOfRangeByte_39247 5 (some (.array .byte)) ∈ tbG := (inT6 (List.mem_of_getElem? (i := 135) rfl) rfl)
def μJ7_checkLength_df160 : MI := (yJ7_checkLength_df160, cJ7_checkLength_df160, 2, none)
theorem kμJ7_checkLength_df160 : Cond.code yJ7_checkLength_df160 cJ7_checkLength_df160 2 none ∈ tbG := (inT6 (List.mem_of_getElem? (i := 138) rfl) rfl)
def μJ2_compress_39247 : MI := (yJ2_compress_39247, cJ2_compress_39247, 6, (some (.array .byte)))
theorem kμJ2_compress_39247 : Cond.code yJ2_compress_39247 cJ2_compress_39247 6 (some (.array .byte)) ∈ tbG := (inT6 (List.mem_of_getElem? (i := 141) rfl) rfl)
def μJ2_compress_5af95 : MI := (yJ2_compress_5af95, cJ2_compress_5af95, 7, (some .int))
theorem kμJ2_compress_5af95 : Cond.code yJ2_compress_5af95 cJ2_compress_5af95 7 (some .int) ∈ tbG := (inT6 (List.mem_of_getElem? (i := 144) rfl) rfl)
def μJ2_coderFromArrayLen_85cad : MI := (yJ2_coderFromArrayLen_85cad, cJ2_coderFromArrayLen_85cad, 2, (some .byte))
theorem kμJ2_coderFromArrayLen_85cad : Cond.code yJ2_coderFromArrayLen_85cad cJ2_coderFromArrayLen_85cad 2 (some .byte) ∈ tbG := (inT6 (List.mem_of_getElem? (i := 148) rfl) rfl)
def μX10_setLimits : MI := (yX10_setLimits, cX10_setLimits, 4, (some .int))
theorem kμX10_setLimits : Cond.code yX10_setLimits cX10_setLimits 4 (some .int) ∈ tbG := (inT6 (List.mem_of_getElem? (i := 163) rfl) rfl)
def μL_holdsCharge : MI := (yL_holdsCharge, cL_holdsCharge, 4, (some .boolean))
theorem kμL_holdsCharge : Cond.code yL_holdsCharge cL_holdsCharge 4 (some .boolean) ∈ tbG := (inT6 (List.mem_of_getElem? (i := 167) rfl) rfl)
def μX10_charge : MI := (yX10_charge, cX10_charge, 1, (some .int))
theorem kμX10_charge : Cond.code yX10_charge cX10_charge 1 (some .int) ∈ tbG := (inT6 (List.mem_of_getElem? (i := 172) rfl) rfl)
def μL_rests : MI := (yL_rests, cL_rests, 7, (some .boolean))
theorem kμL_rests : Cond.code yL_rests cL_rests 7 (some .boolean) ∈ tbG := (inT6 (List.mem_of_getElem? (i := 176) rfl) rfl)
def μX10_save : MI := (yX10_save, cX10_save, 2, (some .boolean))
theorem kμX10_save : Cond.code yX10_save cX10_save 2 (some .boolean) ∈ tbG := (inT6 (List.mem_of_getElem? (i := 180) rfl) rfl)
def μX0_copyFrom : MI := (yX0_copyFrom, cX0_copyFrom, 3, none)
theorem kμX0_copyFrom : Cond.code yX0_copyFrom cX0_copyFrom 3 none ∈ tbG := (inT6 (List.mem_of_getElem? (i := 184) rfl) rfl)
def μX4_copyFrom : MI := (yX4_copyFrom, cX4_copyFrom, 2, none)
theorem kμX4_copyFrom : Cond.code yX4_copyFrom cX4_copyFrom 2 none ∈ tbG := (inT6 (List.mem_of_getElem? (i := 188) rfl) rfl)
def μX3_copyFrom : MI := (yX3_copyFrom, cX3_copyFrom, 2, none)
theorem kμX3_copyFrom : Cond.code yX3_copyFrom cX3_copyFrom 2 none ∈ tbG := (inT6 (List.mem_of_getElem? (i := 192) rfl) rfl)
def μX1_copyFrom : MI := (yX1_copyFrom, cX1_copyFrom, 2, none)
theorem kμX1_copyFrom : Cond.code yX1_copyFrom cX1_copyFrom 2 none ∈ tbG := (inT6 (List.mem_of_getElem? (i := 197) rfl) rfl)
def μX5_copyFrom : MI := (yX5_copyFrom, cX5_copyFrom, 2, none)
theorem kμX5_copyFrom : Cond.code yX5_copyFrom cX5_copyFrom 2 none ∈ tbG := (inT6 (List.mem_of_getElem? (i := 202) rfl) rfl)
def μX9_copyFrom : MI := (yX9_copyFrom, cX9_copyFrom, 2, none)
theorem kμX9_copyFrom : Cond.code yX9_copyFrom cX9_copyFrom 2 none ∈ tbG := (inT6 (List.mem_of_getElem? (i := 207) rfl) rfl)
def μX6_copyFrom : MI := (yX6_copyFrom, cX6_copyFrom, 2, none)
theorem kμX6_copyFrom : Cond.code yX6_copyFrom cX6_copyFrom 2 none ∈ tbG := (inT6 (List.mem_of_getElem? (i := 212) rfl) rfl)
def μX10_restore : MI := (yX10_restore, cX10_restore, 2, (some .boolean))
theorem kμX10_restore : Cond.code yX10_restore cX10_restore 2 (some .boolean) ∈ tbG := (inT6 (List.mem_of_getElem? (i := 221) rfl) rfl)
def μL_cools : MI := (yL_cools, cL_cools, 4, (some .boolean))
theorem kμL_cools : Cond.code yL_cools cL_cools 4 (some .boolean) ∈ tbG := (inT6 (List.mem_of_getElem? (i := 225) rfl) rfl)
def μX10_resetRecords : MI := (yX10_resetRecords, cX10_resetRecords, 3, (some .int))
theorem kμX10_resetRecords : Cond.code yX10_resetRecords cX10_resetRecords 3 (some .int) ∈ tbG := (inT6 (List.mem_of_getElem? (i := 229) rfl) rfl)
def μX6_clear : MI := (yX6_clear, cX6_clear, 1, none)
theorem kμX6_clear : Cond.code yX6_clear cX6_clear 1 none ∈ tbG := (inT6 (List.mem_of_getElem? (i := 233) rfl) rfl)
theorem fX5_7 : FLk RX5 7 5 0 0 := ⟨RX5, TX5, 6, rfl, by decide, rfl, uw5, (inT1 (List.mem_of_getElem? (i := 59) rfl) rfl)⟩
theorem pX5_7 : FPk RX5 7 5 0 0 .int := ⟨RX5, TX5, 6, rfl, by decide, rfl, uw5, (inT1 (List.mem_of_getElem? (i := 59) rfl) rfl), ⟨tyX5, tyX5_ok⟩, nmX5, rfl, rfl⟩
theorem fX0_135 : FLk RX0 135 5 0 0 := ⟨RX5, TX5, 6, rfl, by decide, rfl, uw5, (inT1 (List.mem_of_getElem? (i := 60) rfl) rfl)⟩
theorem pX0_135 : FPk RX0 135 5 0 0 .int := ⟨RX5, TX5, 6, rfl, by decide, rfl, uw5, (inT1 (List.mem_of_getElem? (i := 60) rfl) rfl), ⟨tyX5, tyX5_ok⟩, nmX5, rfl, rfl⟩
theorem fX5_16 : FLk RX5 16 5 1 0 := ⟨RX5, TX5, 6, rfl, by decide, rfl, uw5, (inT1 (List.mem_of_getElem? (i := 61) rfl) rfl)⟩
theorem pX5_16 : FPk RX5 16 5 1 0 .int := ⟨RX5, TX5, 6, rfl, by decide, rfl, uw5, (inT1 (List.mem_of_getElem? (i := 61) rfl) rfl), ⟨tyX5, tyX5_ok⟩, nmX5, rfl, rfl⟩
theorem fX0_142 : FLk RX0 142 5 1 0 := ⟨RX5, TX5, 6, rfl, by decide, rfl, uw5, (inT1 (List.mem_of_getElem? (i := 62) rfl) rfl)⟩
theorem pX0_142 : FPk RX0 142 5 1 0 .int := ⟨RX5, TX5, 6, rfl, by decide, rfl, uw5, (inT1 (List.mem_of_getElem? (i := 62) rfl) rfl), ⟨tyX5, tyX5_ok⟩, nmX5, rfl, rfl⟩
theorem fX5_19 : FLk RX5 19 5 2 0 := ⟨RX5, TX5, 6, rfl, by decide, rfl, uw5, (inT1 (List.mem_of_getElem? (i := 63) rfl) rfl)⟩
theorem pX5_19 : FPk RX5 19 5 2 0 .int := ⟨RX5, TX5, 6, rfl, by decide, rfl, uw5, (inT1 (List.mem_of_getElem? (i := 63) rfl) rfl), ⟨tyX5, tyX5_ok⟩, nmX5, rfl, rfl⟩
theorem fX0_145 : FLk RX0 145 5 2 0 := ⟨RX5, TX5, 6, rfl, by decide, rfl, uw5, (inT1 (List.mem_of_getElem? (i := 64) rfl) rfl)⟩
theorem pX0_145 : FPk RX0 145 5 2 0 .int := ⟨RX5, TX5, 6, rfl, by decide, rfl, uw5, (inT1 (List.mem_of_getElem? (i := 64) rfl) rfl), ⟨tyX5, tyX5_ok⟩, nmX5, rfl, rfl⟩
theorem fX5_13 : FLk RX5 13 5 3 0 := ⟨RX5, TX5, 6, rfl, by decide, rfl, uw5, (inT1 (List.mem_of_getElem? (i := 65) rfl) rfl)⟩
theorem pX5_13 : FPk RX5 13 5 3 0 .int := ⟨RX5, TX5, 6, rfl, by decide, rfl, uw5, (inT1 (List.mem_of_getElem? (i := 65) rfl) rfl), ⟨tyX5, tyX5_ok⟩, nmX5, rfl, rfl⟩
theorem fX5_22 : FLk RX5 22 5 4 0 := ⟨RX5, TX5, 6, rfl, by decide, rfl, uw5, (inT1 (List.mem_of_getElem? (i := 66) rfl) rfl)⟩
theorem pX5_22 : FPk RX5 22 5 4 0 .int := ⟨RX5, TX5, 6, rfl, by decide, rfl, uw5, (inT1 (List.mem_of_getElem? (i := 66) rfl) rfl), ⟨tyX5, tyX5_ok⟩, nmX5, rfl, rfl⟩
theorem fX5_25 : FLk RX5 25 5 5 0 := ⟨RX5, TX5, 6, rfl, by decide, rfl, uw5, (inT1 (List.mem_of_getElem? (i := 67) rfl) rfl)⟩
theorem pX5_25 : FPk RX5 25 5 5 0 .int := ⟨RX5, TX5, 6, rfl, by decide, rfl, uw5, (inT1 (List.mem_of_getElem? (i := 67) rfl) rfl), ⟨tyX5, tyX5_ok⟩, nmX5, rfl, rfl⟩
theorem fX9_7 : FLk RX9 7 9 0 0 := ⟨RX9, TX9, 4, rfl, by decide, rfl, uw9, (inT1 (List.mem_of_getElem? (i := 88) rfl) rfl)⟩
theorem pX9_7 : FPk RX9 7 9 0 0 .int := ⟨RX9, TX9, 4, rfl, by decide, rfl, uw9, (inT1 (List.mem_of_getElem? (i := 88) rfl) rfl), ⟨tyX9, tyX9_ok⟩, nmX9, rfl, rfl⟩
theorem fX0_233 : FLk RX0 233 9 0 0 := ⟨RX9, TX9, 4, rfl, by decide, rfl, uw9, (inT1 (List.mem_of_getElem? (i := 89) rfl) rfl)⟩
theorem pX0_233 : FPk RX0 233 9 0 0 .int := ⟨RX9, TX9, 4, rfl, by decide, rfl, uw9, (inT1 (List.mem_of_getElem? (i := 89) rfl) rfl), ⟨tyX9, tyX9_ok⟩, nmX9, rfl, rfl⟩
theorem fX9_13 : FLk RX9 13 9 1 0 := ⟨RX9, TX9, 4, rfl, by decide, rfl, uw9, (inT1 (List.mem_of_getElem? (i := 90) rfl) rfl)⟩
theorem pX9_13 : FPk RX9 13 9 1 0 .int := ⟨RX9, TX9, 4, rfl, by decide, rfl, uw9, (inT1 (List.mem_of_getElem? (i := 90) rfl) rfl), ⟨tyX9, tyX9_ok⟩, nmX9, rfl, rfl⟩
theorem fX0_236 : FLk RX0 236 9 1 0 := ⟨RX9, TX9, 4, rfl, by decide, rfl, uw9, (inT1 (List.mem_of_getElem? (i := 91) rfl) rfl)⟩
theorem pX0_236 : FPk RX0 236 9 1 0 .int := ⟨RX9, TX9, 4, rfl, by decide, rfl, uw9, (inT1 (List.mem_of_getElem? (i := 91) rfl) rfl), ⟨tyX9, tyX9_ok⟩, nmX9, rfl, rfl⟩
theorem fX9_16 : FLk RX9 16 9 2 0 := ⟨RX9, TX9, 4, rfl, by decide, rfl, uw9, (inT1 (List.mem_of_getElem? (i := 92) rfl) rfl)⟩
theorem pX9_16 : FPk RX9 16 9 2 0 .int := ⟨RX9, TX9, 4, rfl, by decide, rfl, uw9, (inT1 (List.mem_of_getElem? (i := 92) rfl) rfl), ⟨tyX9, tyX9_ok⟩, nmX9, rfl, rfl⟩
theorem fX0_258 : FLk RX0 258 9 2 0 := ⟨RX9, TX9, 4, rfl, by decide, rfl, uw9, (inT1 (List.mem_of_getElem? (i := 93) rfl) rfl)⟩
theorem pX0_258 : FPk RX0 258 9 2 0 .int := ⟨RX9, TX9, 4, rfl, by decide, rfl, uw9, (inT1 (List.mem_of_getElem? (i := 93) rfl) rfl), ⟨tyX9, tyX9_ok⟩, nmX9, rfl, rfl⟩
theorem fX9_19 : FLk RX9 19 9 3 0 := ⟨RX9, TX9, 4, rfl, by decide, rfl, uw9, (inT1 (List.mem_of_getElem? (i := 94) rfl) rfl)⟩
theorem pX9_19 : FPk RX9 19 9 3 0 .int := ⟨RX9, TX9, 4, rfl, by decide, rfl, uw9, (inT1 (List.mem_of_getElem? (i := 94) rfl) rfl), ⟨tyX9, tyX9_ok⟩, nmX9, rfl, rfl⟩
theorem fX8_129 : FLk RX8 129 9 3 0 := ⟨RX9, TX9, 4, rfl, by decide, rfl, uw9, (inT1 (List.mem_of_getElem? (i := 95) rfl) rfl)⟩
theorem pX8_129 : FPk RX8 129 9 3 0 .int := ⟨RX9, TX9, 4, rfl, by decide, rfl, uw9, (inT1 (List.mem_of_getElem? (i := 95) rfl) rfl), ⟨tyX9, tyX9_ok⟩, nmX9, rfl, rfl⟩
theorem fX0_239 : FLk RX0 239 9 3 0 := ⟨RX9, TX9, 4, rfl, by decide, rfl, uw9, (inT1 (List.mem_of_getElem? (i := 96) rfl) rfl)⟩
theorem pX0_239 : FPk RX0 239 9 3 0 .int := ⟨RX9, TX9, 4, rfl, by decide, rfl, uw9, (inT1 (List.mem_of_getElem? (i := 96) rfl) rfl), ⟨tyX9, tyX9_ok⟩, nmX9, rfl, rfl⟩
theorem fX10_183 : FLk RX10 183 9 3 0 := ⟨RX9, TX9, 4, rfl, by decide, rfl, uw9, (inT1 (List.mem_of_getElem? (i := 97) rfl) rfl)⟩
theorem pX10_183 : FPk RX10 183 9 3 0 .int := ⟨RX9, TX9, 4, rfl, by decide, rfl, uw9, (inT1 (List.mem_of_getElem? (i := 97) rfl) rfl), ⟨tyX9, tyX9_ok⟩, nmX9, rfl, rfl⟩
theorem fX6_9 : FLk RX6 9 6 0 2 := ⟨RX6, TX6, 6, rfl, by decide, rfl, uw6, (inT1 (List.mem_of_getElem? (i := 113) rfl) rfl)⟩
theorem fX6_15 : FLk RX6 15 6 1 0 := ⟨RX6, TX6, 6, rfl, by decide, rfl, uw6, (inT1 (List.mem_of_getElem? (i := 114) rfl) rfl)⟩
theorem pX6_15 : FPk RX6 15 6 1 0 .int := ⟨RX6, TX6, 6, rfl, by decide, rfl, uw6, (inT1 (List.mem_of_getElem? (i := 114) rfl) rfl), ⟨tyX6, tyX6_ok⟩, nmX6, rfl, rfl⟩
theorem fX10_217 : FLk RX10 217 6 1 0 := ⟨RX6, TX6, 6, rfl, by decide, rfl, uw6, (inT1 (List.mem_of_getElem? (i := 115) rfl) rfl)⟩
theorem pX10_217 : FPk RX10 217 6 1 0 .int := ⟨RX6, TX6, 6, rfl, by decide, rfl, uw6, (inT1 (List.mem_of_getElem? (i := 115) rfl) rfl), ⟨tyX6, tyX6_ok⟩, nmX6, rfl, rfl⟩
theorem fX6_19 : FLk RX6 19 6 2 0 := ⟨RX6, TX6, 6, rfl, by decide, rfl, uw6, (inT1 (List.mem_of_getElem? (i := 116) rfl) rfl)⟩
theorem pX6_19 : FPk RX6 19 6 2 0 .int := ⟨RX6, TX6, 6, rfl, by decide, rfl, uw6, (inT1 (List.mem_of_getElem? (i := 116) rfl) rfl), ⟨tyX6, tyX6_ok⟩, nmX6, rfl, rfl⟩
theorem fX0_264 : FLk RX0 264 6 2 0 := ⟨RX6, TX6, 6, rfl, by decide, rfl, uw6, (inT1 (List.mem_of_getElem? (i := 117) rfl) rfl)⟩
theorem pX0_264 : FPk RX0 264 6 2 0 .int := ⟨RX6, TX6, 6, rfl, by decide, rfl, uw6, (inT1 (List.mem_of_getElem? (i := 117) rfl) rfl), ⟨tyX6, tyX6_ok⟩, nmX6, rfl, rfl⟩
theorem fX10_244 : FLk RX10 244 6 2 0 := ⟨RX6, TX6, 6, rfl, by decide, rfl, uw6, (inT1 (List.mem_of_getElem? (i := 118) rfl) rfl)⟩
theorem pX10_244 : FPk RX10 244 6 2 0 .int := ⟨RX6, TX6, 6, rfl, by decide, rfl, uw6, (inT1 (List.mem_of_getElem? (i := 118) rfl) rfl), ⟨tyX6, tyX6_ok⟩, nmX6, rfl, rfl⟩
theorem fX6_22 : FLk RX6 22 6 3 1 := ⟨RX6, TX6, 6, rfl, by decide, rfl, uw6, (inT1 (List.mem_of_getElem? (i := 119) rfl) rfl)⟩
theorem pX6_22 : FPk RX6 22 6 3 1 .long := ⟨RX6, TX6, 6, rfl, by decide, rfl, uw6, (inT1 (List.mem_of_getElem? (i := 119) rfl) rfl), ⟨tyX6, tyX6_ok⟩, nmX6, rfl, rfl⟩
theorem fX0_298 : FLk RX0 298 6 3 1 := ⟨RX6, TX6, 6, rfl, by decide, rfl, uw6, (inT1 (List.mem_of_getElem? (i := 120) rfl) rfl)⟩
theorem pX0_298 : FPk RX0 298 6 3 1 .long := ⟨RX6, TX6, 6, rfl, by decide, rfl, uw6, (inT1 (List.mem_of_getElem? (i := 120) rfl) rfl), ⟨tyX6, tyX6_ok⟩, nmX6, rfl, rfl⟩
theorem fX10_247 : FLk RX10 247 6 3 1 := ⟨RX6, TX6, 6, rfl, by decide, rfl, uw6, (inT1 (List.mem_of_getElem? (i := 121) rfl) rfl)⟩
theorem pX10_247 : FPk RX10 247 6 3 1 .long := ⟨RX6, TX6, 6, rfl, by decide, rfl, uw6, (inT1 (List.mem_of_getElem? (i := 121) rfl) rfl), ⟨tyX6, tyX6_ok⟩, nmX6, rfl, rfl⟩
theorem fX6_26 : FLk RX6 26 6 4 1 := ⟨RX6, TX6, 6, rfl, by decide, rfl, uw6, (inT1 (List.mem_of_getElem? (i := 122) rfl) rfl)⟩
theorem pX6_26 : FPk RX6 26 6 4 1 .long := ⟨RX6, TX6, 6, rfl, by decide, rfl, uw6, (inT1 (List.mem_of_getElem? (i := 122) rfl) rfl), ⟨tyX6, tyX6_ok⟩, nmX6, rfl, rfl⟩
theorem fX0_302 : FLk RX0 302 6 4 1 := ⟨RX6, TX6, 6, rfl, by decide, rfl, uw6, (inT1 (List.mem_of_getElem? (i := 123) rfl) rfl)⟩
theorem pX0_302 : FPk RX0 302 6 4 1 .long := ⟨RX6, TX6, 6, rfl, by decide, rfl, uw6, (inT1 (List.mem_of_getElem? (i := 123) rfl) rfl), ⟨tyX6, tyX6_ok⟩, nmX6, rfl, rfl⟩
theorem fX10_248 : FLk RX10 248 6 4 1 := ⟨RX6, TX6, 6, rfl, by decide, rfl, uw6, (inT1 (List.mem_of_getElem? (i := 124) rfl) rfl)⟩
theorem pX10_248 : FPk RX10 248 6 4 1 .long := ⟨RX6, TX6, 6, rfl, by decide, rfl, uw6, (inT1 (List.mem_of_getElem? (i := 124) rfl) rfl), ⟨tyX6, tyX6_ok⟩, nmX6, rfl, rfl⟩
theorem fX6_29 : FLk RX6 29 6 5 1 := ⟨RX6, TX6, 6, rfl, by decide, rfl, uw6, (inT1 (List.mem_of_getElem? (i := 125) rfl) rfl)⟩
theorem pX6_29 : FPk RX6 29 6 5 1 .long := ⟨RX6, TX6, 6, rfl, by decide, rfl, uw6, (inT1 (List.mem_of_getElem? (i := 125) rfl) rfl), ⟨tyX6, tyX6_ok⟩, nmX6, rfl, rfl⟩
theorem fX0_254 : FLk RX0 254 6 5 1 := ⟨RX6, TX6, 6, rfl, by decide, rfl, uw6, (inT1 (List.mem_of_getElem? (i := 126) rfl) rfl)⟩
theorem pX0_254 : FPk RX0 254 6 5 1 .long := ⟨RX6, TX6, 6, rfl, by decide, rfl, uw6, (inT1 (List.mem_of_getElem? (i := 126) rfl) rfl), ⟨tyX6, tyX6_ok⟩, nmX6, rfl, rfl⟩
theorem fX10_249 : FLk RX10 249 6 5 1 := ⟨RX6, TX6, 6, rfl, by decide, rfl, uw6, (inT1 (List.mem_of_getElem? (i := 127) rfl) rfl)⟩
theorem pX10_249 : FPk RX10 249 6 5 1 .long := ⟨RX6, TX6, 6, rfl, by decide, rfl, uw6, (inT1 (List.mem_of_getElem? (i := 127) rfl) rfl), ⟨tyX6, tyX6_ok⟩, nmX6, rfl, rfl⟩
theorem fX8_9 : FLk RX8 9 8 0 2 := ⟨RX8, TX8, 10, rfl, by decide, rfl, uw8, (inT1 (List.mem_of_getElem? (i := 147) rfl) rfl)⟩
theorem fX8_15 : FLk RX8 15 8 1 2 := ⟨RX8, TX8, 10, rfl, by decide, rfl, uw8, (inT1 (List.mem_of_getElem? (i := 148) rfl) rfl)⟩
theorem fX8_18 : FLk RX8 18 8 2 2 := ⟨RX8, TX8, 10, rfl, by decide, rfl, uw8, (inT1 (List.mem_of_getElem? (i := 149) rfl) rfl)⟩
theorem fX7_132 : FLk RX7 132 8 2 2 := ⟨RX8, TX8, 10, rfl, by decide, rfl, uw8, (inT1 (List.mem_of_getElem? (i := 150) rfl) rfl)⟩
theorem fX8_21 : FLk RX8 21 8 3 2 := ⟨RX8, TX8, 10, rfl, by decide, rfl, uw8, (inT1 (List.mem_of_getElem? (i := 151) rfl) rfl)⟩
theorem fX7_146 : FLk RX7 146 8 3 2 := ⟨RX8, TX8, 10, rfl, by decide, rfl, uw8, (inT1 (List.mem_of_getElem? (i := 152) rfl) rfl)⟩
theorem fX8_24 : FLk RX8 24 8 4 2 := ⟨RX8, TX8, 10, rfl, by decide, rfl, uw8, (inT1 (List.mem_of_getElem? (i := 153) rfl) rfl)⟩
theorem fX7_171 : FLk RX7 171 8 4 2 := ⟨RX8, TX8, 10, rfl, by decide, rfl, uw8, (inT1 (List.mem_of_getElem? (i := 154) rfl) rfl)⟩
theorem fX8_27 : FLk RX8 27 8 5 2 := ⟨RX8, TX8, 10, rfl, by decide, rfl, uw8, (inT1 (List.mem_of_getElem? (i := 155) rfl) rfl)⟩
theorem fX7_164 : FLk RX7 164 8 5 2 := ⟨RX8, TX8, 10, rfl, by decide, rfl, uw8, (inT1 (List.mem_of_getElem? (i := 156) rfl) rfl)⟩
theorem fX8_30 : FLk RX8 30 8 6 2 := ⟨RX8, TX8, 10, rfl, by decide, rfl, uw8, (inT1 (List.mem_of_getElem? (i := 157) rfl) rfl)⟩
theorem fX7_161 : FLk RX7 161 8 6 2 := ⟨RX8, TX8, 10, rfl, by decide, rfl, uw8, (inT1 (List.mem_of_getElem? (i := 158) rfl) rfl)⟩
theorem fX8_37 : FLk RX8 37 8 7 0 := ⟨RX8, TX8, 10, rfl, by decide, rfl, uw8, (inT1 (List.mem_of_getElem? (i := 159) rfl) rfl)⟩
theorem pX8_37 : FPk RX8 37 8 7 0 .int := ⟨RX8, TX8, 10, rfl, by decide, rfl, uw8, (inT1 (List.mem_of_getElem? (i := 159) rfl) rfl), ⟨tyX8, tyX8_ok⟩, nmX8, rfl, rfl⟩
theorem fX7_48 : FLk RX7 48 8 7 0 := ⟨RX8, TX8, 10, rfl, by decide, rfl, uw8, (inT1 (List.mem_of_getElem? (i := 160) rfl) rfl)⟩
theorem pX7_48 : FPk RX7 48 8 7 0 .int := ⟨RX8, TX8, 10, rfl, by decide, rfl, uw8, (inT1 (List.mem_of_getElem? (i := 160) rfl) rfl), ⟨tyX8, tyX8_ok⟩, nmX8, rfl, rfl⟩
theorem fX7_51 : FLk RX7 51 8 8 0 := ⟨RX8, TX8, 10, rfl, by decide, rfl, uw8, (inT1 (List.mem_of_getElem? (i := 161) rfl) rfl)⟩
theorem pX7_51 : FPk RX7 51 8 8 0 .int := ⟨RX8, TX8, 10, rfl, by decide, rfl, uw8, (inT1 (List.mem_of_getElem? (i := 161) rfl) rfl), ⟨tyX8, tyX8_ok⟩, nmX8, rfl, rfl⟩
theorem fX8_47 : FLk RX8 47 8 8 0 := ⟨RX8, TX8, 10, rfl, by decide, rfl, uw8, (inT1 (List.mem_of_getElem? (i := 162) rfl) rfl)⟩
theorem pX8_47 : FPk RX8 47 8 8 0 .int := ⟨RX8, TX8, 10, rfl, by decide, rfl, uw8, (inT1 (List.mem_of_getElem? (i := 162) rfl) rfl), ⟨tyX8, tyX8_ok⟩, nmX8, rfl, rfl⟩
theorem fX0_184 : FLk RX0 184 8 8 0 := ⟨RX8, TX8, 10, rfl, by decide, rfl, uw8, (inT1 (List.mem_of_getElem? (i := 163) rfl) rfl)⟩
theorem pX0_184 : FPk RX0 184 8 8 0 .int := ⟨RX8, TX8, 10, rfl, by decide, rfl, uw8, (inT1 (List.mem_of_getElem? (i := 163) rfl) rfl), ⟨tyX8, tyX8_ok⟩, nmX8, rfl, rfl⟩
theorem fX10_303 : FLk RX10 303 8 8 0 := ⟨RX8, TX8, 10, rfl, by decide, rfl, uw8, (inT1 (List.mem_of_getElem? (i := 164) rfl) rfl)⟩
theorem pX10_303 : FPk RX10 303 8 8 0 .int := ⟨RX8, TX8, 10, rfl, by decide, rfl, uw8, (inT1 (List.mem_of_getElem? (i := 164) rfl) rfl), ⟨tyX8, tyX8_ok⟩, nmX8, rfl, rfl⟩
theorem fX8_33 : FLk RX8 33 8 9 2 := ⟨RX8, TX8, 10, rfl, by decide, rfl, uw8, (inT1 (List.mem_of_getElem? (i := 165) rfl) rfl)⟩
theorem fX4_9 : FLk RX4 9 4 0 0 := ⟨RX4, TX4, 17, rfl, by decide, rfl, uw4, (inT1 (List.mem_of_getElem? (i := 193) rfl) rfl)⟩
theorem pX4_9 : FPk RX4 9 4 0 0 .int := ⟨RX4, TX4, 17, rfl, by decide, rfl, uw4, (inT1 (List.mem_of_getElem? (i := 193) rfl) rfl), ⟨tyX4, tyX4_ok⟩, nmX4, rfl, rfl⟩
theorem fX4_15 : FLk RX4 15 4 1 0 := ⟨RX4, TX4, 17, rfl, by decide, rfl, uw4, (inT1 (List.mem_of_getElem? (i := 194) rfl) rfl)⟩
theorem pX4_15 : FPk RX4 15 4 1 0 .int := ⟨RX4, TX4, 17, rfl, by decide, rfl, uw4, (inT1 (List.mem_of_getElem? (i := 194) rfl) rfl), ⟨tyX4, tyX4_ok⟩, nmX4, rfl, rfl⟩
theorem fX0_156 : FLk RX0 156 4 1 0 := ⟨RX4, TX4, 17, rfl, by decide, rfl, uw4, (inT1 (List.mem_of_getElem? (i := 195) rfl) rfl)⟩
theorem pX0_156 : FPk RX0 156 4 1 0 .int := ⟨RX4, TX4, 17, rfl, by decide, rfl, uw4, (inT1 (List.mem_of_getElem? (i := 195) rfl) rfl), ⟨tyX4, tyX4_ok⟩, nmX4, rfl, rfl⟩
theorem fX10_69 : FLk RX10 69 4 1 0 := ⟨RX4, TX4, 17, rfl, by decide, rfl, uw4, (inT1 (List.mem_of_getElem? (i := 196) rfl) rfl)⟩
theorem pX10_69 : FPk RX10 69 4 1 0 .int := ⟨RX4, TX4, 17, rfl, by decide, rfl, uw4, (inT1 (List.mem_of_getElem? (i := 196) rfl) rfl), ⟨tyX4, tyX4_ok⟩, nmX4, rfl, rfl⟩
theorem fX4_18 : FLk RX4 18 4 2 0 := ⟨RX4, TX4, 17, rfl, by decide, rfl, uw4, (inT1 (List.mem_of_getElem? (i := 197) rfl) rfl)⟩
theorem pX4_18 : FPk RX4 18 4 2 0 .int := ⟨RX4, TX4, 17, rfl, by decide, rfl, uw4, (inT1 (List.mem_of_getElem? (i := 197) rfl) rfl), ⟨tyX4, tyX4_ok⟩, nmX4, rfl, rfl⟩
theorem fX5_32 : FLk RX5 32 4 2 0 := ⟨RX4, TX4, 17, rfl, by decide, rfl, uw4, (inT1 (List.mem_of_getElem? (i := 198) rfl) rfl)⟩
theorem pX5_32 : FPk RX5 32 4 2 0 .int := ⟨RX4, TX4, 17, rfl, by decide, rfl, uw4, (inT1 (List.mem_of_getElem? (i := 198) rfl) rfl), ⟨tyX4, tyX4_ok⟩, nmX4, rfl, rfl⟩
theorem fX0_267 : FLk RX0 267 4 2 0 := ⟨RX4, TX4, 17, rfl, by decide, rfl, uw4, (inT1 (List.mem_of_getElem? (i := 199) rfl) rfl)⟩
theorem pX0_267 : FPk RX0 267 4 2 0 .int := ⟨RX4, TX4, 17, rfl, by decide, rfl, uw4, (inT1 (List.mem_of_getElem? (i := 199) rfl) rfl), ⟨tyX4, tyX4_ok⟩, nmX4, rfl, rfl⟩
theorem fX4_21 : FLk RX4 21 4 3 0 := ⟨RX4, TX4, 17, rfl, by decide, rfl, uw4, (inT1 (List.mem_of_getElem? (i := 200) rfl) rfl)⟩
theorem pX4_21 : FPk RX4 21 4 3 0 .int := ⟨RX4, TX4, 17, rfl, by decide, rfl, uw4, (inT1 (List.mem_of_getElem? (i := 200) rfl) rfl), ⟨tyX4, tyX4_ok⟩, nmX4, rfl, rfl⟩
theorem fX5_39 : FLk RX5 39 4 3 0 := ⟨RX4, TX4, 17, rfl, by decide, rfl, uw4, (inT1 (List.mem_of_getElem? (i := 201) rfl) rfl)⟩
theorem pX5_39 : FPk RX5 39 4 3 0 .int := ⟨RX4, TX4, 17, rfl, by decide, rfl, uw4, (inT1 (List.mem_of_getElem? (i := 201) rfl) rfl), ⟨tyX4, tyX4_ok⟩, nmX4, rfl, rfl⟩
theorem fX4_24 : FLk RX4 24 4 4 0 := ⟨RX4, TX4, 17, rfl, by decide, rfl, uw4, (inT1 (List.mem_of_getElem? (i := 202) rfl) rfl)⟩
theorem pX4_24 : FPk RX4 24 4 4 0 .int := ⟨RX4, TX4, 17, rfl, by decide, rfl, uw4, (inT1 (List.mem_of_getElem? (i := 202) rfl) rfl), ⟨tyX4, tyX4_ok⟩, nmX4, rfl, rfl⟩
theorem fX8_70 : FLk RX8 70 4 4 0 := ⟨RX4, TX4, 17, rfl, by decide, rfl, uw4, (inT1 (List.mem_of_getElem? (i := 203) rfl) rfl)⟩
theorem pX8_70 : FPk RX8 70 4 4 0 .int := ⟨RX4, TX4, 17, rfl, by decide, rfl, uw4, (inT1 (List.mem_of_getElem? (i := 203) rfl) rfl), ⟨tyX4, tyX4_ok⟩, nmX4, rfl, rfl⟩
theorem fX10_72 : FLk RX10 72 4 4 0 := ⟨RX4, TX4, 17, rfl, by decide, rfl, uw4, (inT1 (List.mem_of_getElem? (i := 204) rfl) rfl)⟩
theorem pX10_72 : FPk RX10 72 4 4 0 .int := ⟨RX4, TX4, 17, rfl, by decide, rfl, uw4, (inT1 (List.mem_of_getElem? (i := 204) rfl) rfl), ⟨tyX4, tyX4_ok⟩, nmX4, rfl, rfl⟩
theorem fX4_28 : FLk RX4 28 4 5 0 := ⟨RX4, TX4, 17, rfl, by decide, rfl, uw4, (inT1 (List.mem_of_getElem? (i := 205) rfl) rfl)⟩
theorem pX4_28 : FPk RX4 28 4 5 0 .int := ⟨RX4, TX4, 17, rfl, by decide, rfl, uw4, (inT1 (List.mem_of_getElem? (i := 205) rfl) rfl), ⟨tyX4, tyX4_ok⟩, nmX4, rfl, rfl⟩
theorem fX10_63 : FLk RX10 63 4 5 0 := ⟨RX4, TX4, 17, rfl, by decide, rfl, uw4, (inT1 (List.mem_of_getElem? (i := 206) rfl) rfl)⟩
theorem pX10_63 : FPk RX10 63 4 5 0 .int := ⟨RX4, TX4, 17, rfl, by decide, rfl, uw4, (inT1 (List.mem_of_getElem? (i := 206) rfl) rfl), ⟨tyX4, tyX4_ok⟩, nmX4, rfl, rfl⟩
theorem fX4_32 : FLk RX4 32 4 6 0 := ⟨RX4, TX4, 17, rfl, by decide, rfl, uw4, (inT1 (List.mem_of_getElem? (i := 207) rfl) rfl)⟩
theorem pX4_32 : FPk RX4 32 4 6 0 .int := ⟨RX4, TX4, 17, rfl, by decide, rfl, uw4, (inT1 (List.mem_of_getElem? (i := 207) rfl) rfl), ⟨tyX4, tyX4_ok⟩, nmX4, rfl, rfl⟩
theorem fX10_66 : FLk RX10 66 4 6 0 := ⟨RX4, TX4, 17, rfl, by decide, rfl, uw4, (inT1 (List.mem_of_getElem? (i := 208) rfl) rfl)⟩
theorem pX10_66 : FPk RX10 66 4 6 0 .int := ⟨RX4, TX4, 17, rfl, by decide, rfl, uw4, (inT1 (List.mem_of_getElem? (i := 208) rfl) rfl), ⟨tyX4, tyX4_ok⟩, nmX4, rfl, rfl⟩
theorem fX4_38 : FLk RX4 38 4 7 0 := ⟨RX4, TX4, 17, rfl, by decide, rfl, uw4, (inT1 (List.mem_of_getElem? (i := 209) rfl) rfl)⟩
theorem pX4_38 : FPk RX4 38 4 7 0 .int := ⟨RX4, TX4, 17, rfl, by decide, rfl, uw4, (inT1 (List.mem_of_getElem? (i := 209) rfl) rfl), ⟨tyX4, tyX4_ok⟩, nmX4, rfl, rfl⟩
theorem fX0_306 : FLk RX0 306 4 7 0 := ⟨RX4, TX4, 17, rfl, by decide, rfl, uw4, (inT1 (List.mem_of_getElem? (i := 210) rfl) rfl)⟩
theorem pX0_306 : FPk RX0 306 4 7 0 .int := ⟨RX4, TX4, 17, rfl, by decide, rfl, uw4, (inT1 (List.mem_of_getElem? (i := 210) rfl) rfl), ⟨tyX4, tyX4_ok⟩, nmX4, rfl, rfl⟩
theorem fX10_228 : FLk RX10 228 4 7 0 := ⟨RX4, TX4, 17, rfl, by decide, rfl, uw4, (inT1 (List.mem_of_getElem? (i := 211) rfl) rfl)⟩
theorem pX10_228 : FPk RX10 228 4 7 0 .int := ⟨RX4, TX4, 17, rfl, by decide, rfl, uw4, (inT1 (List.mem_of_getElem? (i := 211) rfl) rfl), ⟨tyX4, tyX4_ok⟩, nmX4, rfl, rfl⟩
theorem fX4_41 : FLk RX4 41 4 8 0 := ⟨RX4, TX4, 17, rfl, by decide, rfl, uw4, (inT1 (List.mem_of_getElem? (i := 212) rfl) rfl)⟩
theorem pX4_41 : FPk RX4 41 4 8 0 .int := ⟨RX4, TX4, 17, rfl, by decide, rfl, uw4, (inT1 (List.mem_of_getElem? (i := 212) rfl) rfl), ⟨tyX4, tyX4_ok⟩, nmX4, rfl, rfl⟩
theorem fX0_313 : FLk RX0 313 4 8 0 := ⟨RX4, TX4, 17, rfl, by decide, rfl, uw4, (inT1 (List.mem_of_getElem? (i := 213) rfl) rfl)⟩
theorem pX0_313 : FPk RX0 313 4 8 0 .int := ⟨RX4, TX4, 17, rfl, by decide, rfl, uw4, (inT1 (List.mem_of_getElem? (i := 213) rfl) rfl), ⟨tyX4, tyX4_ok⟩, nmX4, rfl, rfl⟩
theorem fX10_231 : FLk RX10 231 4 8 0 := ⟨RX4, TX4, 17, rfl, by decide, rfl, uw4, (inT1 (List.mem_of_getElem? (i := 214) rfl) rfl)⟩
theorem pX10_231 : FPk RX10 231 4 8 0 .int := ⟨RX4, TX4, 17, rfl, by decide, rfl, uw4, (inT1 (List.mem_of_getElem? (i := 214) rfl) rfl), ⟨tyX4, tyX4_ok⟩, nmX4, rfl, rfl⟩
theorem fX4_44 : FLk RX4 44 4 9 0 := ⟨RX4, TX4, 17, rfl, by decide, rfl, uw4, (inT1 (List.mem_of_getElem? (i := 215) rfl) rfl)⟩
theorem pX4_44 : FPk RX4 44 4 9 0 .int := ⟨RX4, TX4, 17, rfl, by decide, rfl, uw4, (inT1 (List.mem_of_getElem? (i := 215) rfl) rfl), ⟨tyX4, tyX4_ok⟩, nmX4, rfl, rfl⟩
theorem fX0_321 : FLk RX0 321 4 9 0 := ⟨RX4, TX4, 17, rfl, by decide, rfl, uw4, (inT1 (List.mem_of_getElem? (i := 216) rfl) rfl)⟩
theorem pX0_321 : FPk RX0 321 4 9 0 .int := ⟨RX4, TX4, 17, rfl, by decide, rfl, uw4, (inT1 (List.mem_of_getElem? (i := 216) rfl) rfl), ⟨tyX4, tyX4_ok⟩, nmX4, rfl, rfl⟩
theorem fX10_234 : FLk RX10 234 4 9 0 := ⟨RX4, TX4, 17, rfl, by decide, rfl, uw4, (inT1 (List.mem_of_getElem? (i := 217) rfl) rfl)⟩
theorem pX10_234 : FPk RX10 234 4 9 0 .int := ⟨RX4, TX4, 17, rfl, by decide, rfl, uw4, (inT1 (List.mem_of_getElem? (i := 217) rfl) rfl), ⟨tyX4, tyX4_ok⟩, nmX4, rfl, rfl⟩
theorem fX4_47 : FLk RX4 47 4 10 0 := ⟨RX4, TX4, 17, rfl, by decide, rfl, uw4, (inT1 (List.mem_of_getElem? (i := 218) rfl) rfl)⟩
theorem pX4_47 : FPk RX4 47 4 10 0 .int := ⟨RX4, TX4, 17, rfl, by decide, rfl, uw4, (inT1 (List.mem_of_getElem? (i := 218) rfl) rfl), ⟨tyX4, tyX4_ok⟩, nmX4, rfl, rfl⟩
theorem fX0_324 : FLk RX0 324 4 10 0 := ⟨RX4, TX4, 17, rfl, by decide, rfl, uw4, (inT1 (List.mem_of_getElem? (i := 219) rfl) rfl)⟩
theorem pX0_324 : FPk RX0 324 4 10 0 .int := ⟨RX4, TX4, 17, rfl, by decide, rfl, uw4, (inT1 (List.mem_of_getElem? (i := 219) rfl) rfl), ⟨tyX4, tyX4_ok⟩, nmX4, rfl, rfl⟩
theorem fX10_237 : FLk RX10 237 4 10 0 := ⟨RX4, TX4, 17, rfl, by decide, rfl, uw4, (inT1 (List.mem_of_getElem? (i := 220) rfl) rfl)⟩
theorem pX10_237 : FPk RX10 237 4 10 0 .int := ⟨RX4, TX4, 17, rfl, by decide, rfl, uw4, (inT1 (List.mem_of_getElem? (i := 220) rfl) rfl), ⟨tyX4, tyX4_ok⟩, nmX4, rfl, rfl⟩
theorem fX4_51 : FLk RX4 51 4 11 1 := ⟨RX4, TX4, 17, rfl, by decide, rfl, uw4, (inT1 (List.mem_of_getElem? (i := 221) rfl) rfl)⟩
theorem pX4_51 : FPk RX4 51 4 11 1 .long := ⟨RX4, TX4, 17, rfl, by decide, rfl, uw4, (inT1 (List.mem_of_getElem? (i := 221) rfl) rfl), ⟨tyX4, tyX4_ok⟩, nmX4, rfl, rfl⟩
theorem fX0_270 : FLk RX0 270 4 11 1 := ⟨RX4, TX4, 17, rfl, by decide, rfl, uw4, (inT1 (List.mem_of_getElem? (i := 222) rfl) rfl)⟩
theorem pX0_270 : FPk RX0 270 4 11 1 .long := ⟨RX4, TX4, 17, rfl, by decide, rfl, uw4, (inT1 (List.mem_of_getElem? (i := 222) rfl) rfl), ⟨tyX4, tyX4_ok⟩, nmX4, rfl, rfl⟩
theorem fX4_65 : FLk RX4 65 4 12 1 := ⟨RX4, TX4, 17, rfl, by decide, rfl, uw4, (inT1 (List.mem_of_getElem? (i := 223) rfl) rfl)⟩
theorem pX4_65 : FPk RX4 65 4 12 1 .long := ⟨RX4, TX4, 17, rfl, by decide, rfl, uw4, (inT1 (List.mem_of_getElem? (i := 223) rfl) rfl), ⟨tyX4, tyX4_ok⟩, nmX4, rfl, rfl⟩
theorem fX0_277 : FLk RX0 277 4 12 1 := ⟨RX4, TX4, 17, rfl, by decide, rfl, uw4, (inT1 (List.mem_of_getElem? (i := 224) rfl) rfl)⟩
theorem pX0_277 : FPk RX0 277 4 12 1 .long := ⟨RX4, TX4, 17, rfl, by decide, rfl, uw4, (inT1 (List.mem_of_getElem? (i := 224) rfl) rfl), ⟨tyX4, tyX4_ok⟩, nmX4, rfl, rfl⟩
theorem fX10_194 : FLk RX10 194 4 12 1 := ⟨RX4, TX4, 17, rfl, by decide, rfl, uw4, (inT1 (List.mem_of_getElem? (i := 225) rfl) rfl)⟩
theorem pX10_194 : FPk RX10 194 4 12 1 .long := ⟨RX4, TX4, 17, rfl, by decide, rfl, uw4, (inT1 (List.mem_of_getElem? (i := 225) rfl) rfl), ⟨tyX4, tyX4_ok⟩, nmX4, rfl, rfl⟩
theorem fX4_59 : FLk RX4 59 4 13 1 := ⟨RX4, TX4, 17, rfl, by decide, rfl, uw4, (inT1 (List.mem_of_getElem? (i := 226) rfl) rfl)⟩
theorem pX4_59 : FPk RX4 59 4 13 1 .long := ⟨RX4, TX4, 17, rfl, by decide, rfl, uw4, (inT1 (List.mem_of_getElem? (i := 226) rfl) rfl), ⟨tyX4, tyX4_ok⟩, nmX4, rfl, rfl⟩
theorem fX0_301 : FLk RX0 301 4 13 1 := ⟨RX4, TX4, 17, rfl, by decide, rfl, uw4, (inT1 (List.mem_of_getElem? (i := 227) rfl) rfl)⟩
theorem pX0_301 : FPk RX0 301 4 13 1 .long := ⟨RX4, TX4, 17, rfl, by decide, rfl, uw4, (inT1 (List.mem_of_getElem? (i := 227) rfl) rfl), ⟨tyX4, tyX4_ok⟩, nmX4, rfl, rfl⟩
theorem fX10_198 : FLk RX10 198 4 13 1 := ⟨RX4, TX4, 17, rfl, by decide, rfl, uw4, (inT1 (List.mem_of_getElem? (i := 228) rfl) rfl)⟩
theorem pX10_198 : FPk RX10 198 4 13 1 .long := ⟨RX4, TX4, 17, rfl, by decide, rfl, uw4, (inT1 (List.mem_of_getElem? (i := 228) rfl) rfl), ⟨tyX4, tyX4_ok⟩, nmX4, rfl, rfl⟩
theorem fX4_68 : FLk RX4 68 4 14 1 := ⟨RX4, TX4, 17, rfl, by decide, rfl, uw4, (inT1 (List.mem_of_getElem? (i := 229) rfl) rfl)⟩
theorem pX4_68 : FPk RX4 68 4 14 1 .long := ⟨RX4, TX4, 17, rfl, by decide, rfl, uw4, (inT1 (List.mem_of_getElem? (i := 229) rfl) rfl), ⟨tyX4, tyX4_ok⟩, nmX4, rfl, rfl⟩
theorem fX0_280 : FLk RX0 280 4 14 1 := ⟨RX4, TX4, 17, rfl, by decide, rfl, uw4, (inT1 (List.mem_of_getElem? (i := 230) rfl) rfl)⟩
theorem pX0_280 : FPk RX0 280 4 14 1 .long := ⟨RX4, TX4, 17, rfl, by decide, rfl, uw4, (inT1 (List.mem_of_getElem? (i := 230) rfl) rfl), ⟨tyX4, tyX4_ok⟩, nmX4, rfl, rfl⟩
theorem fX10_201 : FLk RX10 201 4 14 1 := ⟨RX4, TX4, 17, rfl, by decide, rfl, uw4, (inT1 (List.mem_of_getElem? (i := 231) rfl) rfl)⟩
theorem pX10_201 : FPk RX10 201 4 14 1 .long := ⟨RX4, TX4, 17, rfl, by decide, rfl, uw4, (inT1 (List.mem_of_getElem? (i := 231) rfl) rfl), ⟨tyX4, tyX4_ok⟩, nmX4, rfl, rfl⟩
theorem fX4_62 : FLk RX4 62 4 15 1 := ⟨RX4, TX4, 17, rfl, by decide, rfl, uw4, (inT1 (List.mem_of_getElem? (i := 232) rfl) rfl)⟩
theorem pX4_62 : FPk RX4 62 4 15 1 .long := ⟨RX4, TX4, 17, rfl, by decide, rfl, uw4, (inT1 (List.mem_of_getElem? (i := 232) rfl) rfl), ⟨tyX4, tyX4_ok⟩, nmX4, rfl, rfl⟩
theorem fX0_283 : FLk RX0 283 4 15 1 := ⟨RX4, TX4, 17, rfl, by decide, rfl, uw4, (inT1 (List.mem_of_getElem? (i := 233) rfl) rfl)⟩
theorem pX0_283 : FPk RX0 283 4 15 1 .long := ⟨RX4, TX4, 17, rfl, by decide, rfl, uw4, (inT1 (List.mem_of_getElem? (i := 233) rfl) rfl), ⟨tyX4, tyX4_ok⟩, nmX4, rfl, rfl⟩
theorem fX2_7 : FLk RX2 7 2 0 0 := ⟨RX2, TX2, 3, rfl, by decide, rfl, uw2, (inT2 (List.mem_of_getElem? (i := 34) rfl) rfl)⟩
theorem pX2_7 : FPk RX2 7 2 0 0 .int := ⟨RX2, TX2, 3, rfl, by decide, rfl, uw2, (inT2 (List.mem_of_getElem? (i := 34) rfl) rfl), ⟨tyX2, tyX2_ok⟩, nmX2, rfl, rfl⟩
theorem fX0_115 : FLk RX0 115 2 0 0 := ⟨RX2, TX2, 3, rfl, by decide, rfl, uw2, (inT2 (List.mem_of_getElem? (i := 35) rfl) rfl)⟩
theorem pX0_115 : FPk RX0 115 2 0 0 .int := ⟨RX2, TX2, 3, rfl, by decide, rfl, uw2, (inT2 (List.mem_of_getElem? (i := 35) rfl) rfl), ⟨tyX2, tyX2_ok⟩, nmX2, rfl, rfl⟩
theorem fX2_13 : FLk RX2 13 2 1 0 := ⟨RX2, TX2, 3, rfl, by decide, rfl, uw2, (inT2 (List.mem_of_getElem? (i := 36) rfl) rfl)⟩
theorem pX2_13 : FPk RX2 13 2 1 0 .int := ⟨RX2, TX2, 3, rfl, by decide, rfl, uw2, (inT2 (List.mem_of_getElem? (i := 36) rfl) rfl), ⟨tyX2, tyX2_ok⟩, nmX2, rfl, rfl⟩
theorem fX0_118 : FLk RX0 118 2 1 0 := ⟨RX2, TX2, 3, rfl, by decide, rfl, uw2, (inT2 (List.mem_of_getElem? (i := 37) rfl) rfl)⟩
theorem pX0_118 : FPk RX0 118 2 1 0 .int := ⟨RX2, TX2, 3, rfl, by decide, rfl, uw2, (inT2 (List.mem_of_getElem? (i := 37) rfl) rfl), ⟨tyX2, tyX2_ok⟩, nmX2, rfl, rfl⟩
theorem fX2_16 : FLk RX2 16 2 2 0 := ⟨RX2, TX2, 3, rfl, by decide, rfl, uw2, (inT2 (List.mem_of_getElem? (i := 38) rfl) rfl)⟩
theorem pX2_16 : FPk RX2 16 2 2 0 .int := ⟨RX2, TX2, 3, rfl, by decide, rfl, uw2, (inT2 (List.mem_of_getElem? (i := 38) rfl) rfl), ⟨tyX2, tyX2_ok⟩, nmX2, rfl, rfl⟩
theorem fX10_87 : FLk RX10 87 2 2 0 := ⟨RX2, TX2, 3, rfl, by decide, rfl, uw2, (inT2 (List.mem_of_getElem? (i := 39) rfl) rfl)⟩
theorem pX10_87 : FPk RX10 87 2 2 0 .int := ⟨RX2, TX2, 3, rfl, by decide, rfl, uw2, (inT2 (List.mem_of_getElem? (i := 39) rfl) rfl), ⟨tyX2, tyX2_ok⟩, nmX2, rfl, rfl⟩
theorem fX0_295 : FLk RX0 295 2 2 0 := ⟨RX2, TX2, 3, rfl, by decide, rfl, uw2, (inT2 (List.mem_of_getElem? (i := 40) rfl) rfl)⟩
theorem pX0_295 : FPk RX0 295 2 2 0 .int := ⟨RX2, TX2, 3, rfl, by decide, rfl, uw2, (inT2 (List.mem_of_getElem? (i := 40) rfl) rfl), ⟨tyX2, tyX2_ok⟩, nmX2, rfl, rfl⟩
theorem fX3_7 : FLk RX3 7 3 0 0 := ⟨RX3, TX3, 7, rfl, by decide, rfl, uw3, (inT2 (List.mem_of_getElem? (i := 53) rfl) rfl)⟩
theorem pX3_7 : FPk RX3 7 3 0 0 .int := ⟨RX3, TX3, 7, rfl, by decide, rfl, uw3, (inT2 (List.mem_of_getElem? (i := 53) rfl) rfl), ⟨tyX3, tyX3_ok⟩, nmX3, rfl, rfl⟩
theorem fX0_159 : FLk RX0 159 3 0 0 := ⟨RX3, TX3, 7, rfl, by decide, rfl, uw3, (inT2 (List.mem_of_getElem? (i := 54) rfl) rfl)⟩
theorem pX0_159 : FPk RX0 159 3 0 0 .int := ⟨RX3, TX3, 7, rfl, by decide, rfl, uw3, (inT2 (List.mem_of_getElem? (i := 54) rfl) rfl), ⟨tyX3, tyX3_ok⟩, nmX3, rfl, rfl⟩
theorem fX3_13 : FLk RX3 13 3 1 0 := ⟨RX3, TX3, 7, rfl, by decide, rfl, uw3, (inT2 (List.mem_of_getElem? (i := 55) rfl) rfl)⟩
theorem pX3_13 : FPk RX3 13 3 1 0 .int := ⟨RX3, TX3, 7, rfl, by decide, rfl, uw3, (inT2 (List.mem_of_getElem? (i := 55) rfl) rfl), ⟨tyX3, tyX3_ok⟩, nmX3, rfl, rfl⟩
theorem fX0_284 : FLk RX0 284 3 1 0 := ⟨RX3, TX3, 7, rfl, by decide, rfl, uw3, (inT2 (List.mem_of_getElem? (i := 56) rfl) rfl)⟩
theorem pX0_284 : FPk RX0 284 3 1 0 .int := ⟨RX3, TX3, 7, rfl, by decide, rfl, uw3, (inT2 (List.mem_of_getElem? (i := 56) rfl) rfl), ⟨tyX3, tyX3_ok⟩, nmX3, rfl, rfl⟩
theorem fX3_16 : FLk RX3 16 3 2 0 := ⟨RX3, TX3, 7, rfl, by decide, rfl, uw3, (inT2 (List.mem_of_getElem? (i := 57) rfl) rfl)⟩
theorem pX3_16 : FPk RX3 16 3 2 0 .int := ⟨RX3, TX3, 7, rfl, by decide, rfl, uw3, (inT2 (List.mem_of_getElem? (i := 57) rfl) rfl), ⟨tyX3, tyX3_ok⟩, nmX3, rfl, rfl⟩
theorem fX0_166 : FLk RX0 166 3 2 0 := ⟨RX3, TX3, 7, rfl, by decide, rfl, uw3, (inT2 (List.mem_of_getElem? (i := 58) rfl) rfl)⟩
theorem pX0_166 : FPk RX0 166 3 2 0 .int := ⟨RX3, TX3, 7, rfl, by decide, rfl, uw3, (inT2 (List.mem_of_getElem? (i := 58) rfl) rfl), ⟨tyX3, tyX3_ok⟩, nmX3, rfl, rfl⟩
theorem fX3_19 : FLk RX3 19 3 3 0 := ⟨RX3, TX3, 7, rfl, by decide, rfl, uw3, (inT2 (List.mem_of_getElem? (i := 59) rfl) rfl)⟩
theorem pX3_19 : FPk RX3 19 3 3 0 .int := ⟨RX3, TX3, 7, rfl, by decide, rfl, uw3, (inT2 (List.mem_of_getElem? (i := 59) rfl) rfl), ⟨tyX3, tyX3_ok⟩, nmX3, rfl, rfl⟩
theorem fX0_171 : FLk RX0 171 3 3 0 := ⟨RX3, TX3, 7, rfl, by decide, rfl, uw3, (inT2 (List.mem_of_getElem? (i := 60) rfl) rfl)⟩
theorem pX0_171 : FPk RX0 171 3 3 0 .int := ⟨RX3, TX3, 7, rfl, by decide, rfl, uw3, (inT2 (List.mem_of_getElem? (i := 60) rfl) rfl), ⟨tyX3, tyX3_ok⟩, nmX3, rfl, rfl⟩
theorem fX3_22 : FLk RX3 22 3 4 0 := ⟨RX3, TX3, 7, rfl, by decide, rfl, uw3, (inT2 (List.mem_of_getElem? (i := 61) rfl) rfl)⟩
theorem pX3_22 : FPk RX3 22 3 4 0 .int := ⟨RX3, TX3, 7, rfl, by decide, rfl, uw3, (inT2 (List.mem_of_getElem? (i := 61) rfl) rfl), ⟨tyX3, tyX3_ok⟩, nmX3, rfl, rfl⟩
theorem fX3_25 : FLk RX3 25 3 5 0 := ⟨RX3, TX3, 7, rfl, by decide, rfl, uw3, (inT2 (List.mem_of_getElem? (i := 62) rfl) rfl)⟩
theorem pX3_25 : FPk RX3 25 3 5 0 .int := ⟨RX3, TX3, 7, rfl, by decide, rfl, uw3, (inT2 (List.mem_of_getElem? (i := 62) rfl) rfl), ⟨tyX3, tyX3_ok⟩, nmX3, rfl, rfl⟩
theorem fX8_111 : FLk RX8 111 3 5 0 := ⟨RX3, TX3, 7, rfl, by decide, rfl, uw3, (inT2 (List.mem_of_getElem? (i := 63) rfl) rfl)⟩
theorem pX8_111 : FPk RX8 111 3 5 0 .int := ⟨RX3, TX3, 7, rfl, by decide, rfl, uw3, (inT2 (List.mem_of_getElem? (i := 63) rfl) rfl), ⟨tyX3, tyX3_ok⟩, nmX3, rfl, rfl⟩
theorem fX10_126 : FLk RX10 126 3 5 0 := ⟨RX3, TX3, 7, rfl, by decide, rfl, uw3, (inT2 (List.mem_of_getElem? (i := 64) rfl) rfl)⟩
theorem pX10_126 : FPk RX10 126 3 5 0 .int := ⟨RX3, TX3, 7, rfl, by decide, rfl, uw3, (inT2 (List.mem_of_getElem? (i := 64) rfl) rfl), ⟨tyX3, tyX3_ok⟩, nmX3, rfl, rfl⟩
theorem fX0_286 : FLk RX0 286 3 5 0 := ⟨RX3, TX3, 7, rfl, by decide, rfl, uw3, (inT2 (List.mem_of_getElem? (i := 65) rfl) rfl)⟩
theorem pX0_286 : FPk RX0 286 3 5 0 .int := ⟨RX3, TX3, 7, rfl, by decide, rfl, uw3, (inT2 (List.mem_of_getElem? (i := 65) rfl) rfl), ⟨tyX3, tyX3_ok⟩, nmX3, rfl, rfl⟩
theorem fX3_28 : FLk RX3 28 3 6 3 := ⟨RX3, TX3, 7, rfl, by decide, rfl, uw3, (inT2 (List.mem_of_getElem? (i := 66) rfl) rfl)⟩
theorem pX3_28 : FPk RX3 28 3 6 3 .boolean := ⟨RX3, TX3, 7, rfl, by decide, rfl, uw3, (inT2 (List.mem_of_getElem? (i := 66) rfl) rfl), ⟨tyX3, tyX3_ok⟩, nmX3, rfl, rfl⟩
theorem fX8_82 : FLk RX8 82 3 6 3 := ⟨RX3, TX3, 7, rfl, by decide, rfl, uw3, (inT2 (List.mem_of_getElem? (i := 67) rfl) rfl)⟩
theorem pX8_82 : FPk RX8 82 3 6 3 .boolean := ⟨RX3, TX3, 7, rfl, by decide, rfl, uw3, (inT2 (List.mem_of_getElem? (i := 67) rfl) rfl), ⟨tyX3, tyX3_ok⟩, nmX3, rfl, rfl⟩
theorem fX10_133 : FLk RX10 133 3 6 3 := ⟨RX3, TX3, 7, rfl, by decide, rfl, uw3, (inT2 (List.mem_of_getElem? (i := 68) rfl) rfl)⟩
theorem pX10_133 : FPk RX10 133 3 6 3 .boolean := ⟨RX3, TX3, 7, rfl, by decide, rfl, uw3, (inT2 (List.mem_of_getElem? (i := 68) rfl) rfl), ⟨tyX3, tyX3_ok⟩, nmX3, rfl, rfl⟩
theorem fX0_214 : FLk RX0 214 3 6 3 := ⟨RX3, TX3, 7, rfl, by decide, rfl, uw3, (inT2 (List.mem_of_getElem? (i := 69) rfl) rfl)⟩
theorem pX0_214 : FPk RX0 214 3 6 3 .boolean := ⟨RX3, TX3, 7, rfl, by decide, rfl, uw3, (inT2 (List.mem_of_getElem? (i := 69) rfl) rfl), ⟨tyX3, tyX3_ok⟩, nmX3, rfl, rfl⟩
theorem fX1_9 : FLk RX1 9 1 0 0 := ⟨RX1, TX1, 8, rfl, by decide, rfl, uw1, (inT2 (List.mem_of_getElem? (i := 90) rfl) rfl)⟩
theorem pX1_9 : FPk RX1 9 1 0 0 .int := ⟨RX1, TX1, 8, rfl, by decide, rfl, uw1, (inT2 (List.mem_of_getElem? (i := 90) rfl) rfl), ⟨tyX1, tyX1_ok⟩, nmX1, rfl, rfl⟩
theorem fX0_226 : FLk RX0 226 1 0 0 := ⟨RX1, TX1, 8, rfl, by decide, rfl, uw1, (inT2 (List.mem_of_getElem? (i := 91) rfl) rfl)⟩
theorem pX0_226 : FPk RX0 226 1 0 0 .int := ⟨RX1, TX1, 8, rfl, by decide, rfl, uw1, (inT2 (List.mem_of_getElem? (i := 91) rfl) rfl), ⟨tyX1, tyX1_ok⟩, nmX1, rfl, rfl⟩
theorem fX1_15 : FLk RX1 15 1 1 0 := ⟨RX1, TX1, 8, rfl, by decide, rfl, uw1, (inT2 (List.mem_of_getElem? (i := 92) rfl) rfl)⟩
theorem pX1_15 : FPk RX1 15 1 1 0 .int := ⟨RX1, TX1, 8, rfl, by decide, rfl, uw1, (inT2 (List.mem_of_getElem? (i := 92) rfl) rfl), ⟨tyX1, tyX1_ok⟩, nmX1, rfl, rfl⟩
theorem fX0_181 : FLk RX0 181 1 1 0 := ⟨RX1, TX1, 8, rfl, by decide, rfl, uw1, (inT2 (List.mem_of_getElem? (i := 93) rfl) rfl)⟩
theorem pX0_181 : FPk RX0 181 1 1 0 .int := ⟨RX1, TX1, 8, rfl, by decide, rfl, uw1, (inT2 (List.mem_of_getElem? (i := 93) rfl) rfl), ⟨tyX1, tyX1_ok⟩, nmX1, rfl, rfl⟩
theorem fX1_18 : FLk RX1 18 1 2 0 := ⟨RX1, TX1, 8, rfl, by decide, rfl, uw1, (inT2 (List.mem_of_getElem? (i := 94) rfl) rfl)⟩
theorem pX1_18 : FPk RX1 18 1 2 0 .int := ⟨RX1, TX1, 8, rfl, by decide, rfl, uw1, (inT2 (List.mem_of_getElem? (i := 94) rfl) rfl), ⟨tyX1, tyX1_ok⟩, nmX1, rfl, rfl⟩
theorem fX1_21 : FLk RX1 21 1 3 0 := ⟨RX1, TX1, 8, rfl, by decide, rfl, uw1, (inT2 (List.mem_of_getElem? (i := 95) rfl) rfl)⟩
theorem pX1_21 : FPk RX1 21 1 3 0 .int := ⟨RX1, TX1, 8, rfl, by decide, rfl, uw1, (inT2 (List.mem_of_getElem? (i := 95) rfl) rfl), ⟨tyX1, tyX1_ok⟩, nmX1, rfl, rfl⟩
theorem fX1_24 : FLk RX1 24 1 4 0 := ⟨RX1, TX1, 8, rfl, by decide, rfl, uw1, (inT2 (List.mem_of_getElem? (i := 96) rfl) rfl)⟩
theorem pX1_24 : FPk RX1 24 1 4 0 .int := ⟨RX1, TX1, 8, rfl, by decide, rfl, uw1, (inT2 (List.mem_of_getElem? (i := 96) rfl) rfl), ⟨tyX1, tyX1_ok⟩, nmX1, rfl, rfl⟩
theorem fX0_126 : FLk RX0 126 1 4 0 := ⟨RX1, TX1, 8, rfl, by decide, rfl, uw1, (inT2 (List.mem_of_getElem? (i := 97) rfl) rfl)⟩
theorem pX0_126 : FPk RX0 126 1 4 0 .int := ⟨RX1, TX1, 8, rfl, by decide, rfl, uw1, (inT2 (List.mem_of_getElem? (i := 97) rfl) rfl), ⟨tyX1, tyX1_ok⟩, nmX1, rfl, rfl⟩
theorem fX1_27 : FLk RX1 27 1 5 0 := ⟨RX1, TX1, 8, rfl, by decide, rfl, uw1, (inT2 (List.mem_of_getElem? (i := 98) rfl) rfl)⟩
theorem pX1_27 : FPk RX1 27 1 5 0 .int := ⟨RX1, TX1, 8, rfl, by decide, rfl, uw1, (inT2 (List.mem_of_getElem? (i := 98) rfl) rfl), ⟨tyX1, tyX1_ok⟩, nmX1, rfl, rfl⟩
theorem fX8_95 : FLk RX8 95 1 5 0 := ⟨RX1, TX1, 8, rfl, by decide, rfl, uw1, (inT2 (List.mem_of_getElem? (i := 99) rfl) rfl)⟩
theorem pX8_95 : FPk RX8 95 1 5 0 .int := ⟨RX1, TX1, 8, rfl, by decide, rfl, uw1, (inT2 (List.mem_of_getElem? (i := 99) rfl) rfl), ⟨tyX1, tyX1_ok⟩, nmX1, rfl, rfl⟩
theorem fX10_143 : FLk RX10 143 1 5 0 := ⟨RX1, TX1, 8, rfl, by decide, rfl, uw1, (inT2 (List.mem_of_getElem? (i := 100) rfl) rfl)⟩
theorem pX10_143 : FPk RX10 143 1 5 0 .int := ⟨RX1, TX1, 8, rfl, by decide, rfl, uw1, (inT2 (List.mem_of_getElem? (i := 100) rfl) rfl), ⟨tyX1, tyX1_ok⟩, nmX1, rfl, rfl⟩
theorem fX1_30 : FLk RX1 30 1 6 3 := ⟨RX1, TX1, 8, rfl, by decide, rfl, uw1, (inT2 (List.mem_of_getElem? (i := 101) rfl) rfl)⟩
theorem pX1_30 : FPk RX1 30 1 6 3 .boolean := ⟨RX1, TX1, 8, rfl, by decide, rfl, uw1, (inT2 (List.mem_of_getElem? (i := 101) rfl) rfl), ⟨tyX1, tyX1_ok⟩, nmX1, rfl, rfl⟩
theorem fX0_261 : FLk RX0 261 1 6 3 := ⟨RX1, TX1, 8, rfl, by decide, rfl, uw1, (inT2 (List.mem_of_getElem? (i := 102) rfl) rfl)⟩
theorem pX0_261 : FPk RX0 261 1 6 3 .boolean := ⟨RX1, TX1, 8, rfl, by decide, rfl, uw1, (inT2 (List.mem_of_getElem? (i := 102) rfl) rfl), ⟨tyX1, tyX1_ok⟩, nmX1, rfl, rfl⟩
theorem fX1_34 : FLk RX1 34 1 7 0 := ⟨RX1, TX1, 8, rfl, by decide, rfl, uw1, (inT2 (List.mem_of_getElem? (i := 103) rfl) rfl)⟩
theorem pX1_34 : FPk RX1 34 1 7 0 .int := ⟨RX1, TX1, 8, rfl, by decide, rfl, uw1, (inT2 (List.mem_of_getElem? (i := 103) rfl) rfl), ⟨tyX1, tyX1_ok⟩, nmX1, rfl, rfl⟩
theorem fX8_114 : FLk RX8 114 1 7 0 := ⟨RX1, TX1, 8, rfl, by decide, rfl, uw1, (inT2 (List.mem_of_getElem? (i := 104) rfl) rfl)⟩
theorem pX8_114 : FPk RX8 114 1 7 0 .int := ⟨RX1, TX1, 8, rfl, by decide, rfl, uw1, (inT2 (List.mem_of_getElem? (i := 104) rfl) rfl), ⟨tyX1, tyX1_ok⟩, nmX1, rfl, rfl⟩
theorem fX0_178 : FLk RX0 178 1 7 0 := ⟨RX1, TX1, 8, rfl, by decide, rfl, uw1, (inT2 (List.mem_of_getElem? (i := 105) rfl) rfl)⟩
theorem pX0_178 : FPk RX0 178 1 7 0 .int := ⟨RX1, TX1, 8, rfl, by decide, rfl, uw1, (inT2 (List.mem_of_getElem? (i := 105) rfl) rfl), ⟨tyX1, tyX1_ok⟩, nmX1, rfl, rfl⟩
theorem fX10_140 : FLk RX10 140 1 7 0 := ⟨RX1, TX1, 8, rfl, by decide, rfl, uw1, (inT2 (List.mem_of_getElem? (i := 106) rfl) rfl)⟩
theorem pX10_140 : FPk RX10 140 1 7 0 .int := ⟨RX1, TX1, 8, rfl, by decide, rfl, uw1, (inT2 (List.mem_of_getElem? (i := 106) rfl) rfl), ⟨tyX1, tyX1_ok⟩, nmX1, rfl, rfl⟩
theorem fX0_11 : FLk RX0 11 0 0 2 := ⟨RX0, TX0, 15, rfl, by decide, rfl, uw0, (inT2 (List.mem_of_getElem? (i := 124) rfl) rfl)⟩
theorem fX10_48 : FLk RX10 48 0 0 2 := ⟨RX0, TX0, 15, rfl, by decide, rfl, uw0, (inT2 (List.mem_of_getElem? (i := 125) rfl) rfl)⟩
theorem fX8_60 : FLk RX8 60 0 0 2 := ⟨RX0, TX0, 15, rfl, by decide, rfl, uw0, (inT2 (List.mem_of_getElem? (i := 126) rfl) rfl)⟩
theorem fX0_19 : FLk RX0 19 0 1 2 := ⟨RX0, TX0, 15, rfl, by decide, rfl, uw0, (inT2 (List.mem_of_getElem? (i := 127) rfl) rfl)⟩
theorem fX10_83 : FLk RX10 83 0 1 2 := ⟨RX0, TX0, 15, rfl, by decide, rfl, uw0, (inT2 (List.mem_of_getElem? (i := 128) rfl) rfl)⟩
theorem fX0_25 : FLk RX0 25 0 2 2 := ⟨RX0, TX0, 15, rfl, by decide, rfl, uw0, (inT2 (List.mem_of_getElem? (i := 129) rfl) rfl)⟩
theorem fX8_78 : FLk RX8 78 0 2 2 := ⟨RX0, TX0, 15, rfl, by decide, rfl, uw0, (inT2 (List.mem_of_getElem? (i := 130) rfl) rfl)⟩
theorem fX10_103 : FLk RX10 103 0 2 2 := ⟨RX0, TX0, 15, rfl, by decide, rfl, uw0, (inT2 (List.mem_of_getElem? (i := 131) rfl) rfl)⟩
theorem fX0_31 : FLk RX0 31 0 3 2 := ⟨RX0, TX0, 15, rfl, by decide, rfl, uw0, (inT2 (List.mem_of_getElem? (i := 132) rfl) rfl)⟩
theorem fX8_91 : FLk RX8 91 0 3 2 := ⟨RX0, TX0, 15, rfl, by decide, rfl, uw0, (inT2 (List.mem_of_getElem? (i := 133) rfl) rfl)⟩
theorem fX10_113 : FLk RX10 113 0 3 2 := ⟨RX0, TX0, 15, rfl, by decide, rfl, uw0, (inT2 (List.mem_of_getElem? (i := 134) rfl) rfl)⟩
theorem fX0_35 : FLk RX0 35 0 4 2 := ⟨RX0, TX0, 15, rfl, by decide, rfl, uw0, (inT2 (List.mem_of_getElem? (i := 135) rfl) rfl)⟩
theorem fX0_75 : FLk RX0 75 0 5 0 := ⟨RX0, TX0, 15, rfl, by decide, rfl, uw0, (inT2 (List.mem_of_getElem? (i := 136) rfl) rfl)⟩
theorem pX0_75 : FPk RX0 75 0 5 0 .int := ⟨RX0, TX0, 15, rfl, by decide, rfl, uw0, (inT2 (List.mem_of_getElem? (i := 136) rfl) rfl), ⟨tyX0, tyX0_ok⟩, nmX0, rfl, rfl⟩
theorem fX10_43 : FLk RX10 43 0 5 0 := ⟨RX0, TX0, 15, rfl, by decide, rfl, uw0, (inT2 (List.mem_of_getElem? (i := 137) rfl) rfl)⟩
theorem pX10_43 : FPk RX10 43 0 5 0 .int := ⟨RX0, TX0, 15, rfl, by decide, rfl, uw0, (inT2 (List.mem_of_getElem? (i := 137) rfl) rfl), ⟨tyX0, tyX0_ok⟩, nmX0, rfl, rfl⟩
theorem fX0_82 : FLk RX0 82 0 6 0 := ⟨RX0, TX0, 15, rfl, by decide, rfl, uw0, (inT2 (List.mem_of_getElem? (i := 138) rfl) rfl)⟩
theorem pX0_82 : FPk RX0 82 0 6 0 .int := ⟨RX0, TX0, 15, rfl, by decide, rfl, uw0, (inT2 (List.mem_of_getElem? (i := 138) rfl) rfl), ⟨tyX0, tyX0_ok⟩, nmX0, rfl, rfl⟩
theorem fX10_96 : FLk RX10 96 0 6 0 := ⟨RX0, TX0, 15, rfl, by decide, rfl, uw0, (inT2 (List.mem_of_getElem? (i := 139) rfl) rfl)⟩
theorem pX10_96 : FPk RX10 96 0 6 0 .int := ⟨RX0, TX0, 15, rfl, by decide, rfl, uw0, (inT2 (List.mem_of_getElem? (i := 139) rfl) rfl), ⟨tyX0, tyX0_ok⟩, nmX0, rfl, rfl⟩
theorem fX0_88 : FLk RX0 88 0 7 0 := ⟨RX0, TX0, 15, rfl, by decide, rfl, uw0, (inT2 (List.mem_of_getElem? (i := 140) rfl) rfl)⟩
theorem pX0_88 : FPk RX0 88 0 7 0 .int := ⟨RX0, TX0, 15, rfl, by decide, rfl, uw0, (inT2 (List.mem_of_getElem? (i := 140) rfl) rfl), ⟨tyX0, tyX0_ok⟩, nmX0, rfl, rfl⟩
theorem fX10_100 : FLk RX10 100 0 7 0 := ⟨RX0, TX0, 15, rfl, by decide, rfl, uw0, (inT2 (List.mem_of_getElem? (i := 141) rfl) rfl)⟩
theorem pX10_100 : FPk RX10 100 0 7 0 .int := ⟨RX0, TX0, 15, rfl, by decide, rfl, uw0, (inT2 (List.mem_of_getElem? (i := 141) rfl) rfl), ⟨tyX0, tyX0_ok⟩, nmX0, rfl, rfl⟩
theorem fX0_94 : FLk RX0 94 0 8 0 := ⟨RX0, TX0, 15, rfl, by decide, rfl, uw0, (inT2 (List.mem_of_getElem? (i := 142) rfl) rfl)⟩
theorem pX0_94 : FPk RX0 94 0 8 0 .int := ⟨RX0, TX0, 15, rfl, by decide, rfl, uw0, (inT2 (List.mem_of_getElem? (i := 142) rfl) rfl), ⟨tyX0, tyX0_ok⟩, nmX0, rfl, rfl⟩
theorem fX10_110 : FLk RX10 110 0 8 0 := ⟨RX0, TX0, 15, rfl, by decide, rfl, uw0, (inT2 (List.mem_of_getElem? (i := 143) rfl) rfl)⟩
theorem pX10_110 : FPk RX10 110 0 8 0 .int := ⟨RX0, TX0, 15, rfl, by decide, rfl, uw0, (inT2 (List.mem_of_getElem? (i := 143) rfl) rfl), ⟨tyX0, tyX0_ok⟩, nmX0, rfl, rfl⟩
theorem fX0_42 : FLk RX0 42 0 9 2 := ⟨RX0, TX0, 15, rfl, by decide, rfl, uw0, (inT2 (List.mem_of_getElem? (i := 144) rfl) rfl)⟩
theorem fX10_146 : FLk RX10 146 0 9 2 := ⟨RX0, TX0, 15, rfl, by decide, rfl, uw0, (inT2 (List.mem_of_getElem? (i := 145) rfl) rfl)⟩
theorem fX0_49 : FLk RX0 49 0 10 2 := ⟨RX0, TX0, 15, rfl, by decide, rfl, uw0, (inT2 (List.mem_of_getElem? (i := 146) rfl) rfl)⟩
theorem fX8_125 : FLk RX8 125 0 10 2 := ⟨RX0, TX0, 15, rfl, by decide, rfl, uw0, (inT2 (List.mem_of_getElem? (i := 147) rfl) rfl)⟩
theorem fX10_156 : FLk RX10 156 0 10 2 := ⟨RX0, TX0, 15, rfl, by decide, rfl, uw0, (inT2 (List.mem_of_getElem? (i := 148) rfl) rfl)⟩
theorem fX0_56 : FLk RX0 56 0 11 2 := ⟨RX0, TX0, 15, rfl, by decide, rfl, uw0, (inT2 (List.mem_of_getElem? (i := 149) rfl) rfl)⟩
theorem fX10_213 : FLk RX10 213 0 11 2 := ⟨RX0, TX0, 15, rfl, by decide, rfl, uw0, (inT2 (List.mem_of_getElem? (i := 150) rfl) rfl)⟩
theorem fX0_63 : FLk RX0 63 0 12 2 := ⟨RX0, TX0, 15, rfl, by decide, rfl, uw0, (inT2 (List.mem_of_getElem? (i := 151) rfl) rfl)⟩
theorem fX10_293 : FLk RX10 293 0 12 2 := ⟨RX0, TX0, 15, rfl, by decide, rfl, uw0, (inT2 (List.mem_of_getElem? (i := 152) rfl) rfl)⟩
theorem fX0_67 : FLk RX0 67 0 13 0 := ⟨RX0, TX0, 15, rfl, by decide, rfl, uw0, (inT2 (List.mem_of_getElem? (i := 153) rfl) rfl)⟩
theorem pX0_67 : FPk RX0 67 0 13 0 .int := ⟨RX0, TX0, 15, rfl, by decide, rfl, uw0, (inT2 (List.mem_of_getElem? (i := 153) rfl) rfl), ⟨tyX0, tyX0_ok⟩, nmX0, rfl, rfl⟩
theorem fX10_165 : FLk RX10 165 0 13 0 := ⟨RX0, TX0, 15, rfl, by decide, rfl, uw0, (inT2 (List.mem_of_getElem? (i := 154) rfl) rfl)⟩
theorem pX10_165 : FPk RX10 165 0 13 0 .int := ⟨RX0, TX0, 15, rfl, by decide, rfl, uw0, (inT2 (List.mem_of_getElem? (i := 154) rfl) rfl), ⟨tyX0, tyX0_ok⟩, nmX0, rfl, rfl⟩
theorem fX0_112 : FLk RX0 112 0 14 0 := ⟨RX0, TX0, 15, rfl, by decide, rfl, uw0, (inT2 (List.mem_of_getElem? (i := 155) rfl) rfl)⟩
theorem pX0_112 : FPk RX0 112 0 14 0 .int := ⟨RX0, TX0, 15, rfl, by decide, rfl, uw0, (inT2 (List.mem_of_getElem? (i := 155) rfl) rfl), ⟨tyX0, tyX0_ok⟩, nmX0, rfl, rfl⟩
theorem fX10_168 : FLk RX10 168 0 14 0 := ⟨RX0, TX0, 15, rfl, by decide, rfl, uw0, (inT2 (List.mem_of_getElem? (i := 156) rfl) rfl)⟩
theorem pX10_168 : FPk RX10 168 0 14 0 .int := ⟨RX0, TX0, 15, rfl, by decide, rfl, uw0, (inT2 (List.mem_of_getElem? (i := 156) rfl) rfl), ⟨tyX0, tyX0_ok⟩, nmX0, rfl, rfl⟩
theorem fX7_9 : FLk RX7 9 7 0 2 := ⟨RX7, TX7, 14, rfl, by decide, rfl, uw7, (inT2 (List.mem_of_getElem? (i := 197) rfl) rfl)⟩
theorem fX10_285 : FLk RX10 285 7 0 2 := ⟨RX7, TX7, 14, rfl, by decide, rfl, uw7, (inT2 (List.mem_of_getElem? (i := 198) rfl) rfl)⟩
theorem fX7_94 : FLk RX7 94 7 1 0 := ⟨RX7, TX7, 14, rfl, by decide, rfl, uw7, (inT2 (List.mem_of_getElem? (i := 199) rfl) rfl)⟩
theorem pX7_94 : FPk RX7 94 7 1 0 .int := ⟨RX7, TX7, 14, rfl, by decide, rfl, uw7, (inT2 (List.mem_of_getElem? (i := 199) rfl) rfl), ⟨tyX7, tyX7_ok⟩, nmX7, rfl, rfl⟩
theorem fX10_282 : FLk RX10 282 7 1 0 := ⟨RX7, TX7, 14, rfl, by decide, rfl, uw7, (inT2 (List.mem_of_getElem? (i := 200) rfl) rfl)⟩
theorem pX10_282 : FPk RX10 282 7 1 0 .int := ⟨RX7, TX7, 14, rfl, by decide, rfl, uw7, (inT2 (List.mem_of_getElem? (i := 200) rfl) rfl), ⟨tyX7, tyX7_ok⟩, nmX7, rfl, rfl⟩
theorem fX7_45 : FLk RX7 45 7 2 0 := ⟨RX7, TX7, 14, rfl, by decide, rfl, uw7, (inT2 (List.mem_of_getElem? (i := 201) rfl) rfl)⟩
theorem pX7_45 : FPk RX7 45 7 2 0 .int := ⟨RX7, TX7, 14, rfl, by decide, rfl, uw7, (inT2 (List.mem_of_getElem? (i := 201) rfl) rfl), ⟨tyX7, tyX7_ok⟩, nmX7, rfl, rfl⟩
theorem fX7_15 : FLk RX7 15 7 3 0 := ⟨RX7, TX7, 14, rfl, by decide, rfl, uw7, (inT2 (List.mem_of_getElem? (i := 202) rfl) rfl)⟩
theorem pX7_15 : FPk RX7 15 7 3 0 .int := ⟨RX7, TX7, 14, rfl, by decide, rfl, uw7, (inT2 (List.mem_of_getElem? (i := 202) rfl) rfl), ⟨tyX7, tyX7_ok⟩, nmX7, rfl, rfl⟩
theorem fX7_22 : FLk RX7 22 7 4 2 := ⟨RX7, TX7, 14, rfl, by decide, rfl, uw7, (inT2 (List.mem_of_getElem? (i := 203) rfl) rfl)⟩
theorem fX10_297 : FLk RX10 297 7 4 2 := ⟨RX7, TX7, 14, rfl, by decide, rfl, uw7, (inT2 (List.mem_of_getElem? (i := 204) rfl) rfl)⟩
theorem fX7_26 : FLk RX7 26 7 5 2 := ⟨RX7, TX7, 14, rfl, by decide, rfl, uw7, (inT2 (List.mem_of_getElem? (i := 205) rfl) rfl)⟩
theorem fX7_30 : FLk RX7 30 7 6 2 := ⟨RX7, TX7, 14, rfl, by decide, rfl, uw7, (inT2 (List.mem_of_getElem? (i := 206) rfl) rfl)⟩
theorem fX7_33 : FLk RX7 33 7 7 2 := ⟨RX7, TX7, 14, rfl, by decide, rfl, uw7, (inT2 (List.mem_of_getElem? (i := 207) rfl) rfl)⟩
theorem fX7_77 : FLk RX7 77 7 8 0 := ⟨RX7, TX7, 14, rfl, by decide, rfl, uw7, (inT2 (List.mem_of_getElem? (i := 208) rfl) rfl)⟩
theorem pX7_77 : FPk RX7 77 7 8 0 .int := ⟨RX7, TX7, 14, rfl, by decide, rfl, uw7, (inT2 (List.mem_of_getElem? (i := 208) rfl) rfl), ⟨tyX7, tyX7_ok⟩, nmX7, rfl, rfl⟩
theorem fX7_57 : FLk RX7 57 7 9 0 := ⟨RX7, TX7, 14, rfl, by decide, rfl, uw7, (inT2 (List.mem_of_getElem? (i := 209) rfl) rfl)⟩
theorem pX7_57 : FPk RX7 57 7 9 0 .int := ⟨RX7, TX7, 14, rfl, by decide, rfl, uw7, (inT2 (List.mem_of_getElem? (i := 209) rfl) rfl), ⟨tyX7, tyX7_ok⟩, nmX7, rfl, rfl⟩
theorem fX7_36 : FLk RX7 36 7 10 0 := ⟨RX7, TX7, 14, rfl, by decide, rfl, uw7, (inT2 (List.mem_of_getElem? (i := 210) rfl) rfl)⟩
theorem pX7_36 : FPk RX7 36 7 10 0 .int := ⟨RX7, TX7, 14, rfl, by decide, rfl, uw7, (inT2 (List.mem_of_getElem? (i := 210) rfl) rfl), ⟨tyX7, tyX7_ok⟩, nmX7, rfl, rfl⟩
theorem fX7_39 : FLk RX7 39 7 11 0 := ⟨RX7, TX7, 14, rfl, by decide, rfl, uw7, (inT2 (List.mem_of_getElem? (i := 211) rfl) rfl)⟩
theorem pX7_39 : FPk RX7 39 7 11 0 .int := ⟨RX7, TX7, 14, rfl, by decide, rfl, uw7, (inT2 (List.mem_of_getElem? (i := 211) rfl) rfl), ⟨tyX7, tyX7_ok⟩, nmX7, rfl, rfl⟩
theorem fX7_42 : FLk RX7 42 7 12 0 := ⟨RX7, TX7, 14, rfl, by decide, rfl, uw7, (inT2 (List.mem_of_getElem? (i := 212) rfl) rfl)⟩
theorem pX7_42 : FPk RX7 42 7 12 0 .int := ⟨RX7, TX7, 14, rfl, by decide, rfl, uw7, (inT2 (List.mem_of_getElem? (i := 212) rfl) rfl), ⟨tyX7, tyX7_ok⟩, nmX7, rfl, rfl⟩
theorem fX7_155 : FLk RX7 155 7 13 0 := ⟨RX7, TX7, 14, rfl, by decide, rfl, uw7, (inT2 (List.mem_of_getElem? (i := 213) rfl) rfl)⟩
theorem pX7_155 : FPk RX7 155 7 13 0 .int := ⟨RX7, TX7, 14, rfl, by decide, rfl, uw7, (inT2 (List.mem_of_getElem? (i := 213) rfl) rfl), ⟨tyX7, tyX7_ok⟩, nmX7, rfl, rfl⟩
theorem fX10_10 : FLk RX10 10 10 0 2 := ⟨RX10, TX10, 5, rfl, by decide, rfl, uw10, (inT3 (List.mem_of_getElem? (i := 5) rfl) rfl)⟩
theorem fX10_16 : FLk RX10 16 10 1 2 := ⟨RX10, TX10, 5, rfl, by decide, rfl, uw10, (inT3 (List.mem_of_getElem? (i := 6) rfl) rfl)⟩
theorem fX10_19 : FLk RX10 19 10 2 2 := ⟨RX10, TX10, 5, rfl, by decide, rfl, uw10, (inT3 (List.mem_of_getElem? (i := 7) rfl) rfl)⟩
theorem fX10_23 : FLk RX10 23 10 3 2 := ⟨RX10, TX10, 5, rfl, by decide, rfl, uw10, (inT3 (List.mem_of_getElem? (i := 8) rfl) rfl)⟩
theorem fX10_30 : FLk RX10 30 10 4 2 := ⟨RX10, TX10, 5, rfl, by decide, rfl, uw10, (inT3 (List.mem_of_getElem? (i := 9) rfl) rfl)⟩
theorem fL_10 : LGk RL 10 11 0 := ⟨RL, TL, 6, rfl, by decide, uw11, (inT3 (List.mem_of_getElem? (i := 21) rfl) rfl)⟩
theorem pL_10 : LPk RL 10 11 0 (.object "LouvreCraft") true := ⟨RL, TL, 6, rfl, by decide, uw11, (inT3 (List.mem_of_getElem? (i := 21) rfl) rfl), ⟨tyL, tyL_ok⟩, nmL, rfl, rfl, fun _ => rfl⟩
theorem fL_28 : LGk RL 28 11 1 := ⟨RL, TL, 6, rfl, by decide, uw11, (inT3 (List.mem_of_getElem? (i := 22) rfl) rfl)⟩
theorem pL_28 : LPk RL 28 11 1 (.array .int) false := ⟨RL, TL, 6, rfl, by decide, uw11, (inT3 (List.mem_of_getElem? (i := 22) rfl) rfl), ⟨tyL, tyL_ok⟩, nmL, rfl, rfl, fun h => by cases h⟩
theorem fL_31 : LGk RL 31 11 2 := ⟨RL, TL, 6, rfl, by decide, uw11, (inT3 (List.mem_of_getElem? (i := 23) rfl) rfl)⟩
theorem pL_31 : LPk RL 31 11 2 .int false := ⟨RL, TL, 6, rfl, by decide, uw11, (inT3 (List.mem_of_getElem? (i := 23) rfl) rfl), ⟨tyL, tyL_ok⟩, nmL, rfl, rfl, fun h => by cases h⟩
theorem fL_16 : LGk RL 16 11 3 := ⟨RL, TL, 6, rfl, by decide, uw11, (inT3 (List.mem_of_getElem? (i := 24) rfl) rfl)⟩
theorem pL_16 : LPk RL 16 11 3 (.array .int) false := ⟨RL, TL, 6, rfl, by decide, uw11, (inT3 (List.mem_of_getElem? (i := 24) rfl) rfl), ⟨tyL, tyL_ok⟩, nmL, rfl, rfl, fun h => by cases h⟩
theorem fL_20 : LGk RL 20 11 4 := ⟨RL, TL, 6, rfl, by decide, uw11, (inT3 (List.mem_of_getElem? (i := 25) rfl) rfl)⟩
theorem pL_20 : LPk RL 20 11 4 (.array .int) false := ⟨RL, TL, 6, rfl, by decide, uw11, (inT3 (List.mem_of_getElem? (i := 25) rfl) rfl), ⟨tyL, tyL_ok⟩, nmL, rfl, rfl, fun h => by cases h⟩
theorem fL_23 : LGk RL 23 11 5 := ⟨RL, TL, 6, rfl, by decide, uw11, (inT3 (List.mem_of_getElem? (i := 26) rfl) rfl)⟩
theorem pL_23 : LPk RL 23 11 5 (.array .int) false := ⟨RL, TL, 6, rfl, by decide, uw11, (inT3 (List.mem_of_getElem? (i := 26) rfl) rfl), ⟨tyL, tyL_ok⟩, nmL, rfl, rfl, fun h => by cases h⟩
theorem sJ0_38 : Cond.fieldLink RJ0 38 "java/lang/String" "COMPACT_STRINGS" "Z" ∈ tbG := (inT4 (List.mem_of_getElem? (i := 21) rfl) rfl)
theorem sJ0_1053 : Cond.fieldLink RJ0 1053 "jdk/internal/util/Preconditions" "SIOOBE_FORMATTER" "Ljava/util/function/BiFunction;" ∈ tbG := (inT4 (List.mem_of_getElem? (i := 37) rfl) rfl)
theorem sJ2_44 : Cond.fieldLink RJ2 44 "java/lang/StringUTF16" "$assertionsDisabled" "Z" ∈ tbG := (inT4 (List.mem_of_getElem? (i := 55) rfl) rfl)
theorem sJ2_59 : Cond.fieldLink RJ2 59 "java/lang/StringUTF16" "HI_BYTE_SHIFT" "I" ∈ tbG := (inT4 (List.mem_of_getElem? (i := 57) rfl) rfl)
theorem sJ2_63 : Cond.fieldLink RJ2 63 "java/lang/StringUTF16" "LO_BYTE_SHIFT" "I" ∈ tbG := (inT4 (List.mem_of_getElem? (i := 59) rfl) rfl)
theorem sJ5_18 : Cond.fieldLink RJ5 18 "java/lang/String" "COMPACT_STRINGS" "Z" ∈ tbG := (inT5 (List.mem_of_getElem? (i := 208) rfl) rfl)
theorem fJ5_15 : LGk RJ5 15 12 0 := ⟨RJ4, TJ4, 4, rfl, by decide, uw12, (inT5 (List.mem_of_getElem? (i := 216) rfl) rfl)⟩
theorem pJ5_15 : LPk RJ5 15 12 0 (.array .byte) false := ⟨RJ4, TJ4, 4, rfl, by decide, uw12, (inT5 (List.mem_of_getElem? (i := 216) rfl) rfl), ⟨tyJ4, tyJ4_ok⟩, nmJ4, rfl, rfl, fun h => by cases h⟩
theorem fJ5_22 : LGk RJ5 22 12 1 := ⟨RJ4, TJ4, 4, rfl, by decide, uw12, (inT5 (List.mem_of_getElem? (i := 217) rfl) rfl)⟩
theorem pJ5_22 : LPk RJ5 22 12 1 .byte false := ⟨RJ4, TJ4, 4, rfl, by decide, uw12, (inT5 (List.mem_of_getElem? (i := 217) rfl) rfl), ⟨tyJ4, tyJ4_ok⟩, nmJ4, rfl, rfl, fun h => by cases h⟩
theorem fJ0_1048 : LGk RJ0 1048 12 2 := ⟨RJ4, TJ4, 4, rfl, by decide, uw12, (inT5 (List.mem_of_getElem? (i := 218) rfl) rfl)⟩
theorem pJ0_1048 : LPk RJ0 1048 12 2 .boolean false := ⟨RJ4, TJ4, 4, rfl, by decide, uw12, (inT5 (List.mem_of_getElem? (i := 218) rfl) rfl), ⟨tyJ4, tyJ4_ok⟩, nmJ4, rfl, rfl, fun h => by cases h⟩
theorem fJ5_79 : LGk RJ5 79 12 3 := ⟨RJ4, TJ4, 4, rfl, by decide, uw12, (inT5 (List.mem_of_getElem? (i := 219) rfl) rfl)⟩
theorem pJ5_79 : LPk RJ5 79 12 3 .int false := ⟨RJ4, TJ4, 4, rfl, by decide, uw12, (inT5 (List.mem_of_getElem? (i := 219) rfl) rfl), ⟨tyJ4, tyJ4_ok⟩, nmJ4, rfl, rfl, fun h => by cases h⟩
theorem sJ6_83 : Cond.fieldLink RJ6 83 "java/lang/Integer" "DigitOnes" "[B" ∈ tbG := (inT6 (List.mem_of_getElem? (i := 89) rfl) rfl)
theorem sJ6_87 : Cond.fieldLink RJ6 87 "java/lang/Integer" "DigitTens" "[B" ∈ tbG := (inT6 (List.mem_of_getElem? (i := 91) rfl) rfl)
theorem sJ2_403 : Cond.fieldLink RJ2 403 "java/lang/Integer" "DigitOnes" "[B" ∈ tbG := (inT6 (List.mem_of_getElem? (i := 99) rfl) rfl)
theorem sJ2_407 : Cond.fieldLink RJ2 407 "java/lang/Integer" "DigitTens" "[B" ∈ tbG := (inT6 (List.mem_of_getElem? (i := 100) rfl) rfl)
theorem fJ0_9 : LGk RJ0 9 13 0 := ⟨RJ0, TJ0, 4, rfl, by decide, uw13, (inT6 (List.mem_of_getElem? (i := 149) rfl) rfl)⟩
theorem pJ0_9 : LPk RJ0 9 13 0 (.array .byte) true := ⟨RJ0, TJ0, 4, rfl, by decide, uw13, (inT6 (List.mem_of_getElem? (i := 149) rfl) rfl), ⟨tyJ0, tyJ0_ok⟩, nmJ0, rfl, rfl, fun _ => rfl⟩
theorem fJ0_15 : LGk RJ0 15 13 1 := ⟨RJ0, TJ0, 4, rfl, by decide, uw13, (inT6 (List.mem_of_getElem? (i := 150) rfl) rfl)⟩
theorem pJ0_15 : LPk RJ0 15 13 1 .byte true := ⟨RJ0, TJ0, 4, rfl, by decide, uw13, (inT6 (List.mem_of_getElem? (i := 150) rfl) rfl), ⟨tyJ0, tyJ0_ok⟩, nmJ0, rfl, rfl, fun _ => rfl⟩
theorem ML_229 : MLi RL 229 μL_init 0 := ⟨⟨(inT1 (List.mem_of_getElem? (i := 27) rfl) rfl), (inT1 (List.mem_of_getElem? (i := 0) rfl) rfl), kμL_init, ⟨by decide, by decide, by decide +kernel⟩, by decide⟩, (inT1 (List.mem_of_getElem? (i := 28) rfl) rfl), rfl, rfl⟩
theorem OL_1 : Cond.methodLink RL 1 Lib.objectInit ∈ tbG := (inT1 (List.mem_of_getElem? (i := 30) rfl) rfl)
theorem ML_9 : MLi RL 9 μX10_init 0 := ⟨⟨(inT1 (List.mem_of_getElem? (i := 35) rfl) rfl), (inT1 (List.mem_of_getElem? (i := 1) rfl) rfl), kμX10_init, ⟨by decide, by decide, by decide +kernel⟩, by decide⟩, (inT1 (List.mem_of_getElem? (i := 36) rfl) rfl), rfl, rfl⟩
theorem OX10_1 : Cond.methodLink RX10 1 Lib.objectInit ∈ tbG := (inT1 (List.mem_of_getElem? (i := 38) rfl) rfl)
theorem MX10_9 : MLi RX10 9 μX0_init 0 := ⟨⟨(inT1 (List.mem_of_getElem? (i := 41) rfl) rfl), (inT1 (List.mem_of_getElem? (i := 2) rfl) rfl), kμX0_init, ⟨by decide, by decide, by decide +kernel⟩, by decide⟩, (inT1 (List.mem_of_getElem? (i := 42) rfl) rfl), rfl, rfl⟩
theorem OX0_3 : Cond.methodLink RX0 3 Lib.objectInit ∈ tbG := (inT1 (List.mem_of_getElem? (i := 44) rfl) rfl)
theorem MX0_41 : MLi RX0 41 μX5_init 0 := ⟨⟨(inT1 (List.mem_of_getElem? (i := 55) rfl) rfl), (inT1 (List.mem_of_getElem? (i := 3) rfl) rfl), kμX5_init, ⟨by decide, by decide, by decide +kernel⟩, by decide⟩, (inT1 (List.mem_of_getElem? (i := 56) rfl) rfl), rfl, rfl⟩
theorem OX5_1 : Cond.methodLink RX5 1 Lib.objectInit ∈ tbG := (inT1 (List.mem_of_getElem? (i := 58) rfl) rfl)
theorem MX0_48 : NLi RX0 48 μX9_init 0 "LouvreCraft" := ⟨⟨(inL1 (List.mem_of_getElem? (i := 84) rfl)), (inT1 (List.mem_of_getElem? (i := 4) rfl) rfl), kμX9_init, ⟨by decide, by decide, by decide +kernel⟩, by decide⟩, (inT1 (List.mem_of_getElem? (i := 85) rfl) rfl), rfl, rfl⟩
theorem OX9_1 : Cond.methodLink RX9 1 Lib.objectInit ∈ tbG := (inT1 (List.mem_of_getElem? (i := 87) rfl) rfl)
theorem MX0_55 : NLi RX0 55 μX6_init 0 "LouvreCraft" := ⟨⟨(inL1 (List.mem_of_getElem? (i := 109) rfl)), (inT1 (List.mem_of_getElem? (i := 5) rfl) rfl), kμX6_init, ⟨by decide, by decide, by decide +kernel⟩, by decide⟩, (inT1 (List.mem_of_getElem? (i := 110) rfl) rfl), rfl, rfl⟩
theorem OX6_3 : Cond.methodLink RX6 3 Lib.objectInit ∈ tbG := (inT1 (List.mem_of_getElem? (i := 112) rfl) rfl)
theorem MX0_62 : NLi RX0 62 μX8_init 0 "LouvreCraft" := ⟨⟨(inL1 (List.mem_of_getElem? (i := 143) rfl)), (inT1 (List.mem_of_getElem? (i := 6) rfl) rfl), kμX8_init, ⟨by decide, by decide, by decide +kernel⟩, by decide⟩, (inT1 (List.mem_of_getElem? (i := 144) rfl) rfl), rfl, rfl⟩
theorem OX8_3 : Cond.methodLink RX8 3 Lib.objectInit ∈ tbG := (inT1 (List.mem_of_getElem? (i := 146) rfl) rfl)
theorem MX0_71 : NLi RX0 71 μX4_init 0 "LouvreCraft" := ⟨⟨(inL1 (List.mem_of_getElem? (i := 189) rfl)), (inT1 (List.mem_of_getElem? (i := 7) rfl) rfl), kμX4_init, ⟨by decide, by decide, by decide +kernel⟩, by decide⟩, (inT1 (List.mem_of_getElem? (i := 190) rfl) rfl), rfl, rfl⟩
theorem OX4_3 : Cond.methodLink RX4 3 Lib.objectInit ∈ tbG := (inT1 (List.mem_of_getElem? (i := 192) rfl) rfl)
theorem MX0_72 : NLi RX0 72 μX2_init 0 "LouvreCraft" := ⟨⟨(inL2 (List.mem_of_getElem? (i := 30) rfl)), (inT1 (List.mem_of_getElem? (i := 8) rfl) rfl), kμX2_init, ⟨by decide, by decide, by decide +kernel⟩, by decide⟩, (inT2 (List.mem_of_getElem? (i := 31) rfl) rfl), rfl, rfl⟩
theorem OX2_1 : Cond.methodLink RX2 1 Lib.objectInit ∈ tbG := (inT2 (List.mem_of_getElem? (i := 33) rfl) rfl)
theorem MX0_73 : NLi RX0 73 μX3_init 0 "LouvreCraft" := ⟨⟨(inL2 (List.mem_of_getElem? (i := 49) rfl)), (inT1 (List.mem_of_getElem? (i := 9) rfl) rfl), kμX3_init, ⟨by decide, by decide, by decide +kernel⟩, by decide⟩, (inT2 (List.mem_of_getElem? (i := 50) rfl) rfl), rfl, rfl⟩
theorem OX3_1 : Cond.methodLink RX3 1 Lib.objectInit ∈ tbG := (inT2 (List.mem_of_getElem? (i := 52) rfl) rfl)
theorem MX0_74 : NLi RX0 74 μX1_init 0 "LouvreCraft" := ⟨⟨(inL2 (List.mem_of_getElem? (i := 86) rfl)), (inT1 (List.mem_of_getElem? (i := 10) rfl) rfl), kμX1_init, ⟨by decide, by decide, by decide +kernel⟩, by decide⟩, (inT2 (List.mem_of_getElem? (i := 87) rfl) rfl), rfl, rfl⟩
theorem OX1_3 : Cond.methodLink RX1 3 Lib.objectInit ∈ tbG := (inT2 (List.mem_of_getElem? (i := 89) rfl) rfl)
theorem MX10_29 : NLi RX10 29 μX7_init 0 "LouvreCraft" := ⟨⟨(inL2 (List.mem_of_getElem? (i := 191) rfl)), (inT1 (List.mem_of_getElem? (i := 11) rfl) rfl), kμX7_init, ⟨by decide, by decide, by decide +kernel⟩, by decide⟩, (inT2 (List.mem_of_getElem? (i := 192) rfl) rfl), rfl, rfl⟩
theorem OX7_3 : Cond.methodLink RX7 3 Lib.objectInit ∈ tbG := (inT2 (List.mem_of_getElem? (i := 194) rfl) rfl)
theorem MX7_21 : NLi RX7 21 μX8_init 0 "LouvreCraft" := ⟨⟨(inL2 (List.mem_of_getElem? (i := 196) rfl)), (inT1 (List.mem_of_getElem? (i := 6) rfl) rfl), kμX8_init, ⟨by decide, by decide, by decide +kernel⟩, by decide⟩, (inT1 (List.mem_of_getElem? (i := 144) rfl) rfl), rfl, rfl⟩
theorem ML_230 : MLv RL 230 μL_flies 1 := ⟨⟨(inT3 (List.mem_of_getElem? (i := 40) rfl) rfl), (inT1 (List.mem_of_getElem? (i := 0) rfl) rfl), kμL_flies, ⟨by decide, by decide, by decide +kernel⟩, by decide⟩, (inT3 (List.mem_of_getElem? (i := 42) rfl) rfl), (inP1 (List.mem_of_getElem? (i := 0) rfl))⟩
theorem ML_234 : MLv RL 234 μL_builds 0 := ⟨⟨(inT3 (List.mem_of_getElem? (i := 44) rfl) rfl), (inT1 (List.mem_of_getElem? (i := 0) rfl) rfl), kμL_builds, ⟨by decide, by decide, by decide +kernel⟩, by decide⟩, (inT3 (List.mem_of_getElem? (i := 46) rfl) rfl), (inP1 (List.mem_of_getElem? (i := 1) rfl))⟩
theorem ML_65 : MLv RL 65 μL_draw 1 := ⟨⟨(inT3 (List.mem_of_getElem? (i := 48) rfl) rfl), (inT1 (List.mem_of_getElem? (i := 0) rfl) rfl), kμL_draw, ⟨by decide, by decide, by decide +kernel⟩, by decide⟩, (inT3 (List.mem_of_getElem? (i := 50) rfl) rfl), (inP1 (List.mem_of_getElem? (i := 2) rfl))⟩
theorem AL_35 : MA RL 35 Lib.Math.max.name Lib.Math.max.code 2 (some .int) := ⟨(inT3 (List.mem_of_getElem? (i := 52) rfl) rfl), (inT3 (List.mem_of_getElem? (i := 53) rfl) rfl), (inT1 (List.mem_of_getElem? (i := 12) rfl) rfl), (inT3 (List.mem_of_getElem? (i := 54) rfl) rfl)⟩
theorem ML_41 : MLs RL 41 μL_at 2 := ⟨⟨(inT3 (List.mem_of_getElem? (i := 55) rfl) rfl), (inT1 (List.mem_of_getElem? (i := 0) rfl) rfl), kμL_at, ⟨by decide, by decide, by decide +kernel⟩, by decide⟩, (inT3 (List.mem_of_getElem? (i := 56) rfl) rfl)⟩
theorem kL_26 : Cond.constant RL 26 (-1640531535 : Int32) ∈ tbG := (inT3 (List.mem_of_getElem? (i := 58) rfl) rfl)
theorem kL_27 : Cond.constant RL 27 (-2048144789 : Int32) ∈ tbG := (inT3 (List.mem_of_getElem? (i := 59) rfl) rfl)
theorem kL_45 : Cond.constant RL 45 (668265263 : Int32) ∈ tbG := (inT3 (List.mem_of_getElem? (i := 60) rfl) rfl)
theorem kL_46 : Cond.constant RL 46 (739982445 : Int32) ∈ tbG := (inT3 (List.mem_of_getElem? (i := 61) rfl) rfl)
theorem kL_47 : Cond.constant RL 47 (2147483647 : Int32) ∈ tbG := (inT3 (List.mem_of_getElem? (i := 62) rfl) rfl)
theorem kL_68 : Cond.constant RL 68 (60001 : Int32) ∈ tbG := (inT3 (List.mem_of_getElem? (i := 63) rfl) rfl)
theorem ML_69 : MLv RL 69 μX10_addNode 5 := ⟨⟨(inT3 (List.mem_of_getElem? (i := 64) rfl) rfl), (inT1 (List.mem_of_getElem? (i := 1) rfl) rfl), kμX10_addNode, ⟨by decide, by decide, by decide +kernel⟩, by decide⟩, (inT3 (List.mem_of_getElem? (i := 65) rfl) rfl), (inT3 (List.mem_of_getElem? (i := 66) rfl) rfl)⟩
theorem kX10_34 : Cond.constant RX10 34 (100000 : Int32) ∈ tbG := (inT3 (List.mem_of_getElem? (i := 68) rfl) rfl)
theorem MX10_35 : MLs RX10 35 μX10_within 3 := ⟨⟨(inT3 (List.mem_of_getElem? (i := 69) rfl) rfl), (inT1 (List.mem_of_getElem? (i := 1) rfl) rfl), kμX10_within, ⟨by decide, by decide, by decide +kernel⟩, by decide⟩, (inT3 (List.mem_of_getElem? (i := 70) rfl) rfl)⟩
theorem kX10_39 : Cond.constant RX10 39 (-200000 : Int32) ∈ tbG := (inT3 (List.mem_of_getElem? (i := 72) rfl) rfl)
theorem kX10_40 : Cond.constant RX10 40 (200000 : Int32) ∈ tbG := (inT3 (List.mem_of_getElem? (i := 73) rfl) rfl)
theorem kX10_41 : Cond.constant RX10 41 (1000000 : Int32) ∈ tbG := (inT3 (List.mem_of_getElem? (i := 74) rfl) rfl)
theorem kX10_42 : Cond.constant RX10 42 (-1000000002 : Int32) ∈ tbG := (inT3 (List.mem_of_getElem? (i := 75) rfl) rfl)
theorem kX10_47 : Cond.constant RX10 47 (-1000000003 : Int32) ∈ tbG := (inT3 (List.mem_of_getElem? (i := 76) rfl) rfl)
theorem MX10_52 : MLv RX10 52 μX4_begin 5 := ⟨⟨(inT3 (List.mem_of_getElem? (i := 77) rfl) rfl), (inT1 (List.mem_of_getElem? (i := 7) rfl) rfl), kμX4_begin, ⟨by decide, by decide, by decide +kernel⟩, by decide⟩, (inT3 (List.mem_of_getElem? (i := 78) rfl) rfl), (inT3 (List.mem_of_getElem? (i := 79) rfl) rfl)⟩
theorem kX4_27 : Cond.constant RX4 27 (-200000 : Int32) ∈ tbG := (inT3 (List.mem_of_getElem? (i := 81) rfl) rfl)
theorem kX4_31 : Cond.constant RX4 31 (200000 : Int32) ∈ tbG := (inT3 (List.mem_of_getElem? (i := 82) rfl) rfl)
theorem MX4_35 : MLv RX4 35 μX4_beginRecords 0 := ⟨⟨(inT3 (List.mem_of_getElem? (i := 83) rfl) rfl), (inT1 (List.mem_of_getElem? (i := 7) rfl) rfl), kμX4_beginRecords, ⟨by decide, by decide, by decide +kernel⟩, by decide⟩, (inT3 (List.mem_of_getElem? (i := 84) rfl) rfl), (inT3 (List.mem_of_getElem? (i := 85) rfl) rfl)⟩
theorem ML_73 : MLv RL 73 μX10_linkCount 0 := ⟨⟨(inT3 (List.mem_of_getElem? (i := 87) rfl) rfl), (inT1 (List.mem_of_getElem? (i := 1) rfl) rfl), kμX10_linkCount, ⟨by decide, by decide, by decide +kernel⟩, by decide⟩, (inT3 (List.mem_of_getElem? (i := 88) rfl) rfl), (inT3 (List.mem_of_getElem? (i := 89) rfl) rfl)⟩
theorem ML_76 : MLv RL 76 μX10_link 3 := ⟨⟨(inT3 (List.mem_of_getElem? (i := 91) rfl) rfl), (inT1 (List.mem_of_getElem? (i := 1) rfl) rfl), kμX10_link, ⟨by decide, by decide, by decide +kernel⟩, by decide⟩, (inT3 (List.mem_of_getElem? (i := 92) rfl) rfl), (inT3 (List.mem_of_getElem? (i := 93) rfl) rfl)⟩
theorem MX10_58 : MLv RX10 58 μX0_hasNode 1 := ⟨⟨(inT3 (List.mem_of_getElem? (i := 95) rfl) rfl), (inT1 (List.mem_of_getElem? (i := 2) rfl) rfl), kμX0_hasNode, ⟨by decide, by decide, by decide +kernel⟩, by decide⟩, (inT3 (List.mem_of_getElem? (i := 96) rfl) rfl), (inT3 (List.mem_of_getElem? (i := 97) rfl) rfl)⟩
theorem kX10_62 : Cond.constant RX10 62 (-1000000001 : Int32) ∈ tbG := (inT3 (List.mem_of_getElem? (i := 99) rfl) rfl)
theorem MX10_75 : MLv RX10 75 μX0_placeOfLink 2 := ⟨⟨(inT3 (List.mem_of_getElem? (i := 100) rfl) rfl), (inT1 (List.mem_of_getElem? (i := 2) rfl) rfl), kμX0_placeOfLink, ⟨by decide, by decide, by decide +kernel⟩, by decide⟩, (inT3 (List.mem_of_getElem? (i := 101) rfl) rfl), (inT3 (List.mem_of_getElem? (i := 102) rfl) rfl)⟩
theorem MX10_79 : MLv RX10 79 μX0_makeLink 3 := ⟨⟨(inT3 (List.mem_of_getElem? (i := 104) rfl) rfl), (inT1 (List.mem_of_getElem? (i := 2) rfl) rfl), kμX0_makeLink, ⟨by decide, by decide, by decide +kernel⟩, by decide⟩, (inT3 (List.mem_of_getElem? (i := 105) rfl) rfl), (inT3 (List.mem_of_getElem? (i := 106) rfl) rfl)⟩
theorem kX0_121 : Cond.constant RX0 121 (-1000000003 : Int32) ∈ tbG := (inT3 (List.mem_of_getElem? (i := 108) rfl) rfl)
theorem MX0_122 : MLv RX0 122 μX2_begin 3 := ⟨⟨(inT3 (List.mem_of_getElem? (i := 109) rfl) rfl), (inT1 (List.mem_of_getElem? (i := 8) rfl) rfl), kμX2_begin, ⟨by decide, by decide, by decide +kernel⟩, by decide⟩, (inT3 (List.mem_of_getElem? (i := 110) rfl) rfl), (inT3 (List.mem_of_getElem? (i := 111) rfl) rfl)⟩
theorem MX10_92 : MLv RX10 92 μX0_dropLink 1 := ⟨⟨(inT3 (List.mem_of_getElem? (i := 113) rfl) rfl), (inT1 (List.mem_of_getElem? (i := 2) rfl) rfl), kμX0_dropLink, ⟨by decide, by decide, by decide +kernel⟩, by decide⟩, (inT3 (List.mem_of_getElem? (i := 114) rfl) rfl), (inT3 (List.mem_of_getElem? (i := 115) rfl) rfl)⟩
theorem MX0_85 : MLv RX0 85 μX2_copyFrom 1 := ⟨⟨(inT3 (List.mem_of_getElem? (i := 117) rfl) rfl), (inT1 (List.mem_of_getElem? (i := 8) rfl) rfl), kμX2_copyFrom, ⟨by decide, by decide, by decide +kernel⟩, by decide⟩, (inT3 (List.mem_of_getElem? (i := 118) rfl) rfl), (inT3 (List.mem_of_getElem? (i := 119) rfl) rfl)⟩
theorem MX2_19 : MLv RX2 19 μX2_begin 3 := ⟨⟨(inT3 (List.mem_of_getElem? (i := 121) rfl) rfl), (inT1 (List.mem_of_getElem? (i := 8) rfl) rfl), kμX2_begin, ⟨by decide, by decide, by decide +kernel⟩, by decide⟩, (inT3 (List.mem_of_getElem? (i := 110) rfl) rfl), (inT3 (List.mem_of_getElem? (i := 111) rfl) rfl)⟩
theorem ML_80 : MLv RL 80 μX10_conductance 2 := ⟨⟨(inT3 (List.mem_of_getElem? (i := 122) rfl) rfl), (inT1 (List.mem_of_getElem? (i := 1) rfl) rfl), kμX10_conductance, ⟨by decide, by decide, by decide +kernel⟩, by decide⟩, (inT3 (List.mem_of_getElem? (i := 123) rfl) rfl), (inT3 (List.mem_of_getElem? (i := 124) rfl) rfl)⟩
theorem ML_83 : MLv RL 83 μX10_addLouvre 5 := ⟨⟨(inT3 (List.mem_of_getElem? (i := 126) rfl) rfl), (inT1 (List.mem_of_getElem? (i := 1) rfl) rfl), kμX10_addLouvre, ⟨by decide, by decide, by decide +kernel⟩, by decide⟩, (inT3 (List.mem_of_getElem? (i := 127) rfl) rfl), (inT3 (List.mem_of_getElem? (i := 128) rfl) rfl)⟩
theorem kX10_99 : Cond.constant RX10 99 (199999 : Int32) ∈ tbG := (inT3 (List.mem_of_getElem? (i := 130) rfl) rfl)
theorem MX10_107 : MLv RX10 107 μX3_begin 5 := ⟨⟨(inT3 (List.mem_of_getElem? (i := 131) rfl) rfl), (inT1 (List.mem_of_getElem? (i := 9) rfl) rfl), kμX3_begin, ⟨by decide, by decide, by decide +kernel⟩, by decide⟩, (inT3 (List.mem_of_getElem? (i := 132) rfl) rfl), (inT3 (List.mem_of_getElem? (i := 133) rfl) rfl)⟩
theorem ML_86 : MLv RL 86 μX10_addHeater 5 := ⟨⟨(inT3 (List.mem_of_getElem? (i := 135) rfl) rfl), (inT1 (List.mem_of_getElem? (i := 1) rfl) rfl), kμX10_addHeater, ⟨by decide, by decide, by decide +kernel⟩, by decide⟩, (inT3 (List.mem_of_getElem? (i := 136) rfl) rfl), (inT3 (List.mem_of_getElem? (i := 137) rfl) rfl)⟩
theorem MX10_117 : MLv RX10 117 μX1_begin 5 := ⟨⟨(inT3 (List.mem_of_getElem? (i := 139) rfl) rfl), (inT1 (List.mem_of_getElem? (i := 10) rfl) rfl), kμX1_begin, ⟨by decide, by decide, by decide +kernel⟩, by decide⟩, (inT3 (List.mem_of_getElem? (i := 140) rfl) rfl), (inT3 (List.mem_of_getElem? (i := 141) rfl) rfl)⟩
theorem MX10_120 : MLv RX10 120 μX0_rankHeater 1 := ⟨⟨(inT3 (List.mem_of_getElem? (i := 143) rfl) rfl), (inT1 (List.mem_of_getElem? (i := 2) rfl) rfl), kμX0_rankHeater, ⟨by decide, by decide, by decide +kernel⟩, by decide⟩, (inT3 (List.mem_of_getElem? (i := 144) rfl) rfl), (inT3 (List.mem_of_getElem? (i := 145) rfl) rfl)⟩
theorem YX0_129 : Cond.methodLink RX0 129 arraycopyName ∈ tbG := (inT3 (List.mem_of_getElem? (i := 147) rfl) rfl)
theorem ML_89 : MLv RL 89 μX10_setOrbit 6 := ⟨⟨(inT3 (List.mem_of_getElem? (i := 150) rfl) rfl), (inT1 (List.mem_of_getElem? (i := 1) rfl) rfl), kμX10_setOrbit, ⟨by decide, by decide, by decide +kernel⟩, by decide⟩, (inT3 (List.mem_of_getElem? (i := 151) rfl) rfl), (inT3 (List.mem_of_getElem? (i := 152) rfl) rfl)⟩
theorem MX10_150 : MLv RX10 150 μX5_begin 6 := ⟨⟨(inT3 (List.mem_of_getElem? (i := 154) rfl) rfl), (inT1 (List.mem_of_getElem? (i := 3) rfl) rfl), kμX5_begin, ⟨by decide, by decide, by decide +kernel⟩, by decide⟩, (inT3 (List.mem_of_getElem? (i := 155) rfl) rfl), (inT3 (List.mem_of_getElem? (i := 156) rfl) rfl)⟩
theorem kL_93 : Cond.constant RL 93 (1000000 : Int32) ∈ tbG := (inT3 (List.mem_of_getElem? (i := 158) rfl) rfl)
theorem ML_94 : MLv RL 94 μX10_setPower 4 := ⟨⟨(inT3 (List.mem_of_getElem? (i := 159) rfl) rfl), (inT1 (List.mem_of_getElem? (i := 1) rfl) rfl), kμX10_setPower, ⟨by decide, by decide, by decide +kernel⟩, by decide⟩, (inT3 (List.mem_of_getElem? (i := 160) rfl) rfl), (inT3 (List.mem_of_getElem? (i := 161) rfl) rfl)⟩
theorem kX10_155 : Cond.constant RX10 155 (1000000000 : Int32) ∈ tbG := (inT3 (List.mem_of_getElem? (i := 163) rfl) rfl)
theorem MX10_160 : MLv RX10 160 μX9_begin 4 := ⟨⟨(inT3 (List.mem_of_getElem? (i := 164) rfl) rfl), (inT1 (List.mem_of_getElem? (i := 4) rfl) rfl), kμX9_begin, ⟨by decide, by decide, by decide +kernel⟩, by decide⟩, (inT3 (List.mem_of_getElem? (i := 165) rfl) rfl), (inT3 (List.mem_of_getElem? (i := 166) rfl) rfl)⟩
theorem ML_98 : MLv RL 98 μX10_setStepLength 1 := ⟨⟨(inT3 (List.mem_of_getElem? (i := 168) rfl) rfl), (inT1 (List.mem_of_getElem? (i := 1) rfl) rfl), kμX10_setStepLength, ⟨by decide, by decide, by decide +kernel⟩, by decide⟩, (inT3 (List.mem_of_getElem? (i := 169) rfl) rfl), (inT3 (List.mem_of_getElem? (i := 170) rfl) rfl)⟩
theorem ML_238 : MLv RL 238 μL_balances 0 := ⟨⟨(inT3 (List.mem_of_getElem? (i := 172) rfl) rfl), (inT1 (List.mem_of_getElem? (i := 0) rfl) rfl), kμL_balances, ⟨by decide, by decide, by decide +kernel⟩, by decide⟩, (inT3 (List.mem_of_getElem? (i := 174) rfl) rfl), (inP1 (List.mem_of_getElem? (i := 3) rfl))⟩
theorem ML_101 : MLv RL 101 μX10_nodeCount 0 := ⟨⟨(inT3 (List.mem_of_getElem? (i := 176) rfl) rfl), (inT1 (List.mem_of_getElem? (i := 1) rfl) rfl), kμX10_nodeCount, ⟨by decide, by decide, by decide +kernel⟩, by decide⟩, (inT3 (List.mem_of_getElem? (i := 177) rfl) rfl), (inT3 (List.mem_of_getElem? (i := 178) rfl) rfl)⟩
theorem ML_104 : MLv RL 104 μX10_load 1 := ⟨⟨(inT3 (List.mem_of_getElem? (i := 180) rfl) rfl), (inT1 (List.mem_of_getElem? (i := 1) rfl) rfl), kμX10_load, ⟨by decide, by decide, by decide +kernel⟩, by decide⟩, (inT3 (List.mem_of_getElem? (i := 181) rfl) rfl), (inT3 (List.mem_of_getElem? (i := 182) rfl) rfl)⟩
theorem ML_107 : MLv RL 107 μX10_absorbedHeat 1 := ⟨⟨(inT3 (List.mem_of_getElem? (i := 184) rfl) rfl), (inT1 (List.mem_of_getElem? (i := 1) rfl) rfl), kμX10_absorbedHeat, ⟨by decide, by decide, by decide +kernel⟩, by decide⟩, (inT3 (List.mem_of_getElem? (i := 185) rfl) rfl), (inT3 (List.mem_of_getElem? (i := 186) rfl) rfl)⟩
theorem kX10_189 : Cond.constantLong RX10 189 (-1000000001 : Int64) ∈ tbG := (inT3 (List.mem_of_getElem? (i := 188) rfl) rfl)
theorem MX10_191 : MLv RX10 191 μX0_balanceHeat 0 := ⟨⟨(inT3 (List.mem_of_getElem? (i := 189) rfl) rfl), (inT1 (List.mem_of_getElem? (i := 2) rfl) rfl), kμX0_balanceHeat, ⟨by decide, by decide, by decide +kernel⟩, by decide⟩, (inT3 (List.mem_of_getElem? (i := 190) rfl) rfl), (inT3 (List.mem_of_getElem? (i := 191) rfl) rfl)⟩
theorem MX0_230 : MLv RX0 230 μX0_hasSun 0 := ⟨⟨(inT3 (List.mem_of_getElem? (i := 193) rfl) rfl), (inT1 (List.mem_of_getElem? (i := 2) rfl) rfl), kμX0_hasSun, ⟨by decide, by decide, by decide +kernel⟩, by decide⟩, (inT3 (List.mem_of_getElem? (i := 194) rfl) rfl), (inT3 (List.mem_of_getElem? (i := 195) rfl) rfl)⟩
theorem MX0_138 : MLv RX0 138 μX0_phaseNow 0 := ⟨⟨(inT3 (List.mem_of_getElem? (i := 197) rfl) rfl), (inT1 (List.mem_of_getElem? (i := 2) rfl) rfl), kμX0_phaseNow, ⟨by decide, by decide, by decide +kernel⟩, by decide⟩, (inT3 (List.mem_of_getElem? (i := 198) rfl) rfl), (inT3 (List.mem_of_getElem? (i := 199) rfl) rfl)⟩
theorem MX0_273 : MLv RX0 273 μX5_heatInto 2 := ⟨⟨(inT3 (List.mem_of_getElem? (i := 201) rfl) rfl), (inT1 (List.mem_of_getElem? (i := 3) rfl) rfl), kμX5_heatInto, ⟨by decide, by decide, by decide +kernel⟩, by decide⟩, (inT3 (List.mem_of_getElem? (i := 202) rfl) rfl), (inT3 (List.mem_of_getElem? (i := 203) rfl) rfl)⟩
theorem kX5_37 : Cond.constantLong RX5 37 (10 : Int64) ∈ tbG := (inT3 (List.mem_of_getElem? (i := 205) rfl) rfl)
theorem kX5_42 : Cond.constantLong RX5 42 (1000 : Int64) ∈ tbG := (inT3 (List.mem_of_getElem? (i := 206) rfl) rfl)
theorem MX0_152 : MLv RX0 152 μX0_hasNode 1 := ⟨⟨(inT3 (List.mem_of_getElem? (i := 207) rfl) rfl), (inT1 (List.mem_of_getElem? (i := 2) rfl) rfl), kμX0_hasNode, ⟨by decide, by decide, by decide +kernel⟩, by decide⟩, (inT3 (List.mem_of_getElem? (i := 96) rfl) rfl), (inT3 (List.mem_of_getElem? (i := 97) rfl) rfl)⟩
theorem MX0_289 : MLv RX0 289 μX0_conductThrough 1 := ⟨⟨(inT3 (List.mem_of_getElem? (i := 208) rfl) rfl), (inT1 (List.mem_of_getElem? (i := 2) rfl) rfl), kμX0_conductThrough, ⟨by decide, by decide, by decide +kernel⟩, by decide⟩, (inT3 (List.mem_of_getElem? (i := 210) rfl) rfl), (inP1 (List.mem_of_getElem? (i := 4) rfl))⟩
theorem kX0_169 : Cond.constantLong RX0 169 (1000 : Int64) ∈ tbG := (inT3 (List.mem_of_getElem? (i := 212) rfl) rfl)
theorem MX0_292 : MLv RX0 292 μX4_emit 0 := ⟨⟨(inT3 (List.mem_of_getElem? (i := 213) rfl) rfl), (inT1 (List.mem_of_getElem? (i := 7) rfl) rfl), kμX4_emit, ⟨by decide, by decide, by decide +kernel⟩, by decide⟩, (inT3 (List.mem_of_getElem? (i := 214) rfl) rfl), (inT3 (List.mem_of_getElem? (i := 215) rfl) rfl)⟩
theorem kX4_50 : Cond.constant RX4 50 (273150 : Int32) ∈ tbG := (inT3 (List.mem_of_getElem? (i := 217) rfl) rfl)
theorem kX4_55 : Cond.constantLong RX4 55 (567 : Int64) ∈ tbG := (inT3 (List.mem_of_getElem? (i := 218) rfl) rfl)
theorem kX4_57 : Cond.constantLong RX4 57 (100000000000 : Int64) ∈ tbG := (inT3 (List.mem_of_getElem? (i := 219) rfl) rfl)
theorem ML_111 : MLv RL 111 μX10_conductedHeat 1 := ⟨⟨(inT3 (List.mem_of_getElem? (i := 220) rfl) rfl), (inT1 (List.mem_of_getElem? (i := 1) rfl) rfl), kμX10_conductedHeat, ⟨by decide, by decide, by decide +kernel⟩, by decide⟩, (inT3 (List.mem_of_getElem? (i := 221) rfl) rfl), (inT3 (List.mem_of_getElem? (i := 222) rfl) rfl)⟩
theorem ML_114 : MLv RL 114 μX10_emittedHeat 1 := ⟨⟨(inT3 (List.mem_of_getElem? (i := 224) rfl) rfl), (inT1 (List.mem_of_getElem? (i := 1) rfl) rfl), kμX10_emittedHeat, ⟨by decide, by decide, by decide +kernel⟩, by decide⟩, (inT3 (List.mem_of_getElem? (i := 225) rfl) rfl), (inT3 (List.mem_of_getElem? (i := 226) rfl) rfl)⟩
theorem ML_117 : MLv RL 117 μX10_netHeat 1 := ⟨⟨(inT3 (List.mem_of_getElem? (i := 228) rfl) rfl), (inT1 (List.mem_of_getElem? (i := 1) rfl) rfl), kμX10_netHeat, ⟨by decide, by decide, by decide +kernel⟩, by decide⟩, (inT3 (List.mem_of_getElem? (i := 229) rfl) rfl), (inT3 (List.mem_of_getElem? (i := 230) rfl) rfl)⟩
theorem MX10_204 : MLv RX10 204 μX4_gain 0 := ⟨⟨(inT3 (List.mem_of_getElem? (i := 232) rfl) rfl), (inT1 (List.mem_of_getElem? (i := 7) rfl) rfl), kμX4_gain, ⟨by decide, by decide, by decide +kernel⟩, by decide⟩, (inT3 (List.mem_of_getElem? (i := 233) rfl) rfl), (inT3 (List.mem_of_getElem? (i := 234) rfl) rfl)⟩
theorem ML_120 : MLv RL 120 μX10_usedPower 0 := ⟨⟨(inT3 (List.mem_of_getElem? (i := 236) rfl) rfl), (inT1 (List.mem_of_getElem? (i := 1) rfl) rfl), kμX10_usedPower, ⟨by decide, by decide, by decide +kernel⟩, by decide⟩, (inT3 (List.mem_of_getElem? (i := 237) rfl) rfl), (inT3 (List.mem_of_getElem? (i := 238) rfl) rfl)⟩
theorem MX10_186 : MLv RX10 186 μX0_powerInUse 0 := ⟨⟨(inT4 (List.mem_of_getElem? (i := 0) rfl) rfl), (inT1 (List.mem_of_getElem? (i := 2) rfl) rfl), kμX0_powerInUse, ⟨by decide, by decide, by decide +kernel⟩, by decide⟩, (inT4 (List.mem_of_getElem? (i := 1) rfl) rfl), (inT4 (List.mem_of_getElem? (i := 2) rfl) rfl)⟩
theorem ML_219 : MLv RL 219 μL_put 1 := ⟨⟨(inT4 (List.mem_of_getElem? (i := 5) rfl) rfl), (inT1 (List.mem_of_getElem? (i := 0) rfl) rfl), kμL_put, ⟨by decide, by decide, by decide +kernel⟩, by decide⟩, (inT4 (List.mem_of_getElem? (i := 7) rfl) rfl), (inP1 (List.mem_of_getElem? (i := 5) rfl))⟩
theorem ML_48 : MLv RL 48 μX10_truncateText 1 := ⟨⟨(inT4 (List.mem_of_getElem? (i := 9) rfl) rfl), (inT1 (List.mem_of_getElem? (i := 1) rfl) rfl), kμX10_truncateText, ⟨by decide, by decide, by decide +kernel⟩, by decide⟩, (inT4 (List.mem_of_getElem? (i := 10) rfl) rfl), (inT4 (List.mem_of_getElem? (i := 11) rfl) rfl)⟩
theorem ML_52 : MLv RL 52 μJ0_length_8abf5 0 := ⟨⟨(inT4 (List.mem_of_getElem? (i := 13) rfl) rfl), (inT1 (List.mem_of_getElem? (i := 14) rfl) rfl), kμJ0_length_8abf5, ⟨by decide, by decide, by decide +kernel⟩, by decide⟩, (inT4 (List.mem_of_getElem? (i := 14) rfl) rfl), (inT4 (List.mem_of_getElem? (i := 15) rfl) rfl)⟩
theorem MJ0_335 : MLv RJ0 335 μJ0_coder_7d493 0 := ⟨⟨(inT4 (List.mem_of_getElem? (i := 17) rfl) rfl), (inT1 (List.mem_of_getElem? (i := 14) rfl) rfl), kμJ0_coder_7d493, ⟨by decide, by decide, by decide +kernel⟩, by decide⟩, (inT4 (List.mem_of_getElem? (i := 18) rfl) rfl), (inT4 (List.mem_of_getElem? (i := 19) rfl) rfl)⟩
theorem ML_58 : MLv RL 58 μJ0_charAt_5068e 1 := ⟨⟨(inT4 (List.mem_of_getElem? (i := 23) rfl) rfl), (inT1 (List.mem_of_getElem? (i := 14) rfl) rfl), kμJ0_charAt_5068e, ⟨by decide, by decide, by decide +kernel⟩, by decide⟩, (inT4 (List.mem_of_getElem? (i := 24) rfl) rfl), (inT4 (List.mem_of_getElem? (i := 25) rfl) rfl)⟩
theorem MJ0_492 : MLv RJ0 492 μJ0_isLatin1_aae02 0 := ⟨⟨(inT4 (List.mem_of_getElem? (i := 27) rfl) rfl), (inT1 (List.mem_of_getElem? (i := 14) rfl) rfl), kμJ0_isLatin1_aae02, ⟨by decide, by decide, by decide +kernel⟩, by decide⟩, (inT4 (List.mem_of_getElem? (i := 28) rfl) rfl), (inT4 (List.mem_of_getElem? (i := 29) rfl) rfl)⟩
theorem MJ0_495 : MLs RJ0 495 μJ1_charAt_3b067 2 := ⟨⟨(inT4 (List.mem_of_getElem? (i := 31) rfl) rfl), (inT1 (List.mem_of_getElem? (i := 15) rfl) rfl), kμJ1_charAt_3b067, ⟨by decide, by decide, by decide +kernel⟩, by decide⟩, (inT4 (List.mem_of_getElem? (i := 32) rfl) rfl)⟩
theorem MJ1_9 : MLs RJ1 9 μJ0_checkIndex_df160 2 := ⟨⟨(inT4 (List.mem_of_getElem? (i := 34) rfl) rfl), (inT1 (List.mem_of_getElem? (i := 14) rfl) rfl), kμJ0_checkIndex_df160, ⟨by decide, by decide, by decide +kernel⟩, by decide⟩, (inT4 (List.mem_of_getElem? (i := 35) rfl) rfl)⟩
theorem MJ0_1059 : MLs RJ0 1059 μJ3_checkIndex_8e157 3 := ⟨⟨(inT4 (List.mem_of_getElem? (i := 39) rfl) rfl), (inT1 (List.mem_of_getElem? (i := 16) rfl) rfl), kμJ3_checkIndex_8e157, ⟨by decide, by decide, by decide +kernel⟩, by decide⟩, (inT4 (List.mem_of_getElem? (i := 40) rfl) rfl)⟩
theorem MJ0_498 : MLs RJ0 498 μJ2_charAt_3b067 2 := ⟨⟨(inT4 (List.mem_of_getElem? (i := 42) rfl) rfl), (inT1 (List.mem_of_getElem? (i := 17) rfl) rfl), kμJ2_charAt_3b067, ⟨by decide, by decide, by decide +kernel⟩, by decide⟩, (inT4 (List.mem_of_getElem? (i := 43) rfl) rfl)⟩
theorem MJ2_67 : MLs RJ2 67 μJ2_checkIndex_2214a 2 := ⟨⟨(inT4 (List.mem_of_getElem? (i := 45) rfl) rfl), (inT1 (List.mem_of_getElem? (i := 17) rfl) rfl), kμJ2_checkIndex_2214a, ⟨by decide, by decide, by decide +kernel⟩, by decide⟩, (inT4 (List.mem_of_getElem? (i := 46) rfl) rfl)⟩
theorem MJ2_48 : MLs RJ2 48 μJ2_length_9d52b 1 := ⟨⟨(inT4 (List.mem_of_getElem? (i := 48) rfl) rfl), (inT1 (List.mem_of_getElem? (i := 17) rfl) rfl), kμJ2_length_9d52b, ⟨by decide, by decide, by decide +kernel⟩, by decide⟩, (inT4 (List.mem_of_getElem? (i := 49) rfl) rfl)⟩
theorem MJ2_414 : MLs RJ2 414 μJ0_checkIndex_df160 2 := ⟨⟨(inT4 (List.mem_of_getElem? (i := 51) rfl) rfl), (inT1 (List.mem_of_getElem? (i := 14) rfl) rfl), kμJ0_checkIndex_df160, ⟨by decide, by decide, by decide +kernel⟩, by decide⟩, (inT4 (List.mem_of_getElem? (i := 35) rfl) rfl)⟩
theorem MJ2_71 : MLs RJ2 71 μJ2_getChar_3b067 2 := ⟨⟨(inT4 (List.mem_of_getElem? (i := 52) rfl) rfl), (inT1 (List.mem_of_getElem? (i := 17) rfl) rfl), kμJ2_getChar_3b067, ⟨by decide, by decide, by decide +kernel⟩, by decide⟩, (inT4 (List.mem_of_getElem? (i := 53) rfl) rfl)⟩
theorem ML_62 : MLv RL 62 μX10_appendText 1 := ⟨⟨(inT4 (List.mem_of_getElem? (i := 61) rfl) rfl), (inT1 (List.mem_of_getElem? (i := 1) rfl) rfl), kμX10_appendText, ⟨by decide, by decide, by decide +kernel⟩, by decide⟩, (inT4 (List.mem_of_getElem? (i := 62) rfl) rfl), (inT4 (List.mem_of_getElem? (i := 63) rfl) rfl)⟩
theorem ML_223 : MLv RL 223 μX10_loadRules 0 := ⟨⟨(inT4 (List.mem_of_getElem? (i := 65) rfl) rfl), (inT1 (List.mem_of_getElem? (i := 1) rfl) rfl), kμX10_loadRules, ⟨by decide, by decide, by decide +kernel⟩, by decide⟩, (inT4 (List.mem_of_getElem? (i := 66) rfl) rfl), (inT4 (List.mem_of_getElem? (i := 67) rfl) rfl)⟩
theorem MX10_289 : MLv RX10 289 μX7_readRules 3 := ⟨⟨(inT4 (List.mem_of_getElem? (i := 69) rfl) rfl), (inT1 (List.mem_of_getElem? (i := 11) rfl) rfl), kμX7_readRules, ⟨by decide, by decide, by decide +kernel⟩, by decide⟩, (inT4 (List.mem_of_getElem? (i := 70) rfl) rfl), (inT4 (List.mem_of_getElem? (i := 71) rfl) rfl)⟩
theorem MX7_54 : MLv RX7 54 μX7_splitText 0 := ⟨⟨(inT4 (List.mem_of_getElem? (i := 73) rfl) rfl), (inT1 (List.mem_of_getElem? (i := 11) rfl) rfl), kμX7_splitText, ⟨by decide, by decide, by decide +kernel⟩, by decide⟩, (inT4 (List.mem_of_getElem? (i := 75) rfl) rfl), (inP1 (List.mem_of_getElem? (i := 6) rfl))⟩
theorem MX7_80 : MLv RX7 80 μX7_skipBlanks 1 := ⟨⟨(inT4 (List.mem_of_getElem? (i := 77) rfl) rfl), (inT1 (List.mem_of_getElem? (i := 11) rfl) rfl), kμX7_skipBlanks, ⟨by decide, by decide, by decide +kernel⟩, by decide⟩, (inT4 (List.mem_of_getElem? (i := 79) rfl) rfl), (inP1 (List.mem_of_getElem? (i := 7) rfl))⟩
theorem MX7_84 : MLv RX7 84 μX7_endOfToken 1 := ⟨⟨(inT4 (List.mem_of_getElem? (i := 81) rfl) rfl), (inT1 (List.mem_of_getElem? (i := 11) rfl) rfl), kμX7_endOfToken, ⟨by decide, by decide, by decide +kernel⟩, by decide⟩, (inT4 (List.mem_of_getElem? (i := 83) rfl) rfl), (inP1 (List.mem_of_getElem? (i := 8) rfl))⟩
theorem MX7_97 : MLs RX7 97 μX7_isLetter 1 := ⟨⟨(inT4 (List.mem_of_getElem? (i := 85) rfl) rfl), (inT1 (List.mem_of_getElem? (i := 11) rfl) rfl), kμX7_isLetter, ⟨by decide, by decide, by decide +kernel⟩, by decide⟩, (inT4 (List.mem_of_getElem? (i := 86) rfl) rfl)⟩
theorem MX7_101 : MLs RX7 101 μX7_isDigit 1 := ⟨⟨(inT4 (List.mem_of_getElem? (i := 88) rfl) rfl), (inT1 (List.mem_of_getElem? (i := 11) rfl) rfl), kμX7_isDigit, ⟨by decide, by decide, by decide +kernel⟩, by decide⟩, (inT4 (List.mem_of_getElem? (i := 89) rfl) rfl)⟩
theorem MX7_87 : MLv RX7 87 μX7_kindOf 2 := ⟨⟨(inT4 (List.mem_of_getElem? (i := 91) rfl) rfl), (inT1 (List.mem_of_getElem? (i := 11) rfl) rfl), kμX7_kindOf, ⟨by decide, by decide, by decide +kernel⟩, by decide⟩, (inT4 (List.mem_of_getElem? (i := 93) rfl) rfl), (inP1 (List.mem_of_getElem? (i := 9) rfl))⟩
theorem MX7_104 : MLv RX7 104 μX7_kindOfWord 2 := ⟨⟨(inT4 (List.mem_of_getElem? (i := 95) rfl) rfl), (inT1 (List.mem_of_getElem? (i := 11) rfl) rfl), kμX7_kindOfWord, ⟨by decide, by decide, by decide +kernel⟩, by decide⟩, (inT4 (List.mem_of_getElem? (i := 97) rfl) rfl), (inP1 (List.mem_of_getElem? (i := 10) rfl))⟩
theorem MX7_116 : MLv RX7 116 μJ0_length_8abf5 0 := ⟨⟨(inT4 (List.mem_of_getElem? (i := 100) rfl) rfl), (inT1 (List.mem_of_getElem? (i := 14) rfl) rfl), kμJ0_length_8abf5, ⟨by decide, by decide, by decide +kernel⟩, by decide⟩, (inT4 (List.mem_of_getElem? (i := 14) rfl) rfl), (inT4 (List.mem_of_getElem? (i := 15) rfl) rfl)⟩
theorem MX7_118 : MLv RX7 118 μJ0_charAt_5068e 1 := ⟨⟨(inT4 (List.mem_of_getElem? (i := 101) rfl) rfl), (inT1 (List.mem_of_getElem? (i := 14) rfl) rfl), kμJ0_charAt_5068e, ⟨by decide, by decide, by decide +kernel⟩, by decide⟩, (inT4 (List.mem_of_getElem? (i := 24) rfl) rfl), (inT4 (List.mem_of_getElem? (i := 25) rfl) rfl)⟩
theorem MX7_122 : MLv RX7 122 μX7_isWord 4 := ⟨⟨(inT4 (List.mem_of_getElem? (i := 102) rfl) rfl), (inT1 (List.mem_of_getElem? (i := 11) rfl) rfl), kμX7_isWord, ⟨by decide, by decide, by decide +kernel⟩, by decide⟩, (inT4 (List.mem_of_getElem? (i := 104) rfl) rfl), (inP1 (List.mem_of_getElem? (i := 11) rfl))⟩
theorem MX7_109 : MLv RX7 109 μJ0_indexOf_0f7a4 1 := ⟨⟨(inT4 (List.mem_of_getElem? (i := 107) rfl) rfl), (inT1 (List.mem_of_getElem? (i := 14) rfl) rfl), kμJ0_indexOf_0f7a4, ⟨by decide, by decide, by decide +kernel⟩, by decide⟩, (inT4 (List.mem_of_getElem? (i := 108) rfl) rfl), (inT4 (List.mem_of_getElem? (i := 109) rfl) rfl)⟩
theorem MJ0_633 : MLv RJ0 633 μJ0_indexOf_7cf53 2 := ⟨⟨(inT4 (List.mem_of_getElem? (i := 111) rfl) rfl), (inT1 (List.mem_of_getElem? (i := 14) rfl) rfl), kμJ0_indexOf_7cf53, ⟨by decide, by decide, by decide +kernel⟩, by decide⟩, (inT4 (List.mem_of_getElem? (i := 112) rfl) rfl), (inT4 (List.mem_of_getElem? (i := 113) rfl) rfl)⟩
theorem MJ0_505 : MLv RJ0 505 μJ0_length_8abf5 0 := ⟨⟨(inT4 (List.mem_of_getElem? (i := 115) rfl) rfl), (inT1 (List.mem_of_getElem? (i := 14) rfl) rfl), kμJ0_length_8abf5, ⟨by decide, by decide, by decide +kernel⟩, by decide⟩, (inT4 (List.mem_of_getElem? (i := 14) rfl) rfl), (inT4 (List.mem_of_getElem? (i := 15) rfl) rfl)⟩
theorem MJ0_637 : MLs RJ0 637 μJ1_indexOf_4cfef 4 := ⟨⟨(inT4 (List.mem_of_getElem? (i := 116) rfl) rfl), (inT1 (List.mem_of_getElem? (i := 15) rfl) rfl), kμJ1_indexOf_4cfef, ⟨by decide, by decide, by decide +kernel⟩, by decide⟩, (inT4 (List.mem_of_getElem? (i := 117) rfl) rfl)⟩
theorem MJ1_88 : MLs RJ1 88 μJ1_canEncode_9a6ad 1 := ⟨⟨(inT4 (List.mem_of_getElem? (i := 119) rfl) rfl), (inT1 (List.mem_of_getElem? (i := 15) rfl) rfl), kμJ1_canEncode_9a6ad, ⟨by decide, by decide, by decide +kernel⟩, by decide⟩, (inT4 (List.mem_of_getElem? (i := 120) rfl) rfl)⟩
theorem AJ1_92 : MA RJ1 92 Lib.Math.max.name Lib.Math.max.code 2 (some .int) := ⟨(inT4 (List.mem_of_getElem? (i := 122) rfl) rfl), (inT3 (List.mem_of_getElem? (i := 53) rfl) rfl), (inT1 (List.mem_of_getElem? (i := 12) rfl) rfl), (inT3 (List.mem_of_getElem? (i := 54) rfl) rfl)⟩
theorem AJ1_38 : MA RJ1 38 Lib.Math.min.name Lib.Math.min.code 2 (some .int) := ⟨(inT4 (List.mem_of_getElem? (i := 123) rfl) rfl), (inT4 (List.mem_of_getElem? (i := 124) rfl) rfl), (inT1 (List.mem_of_getElem? (i := 12) rfl) rfl), (inT4 (List.mem_of_getElem? (i := 125) rfl) rfl)⟩
theorem MJ1_95 : MLs RJ1 95 μJ1_indexOfChar_4cfef 4 := ⟨⟨(inT4 (List.mem_of_getElem? (i := 126) rfl) rfl), (inT1 (List.mem_of_getElem? (i := 15) rfl) rfl), kμJ1_indexOfChar_4cfef, ⟨by decide, by decide, by decide +kernel⟩, by decide⟩, (inT4 (List.mem_of_getElem? (i := 127) rfl) rfl)⟩
theorem MJ0_640 : MLs RJ0 640 μJ2_indexOf_4cfef 4 := ⟨⟨(inT4 (List.mem_of_getElem? (i := 129) rfl) rfl), (inT1 (List.mem_of_getElem? (i := 17) rfl) rfl), kμJ2_indexOf_4cfef, ⟨by decide, by decide, by decide +kernel⟩, by decide⟩, (inT4 (List.mem_of_getElem? (i := 130) rfl) rfl)⟩
theorem AJ2_224 : MA RJ2 224 Lib.Math.max.name Lib.Math.max.code 2 (some .int) := ⟨(inT4 (List.mem_of_getElem? (i := 132) rfl) rfl), (inT3 (List.mem_of_getElem? (i := 53) rfl) rfl), (inT1 (List.mem_of_getElem? (i := 12) rfl) rfl), (inT3 (List.mem_of_getElem? (i := 54) rfl) rfl)⟩
theorem AJ2_183 : MA RJ2 183 Lib.Math.min.name Lib.Math.min.code 2 (some .int) := ⟨(inT4 (List.mem_of_getElem? (i := 133) rfl) rfl), (inT4 (List.mem_of_getElem? (i := 124) rfl) rfl), (inT1 (List.mem_of_getElem? (i := 12) rfl) rfl), (inT4 (List.mem_of_getElem? (i := 125) rfl) rfl)⟩
theorem kJ2_227 : Cond.constant RJ2 227 (65536 : Int32) ∈ tbG := (inT4 (List.mem_of_getElem? (i := 134) rfl) rfl)
theorem MJ2_228 : MLs RJ2 228 μJ2_indexOfChar_4cfef 4 := ⟨⟨(inT4 (List.mem_of_getElem? (i := 135) rfl) rfl), (inT1 (List.mem_of_getElem? (i := 17) rfl) rfl), kμJ2_indexOfChar_4cfef, ⟨by decide, by decide, by decide +kernel⟩, by decide⟩, (inT4 (List.mem_of_getElem? (i := 136) rfl) rfl)⟩
theorem MJ2_96 : MLs RJ2 96 μJ2_checkBoundsBeginEnd_d044e 3 := ⟨⟨(inT4 (List.mem_of_getElem? (i := 138) rfl) rfl), (inT1 (List.mem_of_getElem? (i := 17) rfl) rfl), kμJ2_checkBoundsBeginEnd_d044e, ⟨by decide, by decide, by decide +kernel⟩, by decide⟩, (inT4 (List.mem_of_getElem? (i := 139) rfl) rfl)⟩
theorem MJ2_241 : MLs RJ2 241 μJ0_checkBoundsBeginEnd_23922 3 := ⟨⟨(inT4 (List.mem_of_getElem? (i := 141) rfl) rfl), (inT1 (List.mem_of_getElem? (i := 14) rfl) rfl), kμJ0_checkBoundsBeginEnd_23922, ⟨by decide, by decide, by decide +kernel⟩, by decide⟩, (inT4 (List.mem_of_getElem? (i := 142) rfl) rfl)⟩
theorem MJ0_1062 : MLs RJ0 1062 μJ3_checkFromToIndex_8c36e 4 := ⟨⟨(inT4 (List.mem_of_getElem? (i := 144) rfl) rfl), (inT1 (List.mem_of_getElem? (i := 16) rfl) rfl), kμJ3_checkFromToIndex_8c36e, ⟨by decide, by decide, by decide +kernel⟩, by decide⟩, (inT4 (List.mem_of_getElem? (i := 145) rfl) rfl)⟩
theorem MJ2_244 : MLs RJ2 244 μJ2_indexOfCharUnsafe_4cfef 4 := ⟨⟨(inT4 (List.mem_of_getElem? (i := 147) rfl) rfl), (inT1 (List.mem_of_getElem? (i := 17) rfl) rfl), kμJ2_indexOfCharUnsafe_4cfef, ⟨by decide, by decide, by decide +kernel⟩, by decide⟩, (inT4 (List.mem_of_getElem? (i := 148) rfl) rfl)⟩
theorem MJ2_232 : MLs RJ2 232 μJ2_indexOfSupplementary_4cfef 4 := ⟨⟨(inT4 (List.mem_of_getElem? (i := 150) rfl) rfl), (inT1 (List.mem_of_getElem? (i := 17) rfl) rfl), kμJ2_indexOfSupplementary_4cfef, ⟨by decide, by decide, by decide +kernel⟩, by decide⟩, (inT4 (List.mem_of_getElem? (i := 151) rfl) rfl)⟩
theorem MJ2_164 : MLs RJ2 164 μJ11_isValidCodePoint_9a6ad 1 := ⟨⟨(inT4 (List.mem_of_getElem? (i := 153) rfl) rfl), (inT1 (List.mem_of_getElem? (i := 18) rfl) rfl), kμJ11_isValidCodePoint_9a6ad, ⟨by decide, by decide, by decide +kernel⟩, by decide⟩, (inT4 (List.mem_of_getElem? (i := 154) rfl) rfl)⟩
theorem MJ2_157 : MLs RJ2 157 μJ11_highSurrogate_5068e 1 := ⟨⟨(inT4 (List.mem_of_getElem? (i := 156) rfl) rfl), (inT1 (List.mem_of_getElem? (i := 18) rfl) rfl), kμJ11_highSurrogate_5068e, ⟨by decide, by decide, by decide +kernel⟩, by decide⟩, (inT4 (List.mem_of_getElem? (i := 157) rfl) rfl)⟩
theorem kJ11_110 : Cond.constant RJ11 110 (55232 : Int32) ∈ tbG := (inT4 (List.mem_of_getElem? (i := 159) rfl) rfl)
theorem MJ2_161 : MLs RJ2 161 μJ11_lowSurrogate_5068e 1 := ⟨⟨(inT4 (List.mem_of_getElem? (i := 160) rfl) rfl), (inT1 (List.mem_of_getElem? (i := 18) rfl) rfl), kμJ11_lowSurrogate_5068e, ⟨by decide, by decide, by decide +kernel⟩, by decide⟩, (inT4 (List.mem_of_getElem? (i := 161) rfl) rfl)⟩
theorem kJ11_76 : Cond.constant RJ11 76 (56320 : Int32) ∈ tbG := (inT4 (List.mem_of_getElem? (i := 163) rfl) rfl)
theorem MX7_91 : MLv RX7 91 μX7_numberIn 2 := ⟨⟨(inT4 (List.mem_of_getElem? (i := 164) rfl) rfl), (inT1 (List.mem_of_getElem? (i := 11) rfl) rfl), kμX7_numberIn, ⟨by decide, by decide, by decide +kernel⟩, by decide⟩, (inT4 (List.mem_of_getElem? (i := 166) rfl) rfl), (inP1 (List.mem_of_getElem? (i := 12) rfl))⟩
theorem kX7_126 : Cond.constant RX7 126 (1000000 : Int32) ∈ tbG := (inT4 (List.mem_of_getElem? (i := 168) rfl) rfl)
theorem AX7_127 : MA RX7 127 Lib.Math.min.name Lib.Math.min.code 2 (some .int) := ⟨(inT4 (List.mem_of_getElem? (i := 169) rfl) rfl), (inT4 (List.mem_of_getElem? (i := 124) rfl) rfl), (inT1 (List.mem_of_getElem? (i := 12) rfl) rfl), (inT4 (List.mem_of_getElem? (i := 125) rfl) rfl)⟩
theorem MX7_60 : MLv RX7 60 μX7_kind 0 := ⟨⟨(inT4 (List.mem_of_getElem? (i := 170) rfl) rfl), (inT1 (List.mem_of_getElem? (i := 11) rfl) rfl), kμX7_kind, ⟨by decide, by decide, by decide +kernel⟩, by decide⟩, (inT4 (List.mem_of_getElem? (i := 172) rfl) rfl), (inP1 (List.mem_of_getElem? (i := 13) rfl))⟩
theorem MX7_64 : MLv RX7 64 μX7_readTest 1 := ⟨⟨(inT4 (List.mem_of_getElem? (i := 174) rfl) rfl), (inT1 (List.mem_of_getElem? (i := 11) rfl) rfl), kμX7_readTest, ⟨by decide, by decide, by decide +kernel⟩, by decide⟩, (inT4 (List.mem_of_getElem? (i := 176) rfl) rfl), (inP1 (List.mem_of_getElem? (i := 14) rfl))⟩
theorem MX7_135 : MLv RX7 135 μX7_readSum 1 := ⟨⟨(inT4 (List.mem_of_getElem? (i := 178) rfl) rfl), (inT1 (List.mem_of_getElem? (i := 11) rfl) rfl), kμX7_readSum, ⟨by decide, by decide, by decide +kernel⟩, by decide⟩, (inT4 (List.mem_of_getElem? (i := 180) rfl) rfl), (inP1 (List.mem_of_getElem? (i := 15) rfl))⟩
theorem MX7_149 : MLv RX7 149 μX7_readProduct 1 := ⟨⟨(inT4 (List.mem_of_getElem? (i := 182) rfl) rfl), (inT1 (List.mem_of_getElem? (i := 11) rfl) rfl), kμX7_readProduct, ⟨by decide, by decide, by decide +kernel⟩, by decide⟩, (inT4 (List.mem_of_getElem? (i := 184) rfl) rfl), (inP2 (List.mem_of_getElem? (i := 0) rfl))⟩
theorem MX7_152 : MLv RX7 152 μX7_readFactor 1 := ⟨⟨(inT4 (List.mem_of_getElem? (i := 186) rfl) rfl), (inT1 (List.mem_of_getElem? (i := 11) rfl) rfl), kμX7_readFactor, ⟨by decide, by decide, by decide +kernel⟩, by decide⟩, (inT4 (List.mem_of_getElem? (i := 188) rfl) rfl), (inP2 (List.mem_of_getElem? (i := 1) rfl))⟩
theorem MX7_74 : MLv RX7 74 μX7_fail 1 := ⟨⟨(inT4 (List.mem_of_getElem? (i := 190) rfl) rfl), (inT1 (List.mem_of_getElem? (i := 11) rfl) rfl), kμX7_fail, ⟨by decide, by decide, by decide +kernel⟩, by decide⟩, (inT4 (List.mem_of_getElem? (i := 192) rfl) rfl), (inP2 (List.mem_of_getElem? (i := 2) rfl))⟩
theorem MX7_71 : MLv RX7 71 μX7_take 1 := ⟨⟨(inT4 (List.mem_of_getElem? (i := 194) rfl) rfl), (inT1 (List.mem_of_getElem? (i := 11) rfl) rfl), kμX7_take, ⟨by decide, by decide, by decide +kernel⟩, by decide⟩, (inT4 (List.mem_of_getElem? (i := 196) rfl) rfl), (inP2 (List.mem_of_getElem? (i := 3) rfl))⟩
theorem MX7_142 : MLv RX7 142 μX8_emitCode 2 := ⟨⟨(inT4 (List.mem_of_getElem? (i := 198) rfl) rfl), (inT1 (List.mem_of_getElem? (i := 6) rfl) rfl), kμX8_emitCode, ⟨by decide, by decide, by decide +kernel⟩, by decide⟩, (inT4 (List.mem_of_getElem? (i := 199) rfl) rfl), (inT4 (List.mem_of_getElem? (i := 200) rfl) rfl)⟩
theorem MX7_158 : MLv RX7 158 μX7_takeNumber 1 := ⟨⟨(inT4 (List.mem_of_getElem? (i := 202) rfl) rfl), (inT1 (List.mem_of_getElem? (i := 11) rfl) rfl), kμX7_takeNumber, ⟨by decide, by decide, by decide +kernel⟩, by decide⟩, (inT4 (List.mem_of_getElem? (i := 204) rfl) rfl), (inP2 (List.mem_of_getElem? (i := 4) rfl))⟩
theorem MX7_138 : MLv RX7 138 μX7_takeComparison 0 := ⟨⟨(inT4 (List.mem_of_getElem? (i := 206) rfl) rfl), (inT1 (List.mem_of_getElem? (i := 11) rfl) rfl), kμX7_takeComparison, ⟨by decide, by decide, by decide +kernel⟩, by decide⟩, (inT4 (List.mem_of_getElem? (i := 208) rfl) rfl), (inP2 (List.mem_of_getElem? (i := 5) rfl))⟩
theorem MX7_68 : MLv RX7 68 μX7_readAction 1 := ⟨⟨(inT4 (List.mem_of_getElem? (i := 210) rfl) rfl), (inT1 (List.mem_of_getElem? (i := 11) rfl) rfl), kμX7_readAction, ⟨by decide, by decide, by decide +kernel⟩, by decide⟩, (inT4 (List.mem_of_getElem? (i := 212) rfl) rfl), (inP2 (List.mem_of_getElem? (i := 6) rfl))⟩
theorem MX7_167 : MLv RX7 167 μX7_takeWord 2 := ⟨⟨(inT4 (List.mem_of_getElem? (i := 214) rfl) rfl), (inT1 (List.mem_of_getElem? (i := 11) rfl) rfl), kμX7_takeWord, ⟨by decide, by decide, by decide +kernel⟩, by decide⟩, (inT4 (List.mem_of_getElem? (i := 216) rfl) rfl), (inP2 (List.mem_of_getElem? (i := 7) rfl))⟩
theorem MX7_174 : NLs RX7 174 μX10_within 3 "LouvreCraft" := ⟨⟨(inL4 (List.mem_of_getElem? (i := 218) rfl)), (inT1 (List.mem_of_getElem? (i := 1) rfl) rfl), kμX10_within, ⟨by decide, by decide, by decide +kernel⟩, by decide⟩, (inT3 (List.mem_of_getElem? (i := 70) rfl) rfl)⟩
theorem kX10_292 : Cond.constant RX10 292 (-1000000004 : Int32) ∈ tbG := (inT4 (List.mem_of_getElem? (i := 219) rfl) rfl)
theorem MX10_298 : MLv RX10 298 μX8_copyFrom 1 := ⟨⟨(inT4 (List.mem_of_getElem? (i := 220) rfl) rfl), (inT1 (List.mem_of_getElem? (i := 6) rfl) rfl), kμX8_copyFrom, ⟨by decide, by decide, by decide +kernel⟩, by decide⟩, (inT4 (List.mem_of_getElem? (i := 221) rfl) rfl), (inT4 (List.mem_of_getElem? (i := 222) rfl) rfl)⟩
theorem YX8_41 : Cond.methodLink RX8 41 arraycopyName ∈ tbG := (inT4 (List.mem_of_getElem? (i := 224) rfl) rfl)
theorem ML_243 : MLv RL 243 μL_moves 0 := ⟨⟨(inT4 (List.mem_of_getElem? (i := 225) rfl) rfl), (inT1 (List.mem_of_getElem? (i := 0) rfl) rfl), kμL_moves, ⟨by decide, by decide, by decide +kernel⟩, by decide⟩, (inT4 (List.mem_of_getElem? (i := 227) rfl) rfl), (inP2 (List.mem_of_getElem? (i := 8) rfl))⟩
theorem ML_123 : MLv RL 123 μX10_louvreCount 0 := ⟨⟨(inT4 (List.mem_of_getElem? (i := 229) rfl) rfl), (inT1 (List.mem_of_getElem? (i := 1) rfl) rfl), kμX10_louvreCount, ⟨by decide, by decide, by decide +kernel⟩, by decide⟩, (inT4 (List.mem_of_getElem? (i := 230) rfl) rfl), (inT4 (List.mem_of_getElem? (i := 231) rfl) rfl)⟩
theorem ML_126 : MLv RL 126 μX10_heaterCount 0 := ⟨⟨(inT4 (List.mem_of_getElem? (i := 233) rfl) rfl), (inT1 (List.mem_of_getElem? (i := 1) rfl) rfl), kμX10_heaterCount, ⟨by decide, by decide, by decide +kernel⟩, by decide⟩, (inT4 (List.mem_of_getElem? (i := 234) rfl) rfl), (inT4 (List.mem_of_getElem? (i := 235) rfl) rfl)⟩
theorem ML_129 : MLv RL 129 μX10_time 0 := ⟨⟨(inT4 (List.mem_of_getElem? (i := 237) rfl) rfl), (inT1 (List.mem_of_getElem? (i := 1) rfl) rfl), kμX10_time, ⟨by decide, by decide, by decide +kernel⟩, by decide⟩, (inT4 (List.mem_of_getElem? (i := 238) rfl) rfl), (inT4 (List.mem_of_getElem? (i := 239) rfl) rfl)⟩
theorem ML_132 : MLv RL 132 μX10_shedCount 0 := ⟨⟨(inT5 (List.mem_of_getElem? (i := 1) rfl) rfl), (inT1 (List.mem_of_getElem? (i := 1) rfl) rfl), kμX10_shedCount, ⟨by decide, by decide, by decide +kernel⟩, by decide⟩, (inT5 (List.mem_of_getElem? (i := 2) rfl) rfl), (inT5 (List.mem_of_getElem? (i := 3) rfl) rfl)⟩
theorem ML_135 : MLv RL 135 μX10_violatorCount 0 := ⟨⟨(inT5 (List.mem_of_getElem? (i := 5) rfl) rfl), (inT1 (List.mem_of_getElem? (i := 1) rfl) rfl), kμX10_violatorCount, ⟨by decide, by decide, by decide +kernel⟩, by decide⟩, (inT5 (List.mem_of_getElem? (i := 6) rfl) rfl), (inT5 (List.mem_of_getElem? (i := 7) rfl) rfl)⟩
theorem ML_138 : MLv RL 138 μX10_energy 1 := ⟨⟨(inT5 (List.mem_of_getElem? (i := 9) rfl) rfl), (inT1 (List.mem_of_getElem? (i := 1) rfl) rfl), kμX10_energy, ⟨by decide, by decide, by decide +kernel⟩, by decide⟩, (inT5 (List.mem_of_getElem? (i := 10) rfl) rfl), (inT5 (List.mem_of_getElem? (i := 11) rfl) rfl)⟩
theorem kX10_252 : Cond.constantLong RX10 252 (-1000000002 : Int64) ∈ tbG := (inT5 (List.mem_of_getElem? (i := 13) rfl) rfl)
theorem ML_141 : MLv RL 141 μX10_opening 1 := ⟨⟨(inT5 (List.mem_of_getElem? (i := 14) rfl) rfl), (inT1 (List.mem_of_getElem? (i := 1) rfl) rfl), kμX10_opening, ⟨by decide, by decide, by decide +kernel⟩, by decide⟩, (inT5 (List.mem_of_getElem? (i := 15) rfl) rfl), (inT5 (List.mem_of_getElem? (i := 16) rfl) rfl)⟩
theorem MX10_123 : MLv RX10 123 μX0_hasLouvre 1 := ⟨⟨(inT5 (List.mem_of_getElem? (i := 18) rfl) rfl), (inT1 (List.mem_of_getElem? (i := 2) rfl) rfl), kμX0_hasLouvre, ⟨by decide, by decide, by decide +kernel⟩, by decide⟩, (inT5 (List.mem_of_getElem? (i := 19) rfl) rfl), (inT5 (List.mem_of_getElem? (i := 20) rfl) rfl)⟩
theorem ML_144 : MLv RL 144 μX10_target 1 := ⟨⟨(inT5 (List.mem_of_getElem? (i := 22) rfl) rfl), (inT1 (List.mem_of_getElem? (i := 1) rfl) rfl), kμX10_target, ⟨by decide, by decide, by decide +kernel⟩, by decide⟩, (inT5 (List.mem_of_getElem? (i := 23) rfl) rfl), (inT5 (List.mem_of_getElem? (i := 24) rfl) rfl)⟩
theorem MX10_129 : MLv RX10 129 μX0_targetOf 1 := ⟨⟨(inT5 (List.mem_of_getElem? (i := 26) rfl) rfl), (inT1 (List.mem_of_getElem? (i := 2) rfl) rfl), kμX0_targetOf, ⟨by decide, by decide, by decide +kernel⟩, by decide⟩, (inT5 (List.mem_of_getElem? (i := 27) rfl) rfl), (inT5 (List.mem_of_getElem? (i := 28) rfl) rfl)⟩
theorem MX0_162 : MLv RX0 162 μX0_temperatureAt 1 := ⟨⟨(inT5 (List.mem_of_getElem? (i := 30) rfl) rfl), (inT1 (List.mem_of_getElem? (i := 2) rfl) rfl), kμX0_temperatureAt, ⟨by decide, by decide, by decide +kernel⟩, by decide⟩, (inT5 (List.mem_of_getElem? (i := 31) rfl) rfl), (inT5 (List.mem_of_getElem? (i := 32) rfl) rfl)⟩
theorem MX0_148 : NLs RX0 148 μX10_quotient 2 "LouvreCraft" := ⟨⟨(inL5 (List.mem_of_getElem? (i := 34) rfl)), (inT1 (List.mem_of_getElem? (i := 1) rfl) rfl), kμX10_quotient, ⟨by decide, by decide, by decide +kernel⟩, by decide⟩, (inT5 (List.mem_of_getElem? (i := 35) rfl) rfl)⟩
theorem MX0_174 : NLs RX0 174 μX10_limited 3 "LouvreCraft" := ⟨⟨(inL5 (List.mem_of_getElem? (i := 37) rfl)), (inT1 (List.mem_of_getElem? (i := 1) rfl) rfl), kμX10_limited, ⟨by decide, by decide, by decide +kernel⟩, by decide⟩, (inT5 (List.mem_of_getElem? (i := 38) rfl) rfl)⟩
theorem ML_147 : MLv RL 147 μX10_lowest 1 := ⟨⟨(inT5 (List.mem_of_getElem? (i := 40) rfl) rfl), (inT1 (List.mem_of_getElem? (i := 1) rfl) rfl), kμX10_lowest, ⟨by decide, by decide, by decide +kernel⟩, by decide⟩, (inT5 (List.mem_of_getElem? (i := 41) rfl) rfl), (inT5 (List.mem_of_getElem? (i := 42) rfl) rfl)⟩
theorem ML_150 : MLv RL 150 μX10_highest 1 := ⟨⟨(inT5 (List.mem_of_getElem? (i := 44) rfl) rfl), (inT1 (List.mem_of_getElem? (i := 1) rfl) rfl), kμX10_highest, ⟨by decide, by decide, by decide +kernel⟩, by decide⟩, (inT5 (List.mem_of_getElem? (i := 45) rfl) rfl), (inT5 (List.mem_of_getElem? (i := 46) rfl) rfl)⟩
theorem ML_153 : MLv RL 153 μX10_run 1 := ⟨⟨(inT5 (List.mem_of_getElem? (i := 48) rfl) rfl), (inT1 (List.mem_of_getElem? (i := 1) rfl) rfl), kμX10_run, ⟨by decide, by decide, by decide +kernel⟩, by decide⟩, (inT5 (List.mem_of_getElem? (i := 49) rfl) rfl), (inT5 (List.mem_of_getElem? (i := 50) rfl) rfl)⟩
theorem kX10_171 : Cond.constant RX10 171 (100000000 : Int32) ∈ tbG := (inT5 (List.mem_of_getElem? (i := 52) rfl) rfl)
theorem MX10_172 : MLv RX10 172 μX0_step 0 := ⟨⟨(inT5 (List.mem_of_getElem? (i := 53) rfl) rfl), (inT1 (List.mem_of_getElem? (i := 2) rfl) rfl), kμX0_step, ⟨by decide, by decide, by decide +kernel⟩, by decide⟩, (inT5 (List.mem_of_getElem? (i := 54) rfl) rfl), (inT5 (List.mem_of_getElem? (i := 55) rfl) rfl)⟩
theorem MX0_187 : MLv RX0 187 μX8_isDue 2 := ⟨⟨(inT5 (List.mem_of_getElem? (i := 57) rfl) rfl), (inT1 (List.mem_of_getElem? (i := 6) rfl) rfl), kμX8_isDue, ⟨by decide, by decide, by decide +kernel⟩, by decide⟩, (inT5 (List.mem_of_getElem? (i := 58) rfl) rfl), (inT5 (List.mem_of_getElem? (i := 59) rfl) rfl)⟩
theorem MX8_50 : MLv RX8 50 μX8_evaluate 3 := ⟨⟨(inT5 (List.mem_of_getElem? (i := 61) rfl) rfl), (inT1 (List.mem_of_getElem? (i := 6) rfl) rfl), kμX8_evaluate, ⟨by decide, by decide, by decide +kernel⟩, by decide⟩, (inT5 (List.mem_of_getElem? (i := 63) rfl) rfl), (inP2 (List.mem_of_getElem? (i := 9) rfl))⟩
theorem MX8_100 : MLs RX8 100 μX8_valueOf 3 := ⟨⟨(inT5 (List.mem_of_getElem? (i := 65) rfl) rfl), (inT1 (List.mem_of_getElem? (i := 6) rfl) rfl), kμX8_valueOf, ⟨by decide, by decide, by decide +kernel⟩, by decide⟩, (inT5 (List.mem_of_getElem? (i := 66) rfl) rfl)⟩
theorem MX8_107 : MLv RX8 107 μX0_temperatureAt 1 := ⟨⟨(inT5 (List.mem_of_getElem? (i := 68) rfl) rfl), (inT1 (List.mem_of_getElem? (i := 2) rfl) rfl), kμX0_temperatureAt, ⟨by decide, by decide, by decide +kernel⟩, by decide⟩, (inT5 (List.mem_of_getElem? (i := 31) rfl) rfl), (inT5 (List.mem_of_getElem? (i := 32) rfl) rfl)⟩
theorem MX8_75 : MLv RX8 75 μX0_hasLouvre 1 := ⟨⟨(inT5 (List.mem_of_getElem? (i := 69) rfl) rfl), (inT1 (List.mem_of_getElem? (i := 2) rfl) rfl), kμX0_hasLouvre, ⟨by decide, by decide, by decide +kernel⟩, by decide⟩, (inT5 (List.mem_of_getElem? (i := 19) rfl) rfl), (inT5 (List.mem_of_getElem? (i := 20) rfl) rfl)⟩
theorem MX8_88 : MLv RX8 88 μX0_hasHeater 1 := ⟨⟨(inT5 (List.mem_of_getElem? (i := 70) rfl) rfl), (inT1 (List.mem_of_getElem? (i := 2) rfl) rfl), kμX0_hasHeater, ⟨by decide, by decide, by decide +kernel⟩, by decide⟩, (inT5 (List.mem_of_getElem? (i := 71) rfl) rfl), (inT5 (List.mem_of_getElem? (i := 72) rfl) rfl)⟩
theorem MX8_117 : MLv RX8 117 μX0_hasSun 0 := ⟨⟨(inT5 (List.mem_of_getElem? (i := 74) rfl) rfl), (inT1 (List.mem_of_getElem? (i := 2) rfl) rfl), kμX0_hasSun, ⟨by decide, by decide, by decide +kernel⟩, by decide⟩, (inT3 (List.mem_of_getElem? (i := 194) rfl) rfl), (inT3 (List.mem_of_getElem? (i := 195) rfl) rfl)⟩
theorem MX8_121 : MLv RX8 121 μX0_phaseNow 0 := ⟨⟨(inT5 (List.mem_of_getElem? (i := 75) rfl) rfl), (inT1 (List.mem_of_getElem? (i := 2) rfl) rfl), kμX0_phaseNow, ⟨by decide, by decide, by decide +kernel⟩, by decide⟩, (inT3 (List.mem_of_getElem? (i := 198) rfl) rfl), (inT3 (List.mem_of_getElem? (i := 199) rfl) rfl)⟩
theorem MX8_134 : MLv RX8 134 μX0_powerInUse 0 := ⟨⟨(inT5 (List.mem_of_getElem? (i := 76) rfl) rfl), (inT1 (List.mem_of_getElem? (i := 2) rfl) rfl), kμX0_powerInUse, ⟨by decide, by decide, by decide +kernel⟩, by decide⟩, (inT4 (List.mem_of_getElem? (i := 1) rfl) rfl), (inT4 (List.mem_of_getElem? (i := 2) rfl) rfl)⟩
theorem MX8_103 : MLs RX8 103 μX8_operate 3 := ⟨⟨(inT5 (List.mem_of_getElem? (i := 77) rfl) rfl), (inT1 (List.mem_of_getElem? (i := 6) rfl) rfl), kμX8_operate, ⟨by decide, by decide, by decide +kernel⟩, by decide⟩, (inT5 (List.mem_of_getElem? (i := 78) rfl) rfl)⟩
theorem kX8_137 : Cond.constantLong RX8 137 (-1000000000000 : Int64) ∈ tbG := (inT5 (List.mem_of_getElem? (i := 80) rfl) rfl)
theorem kX8_139 : Cond.constantLong RX8 139 (1000000000000 : Int64) ∈ tbG := (inT5 (List.mem_of_getElem? (i := 81) rfl) rfl)
theorem MX8_66 : NLs RX8 66 μX10_limited 3 "LouvreCraft" := ⟨⟨(inL5 (List.mem_of_getElem? (i := 82) rfl)), (inT1 (List.mem_of_getElem? (i := 1) rfl) rfl), kμX10_limited, ⟨by decide, by decide, by decide +kernel⟩, by decide⟩, (inT5 (List.mem_of_getElem? (i := 38) rfl) rfl)⟩
theorem MX8_141 : MLs RX8 141 μX8_product 2 := ⟨⟨(inT5 (List.mem_of_getElem? (i := 83) rfl) rfl), (inT1 (List.mem_of_getElem? (i := 6) rfl) rfl), kμX8_product, ⟨by decide, by decide, by decide +kernel⟩, by decide⟩, (inT5 (List.mem_of_getElem? (i := 84) rfl) rfl)⟩
theorem AX8_148 : MA RX8 148 Lib.MathLoose.abs_long.x Lib.MathLoose.abs_long.code 2 (some .long) := ⟨(inT5 (List.mem_of_getElem? (i := 86) rfl) rfl), (inT5 (List.mem_of_getElem? (i := 87) rfl) rfl), (inT1 (List.mem_of_getElem? (i := 12) rfl) rfl), (inT5 (List.mem_of_getElem? (i := 88) rfl) rfl)⟩
theorem MX8_145 : NLs RX8 145 μX10_quotient 2 "LouvreCraft" := ⟨⟨(inL5 (List.mem_of_getElem? (i := 89) rfl)), (inT1 (List.mem_of_getElem? (i := 1) rfl) rfl), kμX10_quotient, ⟨by decide, by decide, by decide +kernel⟩, by decide⟩, (inT5 (List.mem_of_getElem? (i := 35) rfl) rfl)⟩
theorem MX0_191 : MLv RX0 191 μX8_act 2 := ⟨⟨(inT5 (List.mem_of_getElem? (i := 90) rfl) rfl), (inT1 (List.mem_of_getElem? (i := 6) rfl) rfl), kμX8_act, ⟨by decide, by decide, by decide +kernel⟩, by decide⟩, (inT5 (List.mem_of_getElem? (i := 91) rfl) rfl), (inT5 (List.mem_of_getElem? (i := 92) rfl) rfl)⟩
theorem MX8_54 : MLv RX8 54 μX0_hasNode 1 := ⟨⟨(inT5 (List.mem_of_getElem? (i := 94) rfl) rfl), (inT1 (List.mem_of_getElem? (i := 2) rfl) rfl), kμX0_hasNode, ⟨by decide, by decide, by decide +kernel⟩, by decide⟩, (inT3 (List.mem_of_getElem? (i := 96) rfl) rfl), (inT3 (List.mem_of_getElem? (i := 97) rfl) rfl)⟩
theorem kX8_64 : Cond.constantLong RX8 64 (1000000 : Int64) ∈ tbG := (inT5 (List.mem_of_getElem? (i := 95) rfl) rfl)
theorem MX0_195 : MLv RX0 195 μX0_moveLouvres 0 := ⟨⟨(inT5 (List.mem_of_getElem? (i := 96) rfl) rfl), (inT1 (List.mem_of_getElem? (i := 2) rfl) rfl), kμX0_moveLouvres, ⟨by decide, by decide, by decide +kernel⟩, by decide⟩, (inT5 (List.mem_of_getElem? (i := 98) rfl) rfl), (inP2 (List.mem_of_getElem? (i := 10) rfl))⟩
theorem MX0_218 : MLv RX0 218 μX0_targetOf 1 := ⟨⟨(inT5 (List.mem_of_getElem? (i := 100) rfl) rfl), (inT1 (List.mem_of_getElem? (i := 2) rfl) rfl), kμX0_targetOf, ⟨by decide, by decide, by decide +kernel⟩, by decide⟩, (inT5 (List.mem_of_getElem? (i := 27) rfl) rfl), (inT5 (List.mem_of_getElem? (i := 28) rfl) rfl)⟩
theorem MX0_222 : MLv RX0 222 μX3_moveTowards 1 := ⟨⟨(inT5 (List.mem_of_getElem? (i := 101) rfl) rfl), (inT1 (List.mem_of_getElem? (i := 9) rfl) rfl), kμX3_moveTowards, ⟨by decide, by decide, by decide +kernel⟩, by decide⟩, (inT5 (List.mem_of_getElem? (i := 102) rfl) rfl), (inT5 (List.mem_of_getElem? (i := 103) rfl) rfl)⟩
theorem MX3_36 : NLs RX3 36 μX10_limited 3 "LouvreCraft" := ⟨⟨(inL5 (List.mem_of_getElem? (i := 105) rfl)), (inT1 (List.mem_of_getElem? (i := 1) rfl) rfl), kμX10_limited, ⟨by decide, by decide, by decide +kernel⟩, by decide⟩, (inT5 (List.mem_of_getElem? (i := 38) rfl) rfl)⟩
theorem MX0_198 : MLv RX0 198 μX0_decideWishes 0 := ⟨⟨(inT5 (List.mem_of_getElem? (i := 106) rfl) rfl), (inT1 (List.mem_of_getElem? (i := 2) rfl) rfl), kμX0_decideWishes, ⟨by decide, by decide, by decide +kernel⟩, by decide⟩, (inT5 (List.mem_of_getElem? (i := 108) rfl) rfl), (inP2 (List.mem_of_getElem? (i := 11) rfl))⟩
theorem MX0_227 : MLv RX0 227 μX1_decideWish 1 := ⟨⟨(inT5 (List.mem_of_getElem? (i := 110) rfl) rfl), (inT1 (List.mem_of_getElem? (i := 10) rfl) rfl), kμX1_decideWish, ⟨by decide, by decide, by decide +kernel⟩, by decide⟩, (inT5 (List.mem_of_getElem? (i := 111) rfl) rfl), (inT5 (List.mem_of_getElem? (i := 112) rfl) rfl)⟩
theorem MX0_201 : MLv RX0 201 μX0_sharePower 0 := ⟨⟨(inT5 (List.mem_of_getElem? (i := 114) rfl) rfl), (inT1 (List.mem_of_getElem? (i := 2) rfl) rfl), kμX0_sharePower, ⟨by decide, by decide, by decide +kernel⟩, by decide⟩, (inT5 (List.mem_of_getElem? (i := 116) rfl) rfl), (inP2 (List.mem_of_getElem? (i := 12) rfl))⟩
theorem AX0_242 : MA RX0 242 Lib.MathLoose.max_long.x Lib.MathLoose.max_long.code 4 (some .long) := ⟨(inT5 (List.mem_of_getElem? (i := 118) rfl) rfl), (inT5 (List.mem_of_getElem? (i := 119) rfl) rfl), (inT1 (List.mem_of_getElem? (i := 12) rfl) rfl), (inT5 (List.mem_of_getElem? (i := 120) rfl) rfl)⟩
theorem MX0_247 : MLv RX0 247 μX0_hasHeater 1 := ⟨⟨(inT5 (List.mem_of_getElem? (i := 121) rfl) rfl), (inT1 (List.mem_of_getElem? (i := 2) rfl) rfl), kμX0_hasHeater, ⟨by decide, by decide, by decide +kernel⟩, by decide⟩, (inT5 (List.mem_of_getElem? (i := 71) rfl) rfl), (inT5 (List.mem_of_getElem? (i := 72) rfl) rfl)⟩
theorem MX0_250 : MLv RX0 250 μX0_switchHeater 2 := ⟨⟨(inT5 (List.mem_of_getElem? (i := 122) rfl) rfl), (inT1 (List.mem_of_getElem? (i := 2) rfl) rfl), kμX0_switchHeater, ⟨by decide, by decide, by decide +kernel⟩, by decide⟩, (inT5 (List.mem_of_getElem? (i := 124) rfl) rfl), (inP2 (List.mem_of_getElem? (i := 13) rfl))⟩
theorem MX0_204 : MLv RX0 204 μX0_balanceHeat 0 := ⟨⟨(inT5 (List.mem_of_getElem? (i := 126) rfl) rfl), (inT1 (List.mem_of_getElem? (i := 2) rfl) rfl), kμX0_balanceHeat, ⟨by decide, by decide, by decide +kernel⟩, by decide⟩, (inT3 (List.mem_of_getElem? (i := 190) rfl) rfl), (inT3 (List.mem_of_getElem? (i := 191) rfl) rfl)⟩
theorem MX0_207 : MLv RX0 207 μX0_warmNodes 0 := ⟨⟨(inT5 (List.mem_of_getElem? (i := 127) rfl) rfl), (inT1 (List.mem_of_getElem? (i := 2) rfl) rfl), kμX0_warmNodes, ⟨by decide, by decide, by decide +kernel⟩, by decide⟩, (inT5 (List.mem_of_getElem? (i := 129) rfl) rfl), (inP2 (List.mem_of_getElem? (i := 14) rfl))⟩
theorem MX0_303 : MLv RX0 303 μX4_warm 1 := ⟨⟨(inT5 (List.mem_of_getElem? (i := 131) rfl) rfl), (inT1 (List.mem_of_getElem? (i := 7) rfl) rfl), kμX4_warm, ⟨by decide, by decide, by decide +kernel⟩, by decide⟩, (inT5 (List.mem_of_getElem? (i := 132) rfl) rfl), (inT5 (List.mem_of_getElem? (i := 133) rfl) rfl)⟩
theorem MX4_71 : MLv RX4 71 μX4_gain 0 := ⟨⟨(inT5 (List.mem_of_getElem? (i := 135) rfl) rfl), (inT1 (List.mem_of_getElem? (i := 7) rfl) rfl), kμX4_gain, ⟨by decide, by decide, by decide +kernel⟩, by decide⟩, (inT3 (List.mem_of_getElem? (i := 233) rfl) rfl), (inT3 (List.mem_of_getElem? (i := 234) rfl) rfl)⟩
theorem MX4_75 : NLs RX4 75 μX10_quotient 2 "LouvreCraft" := ⟨⟨(inL5 (List.mem_of_getElem? (i := 136) rfl)), (inT1 (List.mem_of_getElem? (i := 1) rfl) rfl), kμX10_quotient, ⟨by decide, by decide, by decide +kernel⟩, by decide⟩, (inT5 (List.mem_of_getElem? (i := 35) rfl) rfl)⟩
theorem kX4_79 : Cond.constantLong RX4 79 (-200000 : Int64) ∈ tbG := (inT5 (List.mem_of_getElem? (i := 137) rfl) rfl)
theorem kX4_81 : Cond.constantLong RX4 81 (200000 : Int64) ∈ tbG := (inT5 (List.mem_of_getElem? (i := 138) rfl) rfl)
theorem MX4_83 : NLs RX4 83 μX10_limited 3 "LouvreCraft" := ⟨⟨(inL5 (List.mem_of_getElem? (i := 139) rfl)), (inT1 (List.mem_of_getElem? (i := 1) rfl) rfl), kμX10_limited, ⟨by decide, by decide, by decide +kernel⟩, by decide⟩, (inT5 (List.mem_of_getElem? (i := 38) rfl) rfl)⟩
theorem MX0_210 : MLv RX0 210 μX0_recordTemperatures 0 := ⟨⟨(inT5 (List.mem_of_getElem? (i := 140) rfl) rfl), (inT1 (List.mem_of_getElem? (i := 2) rfl) rfl), kμX0_recordTemperatures, ⟨by decide, by decide, by decide +kernel⟩, by decide⟩, (inT5 (List.mem_of_getElem? (i := 142) rfl) rfl), (inP2 (List.mem_of_getElem? (i := 15) rfl))⟩
theorem AX0_309 : MA RX0 309 Lib.Math.min.name Lib.Math.min.code 2 (some .int) := ⟨(inT5 (List.mem_of_getElem? (i := 144) rfl) rfl), (inT4 (List.mem_of_getElem? (i := 124) rfl) rfl), (inT1 (List.mem_of_getElem? (i := 12) rfl) rfl), (inT4 (List.mem_of_getElem? (i := 125) rfl) rfl)⟩
theorem AX0_316 : MA RX0 316 Lib.Math.max.name Lib.Math.max.code 2 (some .int) := ⟨(inT5 (List.mem_of_getElem? (i := 145) rfl) rfl), (inT3 (List.mem_of_getElem? (i := 53) rfl) rfl), (inT1 (List.mem_of_getElem? (i := 12) rfl) rfl), (inT3 (List.mem_of_getElem? (i := 54) rfl) rfl)⟩
theorem MX0_318 : MLv RX0 318 μX4_isOutside 0 := ⟨⟨(inT5 (List.mem_of_getElem? (i := 146) rfl) rfl), (inT1 (List.mem_of_getElem? (i := 7) rfl) rfl), kμX4_isOutside, ⟨by decide, by decide, by decide +kernel⟩, by decide⟩, (inT5 (List.mem_of_getElem? (i := 147) rfl) rfl), (inT5 (List.mem_of_getElem? (i := 148) rfl) rfl)⟩
theorem MX0_327 : MLv RX0 327 μX6_addViolator 1 := ⟨⟨(inT5 (List.mem_of_getElem? (i := 150) rfl) rfl), (inT1 (List.mem_of_getElem? (i := 5) rfl) rfl), kμX6_addViolator, ⟨by decide, by decide, by decide +kernel⟩, by decide⟩, (inT5 (List.mem_of_getElem? (i := 151) rfl) rfl), (inT5 (List.mem_of_getElem? (i := 152) rfl) rfl)⟩
theorem ML_156 : MLv RL 156 μX10_isHeld 1 := ⟨⟨(inT5 (List.mem_of_getElem? (i := 154) rfl) rfl), (inT1 (List.mem_of_getElem? (i := 1) rfl) rfl), kμX10_isHeld, ⟨by decide, by decide, by decide +kernel⟩, by decide⟩, (inT5 (List.mem_of_getElem? (i := 155) rfl) rfl), (inT5 (List.mem_of_getElem? (i := 156) rfl) rfl)⟩
theorem AL_159 : MA RL 159 Lib.Math.min.name Lib.Math.min.code 2 (some .int) := ⟨(inT5 (List.mem_of_getElem? (i := 158) rfl) rfl), (inT4 (List.mem_of_getElem? (i := 124) rfl) rfl), (inT1 (List.mem_of_getElem? (i := 12) rfl) rfl), (inT4 (List.mem_of_getElem? (i := 125) rfl) rfl)⟩
theorem ML_162 : MLv RL 162 μX10_heaterState 1 := ⟨⟨(inT5 (List.mem_of_getElem? (i := 159) rfl) rfl), (inT1 (List.mem_of_getElem? (i := 1) rfl) rfl), kμX10_heaterState, ⟨by decide, by decide, by decide +kernel⟩, by decide⟩, (inT5 (List.mem_of_getElem? (i := 160) rfl) rfl), (inT5 (List.mem_of_getElem? (i := 161) rfl) rfl)⟩
theorem MX10_137 : MLv RX10 137 μX0_hasHeater 1 := ⟨⟨(inT5 (List.mem_of_getElem? (i := 163) rfl) rfl), (inT1 (List.mem_of_getElem? (i := 2) rfl) rfl), kμX0_hasHeater, ⟨by decide, by decide, by decide +kernel⟩, by decide⟩, (inT5 (List.mem_of_getElem? (i := 71) rfl) rfl), (inT5 (List.mem_of_getElem? (i := 72) rfl) rfl)⟩
theorem ML_165 : MLv RL 165 μX10_heaterMode 1 := ⟨⟨(inT5 (List.mem_of_getElem? (i := 164) rfl) rfl), (inT1 (List.mem_of_getElem? (i := 1) rfl) rfl), kμX10_heaterMode, ⟨by decide, by decide, by decide +kernel⟩, by decide⟩, (inT5 (List.mem_of_getElem? (i := 165) rfl) rfl), (inT5 (List.mem_of_getElem? (i := 166) rfl) rfl)⟩
theorem ML_168 : MLv RL 168 μX10_temperature 1 := ⟨⟨(inT5 (List.mem_of_getElem? (i := 168) rfl) rfl), (inT1 (List.mem_of_getElem? (i := 1) rfl) rfl), kμX10_temperature, ⟨by decide, by decide, by decide +kernel⟩, by decide⟩, (inT5 (List.mem_of_getElem? (i := 169) rfl) rfl), (inT5 (List.mem_of_getElem? (i := 170) rfl) rfl)⟩
theorem ML_171 : MLv RL 171 μX10_margin 1 := ⟨⟨(inT5 (List.mem_of_getElem? (i := 172) rfl) rfl), (inT1 (List.mem_of_getElem? (i := 1) rfl) rfl), kμX10_margin, ⟨by decide, by decide, by decide +kernel⟩, by decide⟩, (inT5 (List.mem_of_getElem? (i := 173) rfl) rfl), (inT5 (List.mem_of_getElem? (i := 174) rfl) rfl)⟩
theorem AX10_208 : MA RX10 208 Lib.Math.min.name Lib.Math.min.code 2 (some .int) := ⟨(inT5 (List.mem_of_getElem? (i := 176) rfl) rfl), (inT4 (List.mem_of_getElem? (i := 124) rfl) rfl), (inT1 (List.mem_of_getElem? (i := 12) rfl) rfl), (inT4 (List.mem_of_getElem? (i := 125) rfl) rfl)⟩
theorem kL_174 : Cond.constant RL 174 (-200000 : Int32) ∈ tbG := (inT5 (List.mem_of_getElem? (i := 177) rfl) rfl)
theorem kL_175 : Cond.constant RL 175 (200000 : Int32) ∈ tbG := (inT5 (List.mem_of_getElem? (i := 178) rfl) rfl)
theorem ML_176 : MLv RL 176 μX10_violations 1 := ⟨⟨(inT5 (List.mem_of_getElem? (i := 179) rfl) rfl), (inT1 (List.mem_of_getElem? (i := 1) rfl) rfl), kμX10_violations, ⟨by decide, by decide, by decide +kernel⟩, by decide⟩, (inT5 (List.mem_of_getElem? (i := 180) rfl) rfl), (inT5 (List.mem_of_getElem? (i := 181) rfl) rfl)⟩
theorem ML_179 : MLv RL 179 μX10_firstViolation 1 := ⟨⟨(inT5 (List.mem_of_getElem? (i := 183) rfl) rfl), (inT1 (List.mem_of_getElem? (i := 1) rfl) rfl), kμX10_firstViolation, ⟨by decide, by decide, by decide +kernel⟩, by decide⟩, (inT5 (List.mem_of_getElem? (i := 184) rfl) rfl), (inT5 (List.mem_of_getElem? (i := 185) rfl) rfl)⟩
theorem ML_246 : MLv RL 246 μL_sheds 0 := ⟨⟨(inT5 (List.mem_of_getElem? (i := 187) rfl) rfl), (inT1 (List.mem_of_getElem? (i := 0) rfl) rfl), kμL_sheds, ⟨by decide, by decide, by decide +kernel⟩, by decide⟩, (inT5 (List.mem_of_getElem? (i := 189) rfl) rfl), (inP3 (List.mem_of_getElem? (i := 0) rfl))⟩
theorem ML_249 : MLv RL 249 μL_changes 0 := ⟨⟨(inT5 (List.mem_of_getElem? (i := 191) rfl) rfl), (inT1 (List.mem_of_getElem? (i := 0) rfl) rfl), kμL_changes, ⟨by decide, by decide, by decide +kernel⟩, by decide⟩, (inT5 (List.mem_of_getElem? (i := 193) rfl) rfl), (inP3 (List.mem_of_getElem? (i := 1) rfl))⟩
theorem ML_196 : MLv RL 196 μX10_setMode 2 := ⟨⟨(inT5 (List.mem_of_getElem? (i := 195) rfl) rfl), (inT1 (List.mem_of_getElem? (i := 1) rfl) rfl), kμX10_setMode, ⟨by decide, by decide, by decide +kernel⟩, by decide⟩, (inT5 (List.mem_of_getElem? (i := 196) rfl) rfl), (inT5 (List.mem_of_getElem? (i := 197) rfl) rfl)⟩
theorem ML_201 : MLi RL 201 μJ4_init_da8c8 0 := ⟨⟨(inT5 (List.mem_of_getElem? (i := 201) rfl) rfl), (inT1 (List.mem_of_getElem? (i := 20) rfl) rfl), kμJ4_init_da8c8, ⟨by decide, by decide, by decide +kernel⟩, by decide⟩, (inT5 (List.mem_of_getElem? (i := 202) rfl) rfl), rfl, rfl⟩
theorem MJ4_1 : MLi RJ4 1 μJ5_init_d00df 1 := ⟨⟨(inT5 (List.mem_of_getElem? (i := 204) rfl) rfl), (inT1 (List.mem_of_getElem? (i := 19) rfl) rfl), kμJ5_init_d00df, ⟨by decide, by decide, by decide +kernel⟩, by decide⟩, (inT5 (List.mem_of_getElem? (i := 205) rfl) rfl), rfl, rfl⟩
theorem OJ5_3 : Cond.methodLink RJ5 3 Lib.objectInit ∈ tbG := (inT5 (List.mem_of_getElem? (i := 207) rfl) rfl)
theorem MJ5_26 : MLs RJ5 26 μJ2_newBytesFor_77867 1 := ⟨⟨(inT5 (List.mem_of_getElem? (i := 209) rfl) rfl), (inT1 (List.mem_of_getElem? (i := 17) rfl) rfl), kμJ2_newBytesFor_77867, ⟨by decide, by decide, by decide +kernel⟩, by decide⟩, (inT5 (List.mem_of_getElem? (i := 210) rfl) rfl)⟩
theorem MJ2_11 : MLs RJ2 11 μJ2_newBytesLength_0f7a4 1 := ⟨⟨(inT5 (List.mem_of_getElem? (i := 212) rfl) rfl), (inT1 (List.mem_of_getElem? (i := 17) rfl) rfl), kμJ2_newBytesLength_0f7a4, ⟨by decide, by decide, by decide +kernel⟩, by decide⟩, (inT5 (List.mem_of_getElem? (i := 213) rfl) rfl)⟩
theorem kJ2_20 : Cond.constant RJ2 20 (1073741823 : Int32) ∈ tbG := (inT5 (List.mem_of_getElem? (i := 215) rfl) rfl)
theorem ML_204 : MLv RL 204 μJ4_append_15ec4 1 := ⟨⟨(inT5 (List.mem_of_getElem? (i := 230) rfl) rfl), (inT1 (List.mem_of_getElem? (i := 20) rfl) rfl), kμJ4_append_15ec4, ⟨by decide, by decide, by decide +kernel⟩, by decide⟩, (inT5 (List.mem_of_getElem? (i := 231) rfl) rfl), (inT5 (List.mem_of_getElem? (i := 232) rfl) rfl)⟩
theorem MJ5_114 : MLs RJ5 114 μJ8_newLength_cabcc 3 := ⟨⟨(inT6 (List.mem_of_getElem? (i := 9) rfl) rfl), (inT1 (List.mem_of_getElem? (i := 21) rfl) rfl), kμJ8_newLength_cabcc, ⟨by decide, by decide, by decide +kernel⟩, by decide⟩, (inT6 (List.mem_of_getElem? (i := 10) rfl) rfl)⟩
theorem AJ8_194 : MA RJ8 194 Lib.Math.max.name Lib.Math.max.code 2 (some .int) := ⟨(inT6 (List.mem_of_getElem? (i := 12) rfl) rfl), (inT3 (List.mem_of_getElem? (i := 53) rfl) rfl), (inT1 (List.mem_of_getElem? (i := 12) rfl) rfl), (inT3 (List.mem_of_getElem? (i := 54) rfl) rfl)⟩
theorem kJ8_200 : Cond.constant RJ8 200 (2147483639 : Int32) ∈ tbG := (inT6 (List.mem_of_getElem? (i := 13) rfl) rfl)
theorem MJ8_201 : MLs RJ8 201 μJ8_hugeLength_7cf53 2 := ⟨⟨(inT6 (List.mem_of_getElem? (i := 14) rfl) rfl), (inT1 (List.mem_of_getElem? (i := 21) rfl) rfl), kμJ8_hugeLength_7cf53, ⟨by decide, by decide, by decide +kernel⟩, by decide⟩, (inT6 (List.mem_of_getElem? (i := 15) rfl) rfl)⟩
theorem kJ5_39 : Cond.constant RJ5 39 (2147483647 : Int32) ∈ tbG := (inT6 (List.mem_of_getElem? (i := 17) rfl) rfl)
theorem MJ5_108 : MLs RJ5 108 μJ7_copyOf_9075b 2 := ⟨⟨(inT6 (List.mem_of_getElem? (i := 18) rfl) rfl), (inT1 (List.mem_of_getElem? (i := 22) rfl) rfl), kμJ7_copyOf_9075b, ⟨by decide, by decide, by decide +kernel⟩, by decide⟩, (inT6 (List.mem_of_getElem? (i := 19) rfl) rfl)⟩
theorem AJ7_304 : MA RJ7 304 Lib.Math.min.name Lib.Math.min.code 2 (some .int) := ⟨(inT6 (List.mem_of_getElem? (i := 28) rfl) rfl), (inT4 (List.mem_of_getElem? (i := 124) rfl) rfl), (inT1 (List.mem_of_getElem? (i := 12) rfl) rfl), (inT4 (List.mem_of_getElem? (i := 125) rfl) rfl)⟩
theorem YJ7_150 : Cond.methodLink RJ7 150 arraycopyName ∈ tbG := (inT6 (List.mem_of_getElem? (i := 29) rfl) rfl)
theorem MJ5_226 : MLs RJ5 226 μJ2_putCharsAt_cd4e5 6 := ⟨⟨(inT6 (List.mem_of_getElem? (i := 35) rfl) rfl), (inT1 (List.mem_of_getElem? (i := 17) rfl) rfl), kμJ2_putCharsAt_cd4e5, ⟨by decide, by decide, by decide +kernel⟩, by decide⟩, (inT6 (List.mem_of_getElem? (i := 36) rfl) rfl)⟩
theorem MJ2_111 : MLs RJ2 111 μJ2_putChar_b72d1 3 := ⟨⟨(inT6 (List.mem_of_getElem? (i := 38) rfl) rfl), (inT1 (List.mem_of_getElem? (i := 17) rfl) rfl), kμJ2_putChar_b72d1, ⟨by decide, by decide, by decide +kernel⟩, by decide⟩, (inT6 (List.mem_of_getElem? (i := 39) rfl) rfl)⟩
theorem MJ5_32 : MLv RJ5 32 μJ0_length_8abf5 0 := ⟨⟨(inT6 (List.mem_of_getElem? (i := 41) rfl) rfl), (inT1 (List.mem_of_getElem? (i := 14) rfl) rfl), kμJ0_length_8abf5, ⟨by decide, by decide, by decide +kernel⟩, by decide⟩, (inT4 (List.mem_of_getElem? (i := 14) rfl) rfl), (inT4 (List.mem_of_getElem? (i := 15) rfl) rfl)⟩
theorem MJ5_40 : MLv RJ5 40 μJ0_coder_7d493 0 := ⟨⟨(inT6 (List.mem_of_getElem? (i := 50) rfl) rfl), (inT1 (List.mem_of_getElem? (i := 14) rfl) rfl), kμJ0_coder_7d493, ⟨by decide, by decide, by decide +kernel⟩, by decide⟩, (inT4 (List.mem_of_getElem? (i := 18) rfl) rfl), (inT4 (List.mem_of_getElem? (i := 19) rfl) rfl)⟩
theorem MJ5_125 : MLs RJ5 125 μJ1_inflate_0e8fd 5 := ⟨⟨(inT6 (List.mem_of_getElem? (i := 55) rfl) rfl), (inT1 (List.mem_of_getElem? (i := 15) rfl) rfl), kμJ1_inflate_0e8fd, ⟨by decide, by decide, by decide +kernel⟩, by decide⟩, (inT6 (List.mem_of_getElem? (i := 56) rfl) rfl)⟩
theorem MJ1_240 : MLs RJ1 240 μJ2_inflate_0e8fd 5 := ⟨⟨(inT6 (List.mem_of_getElem? (i := 58) rfl) rfl), (inT1 (List.mem_of_getElem? (i := 17) rfl) rfl), kμJ2_inflate_0e8fd, ⟨by decide, by decide, by decide +kernel⟩, by decide⟩, (inT6 (List.mem_of_getElem? (i := 59) rfl) rfl)⟩
theorem MJ2_173 : MLs RJ2 173 μJ2_checkBoundsOffCount_d044e 3 := ⟨⟨(inT6 (List.mem_of_getElem? (i := 61) rfl) rfl), (inT1 (List.mem_of_getElem? (i := 17) rfl) rfl), kμJ2_checkBoundsOffCount_d044e, ⟨by decide, by decide, by decide +kernel⟩, by decide⟩, (inT6 (List.mem_of_getElem? (i := 62) rfl) rfl)⟩
theorem MJ2_419 : MLs RJ2 419 μJ0_checkBoundsOffCount_cabcc 3 := ⟨⟨(inT6 (List.mem_of_getElem? (i := 64) rfl) rfl), (inT1 (List.mem_of_getElem? (i := 14) rfl) rfl), kμJ0_checkBoundsOffCount_cabcc, ⟨by decide, by decide, by decide +kernel⟩, by decide⟩, (inT6 (List.mem_of_getElem? (i := 65) rfl) rfl)⟩
theorem MJ0_1065 : MLs RJ0 1065 μJ3_checkFromIndexSize_8c36e 4 := ⟨⟨(inT6 (List.mem_of_getElem? (i := 67) rfl) rfl), (inT1 (List.mem_of_getElem? (i := 16) rfl) rfl), kμJ3_checkFromIndexSize_8c36e, ⟨by decide, by decide, by decide +kernel⟩, by decide⟩, (inT6 (List.mem_of_getElem? (i := 68) rfl) rfl)⟩
theorem MJ5_399 : MLv RJ5 399 μJ0_getBytes_840e7 3 := ⟨⟨(inT6 (List.mem_of_getElem? (i := 70) rfl) rfl), (inT1 (List.mem_of_getElem? (i := 14) rfl) rfl), kμJ0_getBytes_840e7, ⟨by decide, by decide, by decide +kernel⟩, by decide⟩, (inT6 (List.mem_of_getElem? (i := 71) rfl) rfl), (inT6 (List.mem_of_getElem? (i := 72) rfl) rfl)⟩
theorem YJ0_212 : Cond.methodLink RJ0 212 arraycopyName ∈ tbG := (inT6 (List.mem_of_getElem? (i := 74) rfl) rfl)
theorem MJ0_106 : MLs RJ0 106 μJ1_inflate_0e8fd 5 := ⟨⟨(inT6 (List.mem_of_getElem? (i := 75) rfl) rfl), (inT1 (List.mem_of_getElem? (i := 15) rfl) rfl), kμJ1_inflate_0e8fd, ⟨by decide, by decide, by decide +kernel⟩, by decide⟩, (inT6 (List.mem_of_getElem? (i := 56) rfl) rfl)⟩
theorem ML_208 : MLv RL 208 μJ4_append_bf812 1 := ⟨⟨(inT6 (List.mem_of_getElem? (i := 76) rfl) rfl), (inT1 (List.mem_of_getElem? (i := 20) rfl) rfl), kμJ4_append_bf812, ⟨by decide, by decide, by decide +kernel⟩, by decide⟩, (inT6 (List.mem_of_getElem? (i := 77) rfl) rfl), (inT6 (List.mem_of_getElem? (i := 78) rfl) rfl)⟩
theorem MJ5_245 : MLs RJ5 245 μJ6_stringSize_0f7a4 1 := ⟨⟨(inT6 (List.mem_of_getElem? (i := 83) rfl) rfl), (inT1 (List.mem_of_getElem? (i := 24) rfl) rfl), kμJ6_stringSize_0f7a4, ⟨by decide, by decide, by decide +kernel⟩, by decide⟩, (inT6 (List.mem_of_getElem? (i := 84) rfl) rfl)⟩
theorem MJ5_248 : MLs RJ5 248 μJ6_getChars_ba4f3 3 := ⟨⟨(inT6 (List.mem_of_getElem? (i := 86) rfl) rfl), (inT1 (List.mem_of_getElem? (i := 24) rfl) rfl), kμJ6_getChars_ba4f3, ⟨by decide, by decide, by decide +kernel⟩, by decide⟩, (inT6 (List.mem_of_getElem? (i := 87) rfl) rfl)⟩
theorem MJ5_251 : MLs RJ5 251 μJ2_getChars_46870 4 := ⟨⟨(inT6 (List.mem_of_getElem? (i := 93) rfl) rfl), (inT1 (List.mem_of_getElem? (i := 17) rfl) rfl), kμJ2_getChars_46870, ⟨by decide, by decide, by decide +kernel⟩, by decide⟩, (inT6 (List.mem_of_getElem? (i := 94) rfl) rfl)⟩
theorem MJ2_393 : MLs RJ2 393 μJ2_getChars_ba4f3 3 := ⟨⟨(inT6 (List.mem_of_getElem? (i := 96) rfl) rfl), (inT1 (List.mem_of_getElem? (i := 17) rfl) rfl), kμJ2_getChars_ba4f3, ⟨by decide, by decide, by decide +kernel⟩, by decide⟩, (inT6 (List.mem_of_getElem? (i := 97) rfl) rfl)⟩
theorem ML_215 : MLv RL 215 μJ4_toString_0e30d 0 := ⟨⟨(inT6 (List.mem_of_getElem? (i := 103) rfl) rfl), (inT1 (List.mem_of_getElem? (i := 20) rfl) rfl), kμJ4_toString_0e30d, ⟨by decide, by decide, by decide +kernel⟩, by decide⟩, (inT6 (List.mem_of_getElem? (i := 104) rfl) rfl), (inT6 (List.mem_of_getElem? (i := 105) rfl) rfl)⟩
theorem MJ4_137 : MLi RJ4 137 μJ0_init_81219 1 := ⟨⟨(inT6 (List.mem_of_getElem? (i := 109) rfl) rfl), (inT1 (List.mem_of_getElem? (i := 14) rfl) rfl), kμJ0_init_81219, ⟨by decide, by decide, by decide +kernel⟩, by decide⟩, (inT6 (List.mem_of_getElem? (i := 110) rfl) rfl), rfl, rfl⟩
theorem MJ0_489 : MLi RJ0 489 μJ0_init_db425 2 := ⟨⟨(inT6 (List.mem_of_getElem? (i := 112) rfl) rfl), (inT1 (List.mem_of_getElem? (i := 14) rfl) rfl), kμJ0_init_db425, ⟨by decide, by decide, by decide +kernel⟩, by decide⟩, (inT6 (List.mem_of_getElem? (i := 113) rfl) rfl), rfl, rfl⟩
theorem OJ0_1 : Cond.methodLink RJ0 1 Lib.objectInit ∈ tbG := (inT6 (List.mem_of_getElem? (i := 115) rfl) rfl)
theorem MJ0_54 : MLs RJ0 54 μJ7_copyOfRange_39247 3 := ⟨⟨(inT6 (List.mem_of_getElem? (i := 130) rfl) rfl), (inT1 (List.mem_of_getElem? (i := 22) rfl) rfl), kμJ7_copyOfRange_39247, ⟨by decide, by decide, by decide +kernel⟩, by decide⟩, (inT6 (List.mem_of_getElem? (i := 131) rfl) rfl)⟩
theorem MJ7_339 : MLs RJ7 339 μJ7_copyOfRangeByte_39247 3 := ⟨⟨(inT6 (List.mem_of_getElem? (i := 133) rfl) rfl), (inT1 (List.mem_of_getElem? (i := 22) rfl) rfl), kμJ7_copyOfRangeByte_39247, ⟨by decide, by decide, by decide +kernel⟩, by decide⟩, (inT6 (List.mem_of_getElem? (i := 134) rfl) rfl)⟩
theorem MJ7_343 : MLs RJ7 343 μJ7_checkLength_df160 2 := ⟨⟨(inT6 (List.mem_of_getElem? (i := 136) rfl) rfl), (inT1 (List.mem_of_getElem? (i := 22) rfl) rfl), kμJ7_checkLength_df160, ⟨by decide, by decide, by decide +kernel⟩, by decide⟩, (inT6 (List.mem_of_getElem? (i := 137) rfl) rfl)⟩
theorem MJ0_1051 : MLs RJ0 1051 μJ2_compress_39247 3 := ⟨⟨(inT6 (List.mem_of_getElem? (i := 139) rfl) rfl), (inT1 (List.mem_of_getElem? (i := 17) rfl) rfl), kμJ2_compress_39247, ⟨by decide, by decide, by decide +kernel⟩, by decide⟩, (inT6 (List.mem_of_getElem? (i := 140) rfl) rfl)⟩
theorem MJ2_123 : MLs RJ2 123 μJ2_compress_5af95 5 := ⟨⟨(inT6 (List.mem_of_getElem? (i := 142) rfl) rfl), (inT1 (List.mem_of_getElem? (i := 17) rfl) rfl), kμJ2_compress_5af95, ⟨by decide, by decide, by decide +kernel⟩, by decide⟩, (inT6 (List.mem_of_getElem? (i := 143) rfl) rfl)⟩
theorem MJ2_126 : MLs RJ2 126 μJ7_copyOfRange_39247 3 := ⟨⟨(inT6 (List.mem_of_getElem? (i := 145) rfl) rfl), (inT1 (List.mem_of_getElem? (i := 22) rfl) rfl), kμJ7_copyOfRange_39247, ⟨by decide, by decide, by decide +kernel⟩, by decide⟩, (inT6 (List.mem_of_getElem? (i := 131) rfl) rfl)⟩
theorem MJ0_47 : MLs RJ0 47 μJ2_coderFromArrayLen_85cad 2 := ⟨⟨(inT6 (List.mem_of_getElem? (i := 146) rfl) rfl), (inT1 (List.mem_of_getElem? (i := 17) rfl) rfl), kμJ2_coderFromArrayLen_85cad, ⟨by decide, by decide, by decide +kernel⟩, by decide⟩, (inT6 (List.mem_of_getElem? (i := 147) rfl) rfl)⟩
theorem ML_226 : MLv RL 226 μX10_setLimits 3 := ⟨⟨(inT6 (List.mem_of_getElem? (i := 160) rfl) rfl), (inT1 (List.mem_of_getElem? (i := 1) rfl) rfl), kμX10_setLimits, ⟨by decide, by decide, by decide +kernel⟩, by decide⟩, (inT6 (List.mem_of_getElem? (i := 161) rfl) rfl), (inT6 (List.mem_of_getElem? (i := 162) rfl) rfl)⟩
theorem ML_252 : MLv RL 252 μL_holdsCharge 0 := ⟨⟨(inT6 (List.mem_of_getElem? (i := 164) rfl) rfl), (inT1 (List.mem_of_getElem? (i := 0) rfl) rfl), kμL_holdsCharge, ⟨by decide, by decide, by decide +kernel⟩, by decide⟩, (inT6 (List.mem_of_getElem? (i := 166) rfl) rfl), (inP3 (List.mem_of_getElem? (i := 2) rfl))⟩
theorem kL_182 : Cond.constant RL 182 (100000 : Int32) ∈ tbG := (inT6 (List.mem_of_getElem? (i := 168) rfl) rfl)
theorem ML_183 : MLv RL 183 μX10_charge 0 := ⟨⟨(inT6 (List.mem_of_getElem? (i := 169) rfl) rfl), (inT1 (List.mem_of_getElem? (i := 1) rfl) rfl), kμX10_charge, ⟨by decide, by decide, by decide +kernel⟩, by decide⟩, (inT6 (List.mem_of_getElem? (i := 170) rfl) rfl), (inT6 (List.mem_of_getElem? (i := 171) rfl) rfl)⟩
theorem ML_255 : MLv RL 255 μL_rests 0 := ⟨⟨(inT6 (List.mem_of_getElem? (i := 173) rfl) rfl), (inT1 (List.mem_of_getElem? (i := 0) rfl) rfl), kμL_rests, ⟨by decide, by decide, by decide +kernel⟩, by decide⟩, (inT6 (List.mem_of_getElem? (i := 175) rfl) rfl), (inP3 (List.mem_of_getElem? (i := 3) rfl))⟩
theorem ML_186 : MLv RL 186 μX10_save 1 := ⟨⟨(inT6 (List.mem_of_getElem? (i := 177) rfl) rfl), (inT1 (List.mem_of_getElem? (i := 1) rfl) rfl), kμX10_save, ⟨by decide, by decide, by decide +kernel⟩, by decide⟩, (inT6 (List.mem_of_getElem? (i := 178) rfl) rfl), (inT6 (List.mem_of_getElem? (i := 179) rfl) rfl)⟩
theorem MX10_254 : MLv RX10 254 μX0_copyFrom 1 := ⟨⟨(inT6 (List.mem_of_getElem? (i := 181) rfl) rfl), (inT1 (List.mem_of_getElem? (i := 2) rfl) rfl), kμX0_copyFrom, ⟨by decide, by decide, by decide +kernel⟩, by decide⟩, (inT6 (List.mem_of_getElem? (i := 182) rfl) rfl), (inT6 (List.mem_of_getElem? (i := 183) rfl) rfl)⟩
theorem MX0_78 : MLv RX0 78 μX4_copyFrom 1 := ⟨⟨(inT6 (List.mem_of_getElem? (i := 185) rfl) rfl), (inT1 (List.mem_of_getElem? (i := 7) rfl) rfl), kμX4_copyFrom, ⟨by decide, by decide, by decide +kernel⟩, by decide⟩, (inT6 (List.mem_of_getElem? (i := 186) rfl) rfl), (inT6 (List.mem_of_getElem? (i := 187) rfl) rfl)⟩
theorem MX0_91 : MLv RX0 91 μX3_copyFrom 1 := ⟨⟨(inT6 (List.mem_of_getElem? (i := 189) rfl) rfl), (inT1 (List.mem_of_getElem? (i := 9) rfl) rfl), kμX3_copyFrom, ⟨by decide, by decide, by decide +kernel⟩, by decide⟩, (inT6 (List.mem_of_getElem? (i := 190) rfl) rfl), (inT6 (List.mem_of_getElem? (i := 191) rfl) rfl)⟩
theorem MX3_32 : MLv RX3 32 μX3_begin 5 := ⟨⟨(inT6 (List.mem_of_getElem? (i := 193) rfl) rfl), (inT1 (List.mem_of_getElem? (i := 9) rfl) rfl), kμX3_begin, ⟨by decide, by decide, by decide +kernel⟩, by decide⟩, (inT3 (List.mem_of_getElem? (i := 132) rfl) rfl), (inT3 (List.mem_of_getElem? (i := 133) rfl) rfl)⟩
theorem MX0_97 : MLv RX0 97 μX1_copyFrom 1 := ⟨⟨(inT6 (List.mem_of_getElem? (i := 194) rfl) rfl), (inT1 (List.mem_of_getElem? (i := 10) rfl) rfl), kμX1_copyFrom, ⟨by decide, by decide, by decide +kernel⟩, by decide⟩, (inT6 (List.mem_of_getElem? (i := 195) rfl) rfl), (inT6 (List.mem_of_getElem? (i := 196) rfl) rfl)⟩
theorem MX1_37 : MLv RX1 37 μX1_begin 5 := ⟨⟨(inT6 (List.mem_of_getElem? (i := 198) rfl) rfl), (inT1 (List.mem_of_getElem? (i := 10) rfl) rfl), kμX1_begin, ⟨by decide, by decide, by decide +kernel⟩, by decide⟩, (inT3 (List.mem_of_getElem? (i := 140) rfl) rfl), (inT3 (List.mem_of_getElem? (i := 141) rfl) rfl)⟩
theorem MX0_100 : MLv RX0 100 μX5_copyFrom 1 := ⟨⟨(inT6 (List.mem_of_getElem? (i := 199) rfl) rfl), (inT1 (List.mem_of_getElem? (i := 3) rfl) rfl), kμX5_copyFrom, ⟨by decide, by decide, by decide +kernel⟩, by decide⟩, (inT6 (List.mem_of_getElem? (i := 200) rfl) rfl), (inT6 (List.mem_of_getElem? (i := 201) rfl) rfl)⟩
theorem MX5_28 : MLv RX5 28 μX5_begin 6 := ⟨⟨(inT6 (List.mem_of_getElem? (i := 203) rfl) rfl), (inT1 (List.mem_of_getElem? (i := 3) rfl) rfl), kμX5_begin, ⟨by decide, by decide, by decide +kernel⟩, by decide⟩, (inT3 (List.mem_of_getElem? (i := 155) rfl) rfl), (inT3 (List.mem_of_getElem? (i := 156) rfl) rfl)⟩
theorem MX0_103 : MLv RX0 103 μX9_copyFrom 1 := ⟨⟨(inT6 (List.mem_of_getElem? (i := 204) rfl) rfl), (inT1 (List.mem_of_getElem? (i := 4) rfl) rfl), kμX9_copyFrom, ⟨by decide, by decide, by decide +kernel⟩, by decide⟩, (inT6 (List.mem_of_getElem? (i := 205) rfl) rfl), (inT6 (List.mem_of_getElem? (i := 206) rfl) rfl)⟩
theorem MX9_22 : MLv RX9 22 μX9_begin 4 := ⟨⟨(inT6 (List.mem_of_getElem? (i := 208) rfl) rfl), (inT1 (List.mem_of_getElem? (i := 4) rfl) rfl), kμX9_begin, ⟨by decide, by decide, by decide +kernel⟩, by decide⟩, (inT3 (List.mem_of_getElem? (i := 165) rfl) rfl), (inT3 (List.mem_of_getElem? (i := 166) rfl) rfl)⟩
theorem MX0_106 : MLv RX0 106 μX6_copyFrom 1 := ⟨⟨(inT6 (List.mem_of_getElem? (i := 209) rfl) rfl), (inT1 (List.mem_of_getElem? (i := 5) rfl) rfl), kμX6_copyFrom, ⟨by decide, by decide, by decide +kernel⟩, by decide⟩, (inT6 (List.mem_of_getElem? (i := 210) rfl) rfl), (inT6 (List.mem_of_getElem? (i := 211) rfl) rfl)⟩
theorem YX6_32 : Cond.methodLink RX6 32 arraycopyName ∈ tbG := (inT6 (List.mem_of_getElem? (i := 213) rfl) rfl)
theorem MX0_109 : MLv RX0 109 μX8_copyFrom 1 := ⟨⟨(inT6 (List.mem_of_getElem? (i := 214) rfl) rfl), (inT1 (List.mem_of_getElem? (i := 6) rfl) rfl), kμX8_copyFrom, ⟨by decide, by decide, by decide +kernel⟩, by decide⟩, (inT4 (List.mem_of_getElem? (i := 221) rfl) rfl), (inT4 (List.mem_of_getElem? (i := 222) rfl) rfl)⟩
theorem kL_190 : Cond.constant RL 190 (999999 : Int32) ∈ tbG := (inT6 (List.mem_of_getElem? (i := 215) rfl) rfl)
theorem kL_191 : Cond.constant RL 191 (-999999 : Int32) ∈ tbG := (inT6 (List.mem_of_getElem? (i := 216) rfl) rfl)
theorem kL_192 : Cond.constant RL 192 (80000 : Int32) ∈ tbG := (inT6 (List.mem_of_getElem? (i := 217) rfl) rfl)
theorem ML_193 : MLv RL 193 μX10_restore 1 := ⟨⟨(inT6 (List.mem_of_getElem? (i := 218) rfl) rfl), (inT1 (List.mem_of_getElem? (i := 1) rfl) rfl), kμX10_restore, ⟨by decide, by decide, by decide +kernel⟩, by decide⟩, (inT6 (List.mem_of_getElem? (i := 219) rfl) rfl), (inT6 (List.mem_of_getElem? (i := 220) rfl) rfl)⟩
theorem ML_258 : MLv RL 258 μL_cools 0 := ⟨⟨(inT6 (List.mem_of_getElem? (i := 222) rfl) rfl), (inT1 (List.mem_of_getElem? (i := 0) rfl) rfl), kμL_cools, ⟨by decide, by decide, by decide +kernel⟩, by decide⟩, (inT6 (List.mem_of_getElem? (i := 224) rfl) rfl), (inP3 (List.mem_of_getElem? (i := 4) rfl))⟩
theorem ML_261 : MLv RL 261 μX10_resetRecords 0 := ⟨⟨(inT6 (List.mem_of_getElem? (i := 226) rfl) rfl), (inT1 (List.mem_of_getElem? (i := 1) rfl) rfl), kμX10_resetRecords, ⟨by decide, by decide, by decide +kernel⟩, by decide⟩, (inT6 (List.mem_of_getElem? (i := 227) rfl) rfl), (inT6 (List.mem_of_getElem? (i := 228) rfl) rfl)⟩
theorem MX10_222 : MLv RX10 222 μX6_clear 0 := ⟨⟨(inT6 (List.mem_of_getElem? (i := 230) rfl) rfl), (inT1 (List.mem_of_getElem? (i := 5) rfl) rfl), kμX6_clear, ⟨by decide, by decide, by decide +kernel⟩, by decide⟩, (inT6 (List.mem_of_getElem? (i := 231) rfl) rfl), (inT6 (List.mem_of_getElem? (i := 232) rfl) rfl)⟩
theorem MX10_225 : MLv RX10 225 μX4_beginRecords 0 := ⟨⟨(inT6 (List.mem_of_getElem? (i := 234) rfl) rfl), (inT1 (List.mem_of_getElem? (i := 7) rfl) rfl), kμX4_beginRecords, ⟨by decide, by decide, by decide +kernel⟩, by decide⟩, (inT3 (List.mem_of_getElem? (i := 84) rfl) rfl), (inT3 (List.mem_of_getElem? (i := 85) rfl) rfl)⟩
theorem CL_11 : Cond.classLink RL 11 RL ∈ tbG := (inT1 (List.mem_of_getElem? (i := 25) rfl) rfl)
theorem IL : Cond.instantiable RL 6 ∈ tbG := (inT1 (List.mem_of_getElem? (i := 26) rfl) rfl)
theorem iL : Cond.initialized RL ∈ tbG := (inT1 (List.mem_of_getElem? (i := 0) rfl) rfl)
theorem CL_7 : Cond.classLink RL 7 RX10 ∈ tbG := (inT1 (List.mem_of_getElem? (i := 33) rfl) rfl)
theorem IX10 : Cond.instantiable RX10 5 ∈ tbG := (inT1 (List.mem_of_getElem? (i := 34) rfl) rfl)
theorem iX10 : Cond.initialized RX10 ∈ tbG := (inT1 (List.mem_of_getElem? (i := 1) rfl) rfl)
theorem CX10_7 : Cond.classLink RX10 7 RX0 ∈ tbG := (inT1 (List.mem_of_getElem? (i := 39) rfl) rfl)
theorem IX0 : Cond.instantiable RX0 15 ∈ tbG := (inT1 (List.mem_of_getElem? (i := 40) rfl) rfl)
theorem iX0 : Cond.initialized RX0 ∈ tbG := (inT1 (List.mem_of_getElem? (i := 2) rfl) rfl)
theorem CX0_9 : Cond.classLink RX0 9 RX4 ∈ tbG := (inT1 (List.mem_of_getElem? (i := 45) rfl) rfl)
theorem CX0_17 : Cond.classLink RX0 17 RX2 ∈ tbG := (inT1 (List.mem_of_getElem? (i := 47) rfl) rfl)
theorem CX0_23 : Cond.classLink RX0 23 RX3 ∈ tbG := (inT1 (List.mem_of_getElem? (i := 49) rfl) rfl)
theorem CX0_29 : Cond.classLink RX0 29 RX1 ∈ tbG := (inT1 (List.mem_of_getElem? (i := 51) rfl) rfl)
theorem CX0_39 : Cond.classLink RX0 39 RX5 ∈ tbG := (inT1 (List.mem_of_getElem? (i := 53) rfl) rfl)
theorem IX5 : Cond.instantiable RX5 6 ∈ tbG := (inT1 (List.mem_of_getElem? (i := 54) rfl) rfl)
theorem iX5 : Cond.initialized RX5 ∈ tbG := (inT1 (List.mem_of_getElem? (i := 3) rfl) rfl)
theorem CX0_46 : Cond.classLink RX0 46 RX9 ∈ tbG := (inT1 (List.mem_of_getElem? (i := 82) rfl) rfl)
theorem IX9 : Cond.instantiable RX9 4 ∈ tbG := (inT1 (List.mem_of_getElem? (i := 83) rfl) rfl)
theorem iX9 : Cond.initialized RX9 ∈ tbG := (inT1 (List.mem_of_getElem? (i := 4) rfl) rfl)
theorem CX0_53 : Cond.classLink RX0 53 RX6 ∈ tbG := (inT1 (List.mem_of_getElem? (i := 107) rfl) rfl)
theorem IX6 : Cond.instantiable RX6 6 ∈ tbG := (inT1 (List.mem_of_getElem? (i := 108) rfl) rfl)
theorem iX6 : Cond.initialized RX6 ∈ tbG := (inT1 (List.mem_of_getElem? (i := 5) rfl) rfl)
theorem CX0_60 : Cond.classLink RX0 60 RX8 ∈ tbG := (inT1 (List.mem_of_getElem? (i := 141) rfl) rfl)
theorem IX8 : Cond.instantiable RX8 10 ∈ tbG := (inT1 (List.mem_of_getElem? (i := 142) rfl) rfl)
theorem iX8 : Cond.initialized RX8 ∈ tbG := (inT1 (List.mem_of_getElem? (i := 6) rfl) rfl)
theorem IX4 : Cond.instantiable RX4 17 ∈ tbG := (inT1 (List.mem_of_getElem? (i := 188) rfl) rfl)
theorem iX4 : Cond.initialized RX4 ∈ tbG := (inT1 (List.mem_of_getElem? (i := 7) rfl) rfl)
theorem IX2 : Cond.instantiable RX2 3 ∈ tbG := (inT2 (List.mem_of_getElem? (i := 29) rfl) rfl)
theorem iX2 : Cond.initialized RX2 ∈ tbG := (inT1 (List.mem_of_getElem? (i := 8) rfl) rfl)
theorem IX3 : Cond.instantiable RX3 7 ∈ tbG := (inT2 (List.mem_of_getElem? (i := 48) rfl) rfl)
theorem iX3 : Cond.initialized RX3 ∈ tbG := (inT1 (List.mem_of_getElem? (i := 9) rfl) rfl)
theorem IX1 : Cond.instantiable RX1 8 ∈ tbG := (inT2 (List.mem_of_getElem? (i := 85) rfl) rfl)
theorem iX1 : Cond.initialized RX1 ∈ tbG := (inT1 (List.mem_of_getElem? (i := 10) rfl) rfl)
theorem CX10_27 : Cond.classLink RX10 27 RX7 ∈ tbG := (inT2 (List.mem_of_getElem? (i := 189) rfl) rfl)
theorem IX7 : Cond.instantiable RX7 14 ∈ tbG := (inT2 (List.mem_of_getElem? (i := 190) rfl) rfl)
theorem iX7 : Cond.initialized RX7 ∈ tbG := (inT1 (List.mem_of_getElem? (i := 11) rfl) rfl)
theorem CX7_19 : Cond.classLink RX7 19 RX8 ∈ tbG := (inT2 (List.mem_of_getElem? (i := 195) rfl) rfl)
theorem CL_199 : Cond.classLink RL 199 RJ4 ∈ tbG := (inT5 (List.mem_of_getElem? (i := 199) rfl) rfl)
theorem IJ4 : Cond.instantiable RJ4 4 ∈ tbG := (inT5 (List.mem_of_getElem? (i := 200) rfl) rfl)
theorem iJ4 : Cond.initialized RJ4 ∈ tbG := (inT1 (List.mem_of_getElem? (i := 20) rfl) rfl)
theorem CJ4_18 : Cond.classLink RJ4 18 RJ0 ∈ tbG := (inT6 (List.mem_of_getElem? (i := 107) rfl) rfl)
theorem IJ0 : Cond.instantiable RJ0 4 ∈ tbG := (inT6 (List.mem_of_getElem? (i := 108) rfl) rfl)
theorem iJ0 : Cond.initialized RJ0 ∈ tbG := (inT1 (List.mem_of_getElem? (i := 14) rfl) rfl)
theorem Oin : Cond.instanceMethod Lib.objectInit ∈ tbG := (inT1 (List.mem_of_getElem? (i := 31) rfl) rfl)
theorem Oco : Cond.code Lib.objectInit ⟨#[0xb1]⟩ 1 none ∈ tbG := (inT1 (List.mem_of_getElem? (i := 32) rfl) rfl)
theorem Ync : Cond.native arraycopyName ∈ tbG := (inT3 (List.mem_of_getElem? (i := 149) rfl) rfl)
theorem Yst : Cond.static arraycopyName ∈ tbG := (inT3 (List.mem_of_getElem? (i := 148) rfl) rfl)
theorem Yin : Cond.initialized "java/lang/System" ∈ tbG := (inT1 (List.mem_of_getElem? (i := 13) rfl) rfl)
theorem VX4 : Cond.arrayOver (.object RX4) ∈ lw_tbl := (inL1 (List.mem_of_getElem? (i := 46) rfl))
theorem VX2 : Cond.arrayOver (.object RX2) ∈ lw_tbl := (inL1 (List.mem_of_getElem? (i := 48) rfl))
theorem VX3 : Cond.arrayOver (.object RX3) ∈ lw_tbl := (inL1 (List.mem_of_getElem? (i := 50) rfl))
theorem VX1 : Cond.arrayOver (.object RX1) ∈ lw_tbl := (inL1 (List.mem_of_getElem? (i := 52) rfl))
theorem Zint : Cond.arrayClass .int ∈ tbG := (inT1 (List.mem_of_getElem? (i := 81) rfl) rfl)
theorem Zlong : Cond.arrayClass .long ∈ tbG := (inT1 (List.mem_of_getElem? (i := 187) rfl) rfl)
theorem VX0 : Cond.arrayOver (.object RX0) ∈ lw_tbl := (inL2 (List.mem_of_getElem? (i := 188) rfl))
theorem Zboolean : Cond.arrayClass .boolean ∈ tbG := (inT3 (List.mem_of_getElem? (i := 3) rfl) rfl)
theorem Zbyte : Cond.arrayClass .byte ∈ tbG := (inT3 (List.mem_of_getElem? (i := 4) rfl) rfl)
