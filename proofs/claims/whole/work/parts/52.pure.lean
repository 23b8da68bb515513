set_option maxHeartbeats 4000000 in
set_option maxRecDepth 20000 in
theorem e_one {c_house_wets : (Nat → Int32)} {c_house_guests_cells : (Nat → Int32)} {c_house_guests_rows : Int32} {c_house_sights_cells : (Nat → Int32)} {c_house_sights_rows : Int32} {c_house_remarks_cells : (Nat → Int32)} {c_house_remarks_rows : Int32} {c_house_marks_cells : (Nat → Int32)} {c_house_marks_rows : Int32} {c_house_past_cells : (Nat → Int32)} {c_house_past_rows : Int32} {c_house_host : Int32} {c_house_rooms : Int32} {c_house_night : Int32} {c_house_wheels : Int32} {c_house_turned : Int32} {c_image0_wets : (Nat → Int32)} {c_image0_guests_cells : (Nat → Int32)} {c_image0_guests_rows : Int32} {c_image0_sights_cells : (Nat → Int32)} {c_image0_sights_rows : Int32} {c_image0_remarks_cells : (Nat → Int32)} {c_image0_remarks_rows : Int32} {c_image0_marks_cells : (Nat → Int32)} {c_image0_marks_rows : Int32} {c_image0_past_cells : (Nat → Int32)} {c_image0_past_rows : Int32} {c_image0_host : Int32} {c_image0_rooms : Int32} {c_image0_night : Int32} {c_image0_wheels : Int32} {c_image0_turned : Int32} {c_image1_wets : (Nat → Int32)} {c_image1_guests_cells : (Nat → Int32)} {c_image1_guests_rows : Int32} {c_image1_sights_cells : (Nat → Int32)} {c_image1_sights_rows : Int32} {c_image1_remarks_cells : (Nat → Int32)} {c_image1_remarks_rows : Int32} {c_image1_marks_cells : (Nat → Int32)} {c_image1_marks_rows : Int32} {c_image1_past_cells : (Nat → Int32)} {c_image1_past_rows : Int32} {c_image1_host : Int32} {c_image1_rooms : Int32} {c_image1_night : Int32} {c_image1_wheels : Int32} {c_image1_turned : Int32} {c_script_bytes : (Nat → Int32)} {c_script_size : Int32} {c_kept0 : Int32} {c_kept1 : Int32} {c_above : Int32} {c_below_ : Int32} {c_bads : Int32} {c_nos : Int32} {c_fulls : Int32} {m_all : (Nat → Int32)} {m_kept : (Nat → Int32)} {m_isKept : (Nat → Int32)} {m_refused : (Nat → Int32)} {m_above : Int64} {m_below_ : Int64} {m_bytes : (Nat → Int32)} {m_bytesLong : Int32} (hI : Inv c_house_wets c_house_guests_cells c_house_guests_rows c_house_sights_cells c_house_sights_rows c_house_remarks_cells c_house_remarks_rows c_house_marks_cells c_house_marks_rows c_house_past_cells c_house_past_rows c_house_host c_house_rooms c_house_night c_house_wheels c_house_turned c_image0_wets c_image0_guests_cells c_image0_guests_rows c_image0_sights_cells c_image0_sights_rows c_image0_remarks_cells c_image0_remarks_rows c_image0_marks_cells c_image0_marks_rows c_image0_past_cells c_image0_past_rows c_image0_host c_image0_rooms c_image0_night c_image0_wheels c_image0_turned c_image1_wets c_image1_guests_cells c_image1_guests_rows c_image1_sights_cells c_image1_sights_rows c_image1_remarks_cells c_image1_remarks_rows c_image1_marks_cells c_image1_marks_rows c_image1_past_cells c_image1_past_rows c_image1_host c_image1_rooms c_image1_night c_image1_wheels c_image1_turned c_script_bytes c_script_size c_kept0 c_kept1 c_above c_below_ c_bads c_nos c_fulls m_all m_kept m_isKept m_refused m_above m_below_ m_bytes m_bytesLong)  (p1 : Int32) (p2 : Int32) : ∃ (rc : Int32 × (Nat → Int32) × Int32 × Int32 × Int32 × Int32) (rm : Int32 × (Nat → Int32) × (Nat → Int32)), f_X8_one c_house_guests_cells c_house_guests_rows c_house_past_rows c_bads c_fulls p1 p2 = some rc ∧ f_X9_one m_all m_refused p1 p2 = some rm ∧ rc.1 = rm.1 ∧ Inv c_house_wets rc.2.1 rc.2.2.1 c_house_sights_cells c_house_sights_rows c_house_remarks_cells c_house_remarks_rows c_house_marks_cells c_house_marks_rows c_house_past_cells rc.2.2.2.1 c_house_host c_house_rooms c_house_night c_house_wheels c_house_turned c_image0_wets c_image0_guests_cells c_image0_guests_rows c_image0_sights_cells c_image0_sights_rows c_image0_remarks_cells c_image0_remarks_rows c_image0_marks_cells c_image0_marks_rows c_image0_past_cells c_image0_past_rows c_image0_host c_image0_rooms c_image0_night c_image0_wheels c_image0_turned c_image1_wets c_image1_guests_cells c_image1_guests_rows c_image1_sights_cells c_image1_sights_rows c_image1_remarks_cells c_image1_remarks_rows c_image1_marks_cells c_image1_marks_rows c_image1_past_cells c_image1_past_rows c_image1_host c_image1_rooms c_image1_night c_image1_wheels c_image1_turned c_script_bytes c_script_size c_kept0 c_kept1 c_above c_below_ rc.2.2.2.2.1 c_nos rc.2.2.2.2.2 rm.2.1 m_kept m_isKept rm.2.2 m_above m_below_ m_bytes m_bytesLong := by
  obtain ⟨⟨hG0, hW, hG, hS, hN, hK, hP⟩, h2, h3, h4, h5, h6⟩ := hI
  have hG00 := hG0
  obtain ⟨a1, a2, a3, a4, a5, a6, a7, a8, a9, a10, b1, b2, b3, b4, b5, b6, b7, b8, b9, b10⟩ := hG0
  by_cases c1 : ib p1 0 5 = 0
  · refine ⟨(-2, c_house_guests_cells, c_house_guests_rows, c_house_past_rows, c_bads + 1, c_fulls), (-2, m_all, upd m_refused 0 (m_refused 0 + 1)), ?_, ?_, rfl, ⟨hG00, hW, hG, hS, hN, hK, hP⟩, h2, h3, h4, h5, h6.bad⟩
    · unfold f_X8_one; rw [q_isKind, b_some, if_pos c1]; rfl
    · unfold f_X9_one; rw [q_kind9, b_some, if_pos c1]; rfl
  by_cases c2 : ib p2 0 9 = 0
  · refine ⟨(-2, c_house_guests_cells, c_house_guests_rows, c_house_past_rows, c_bads + 1, c_fulls), (-2, m_all, upd m_refused 0 (m_refused 0 + 1)), ?_, ?_, rfl, ⟨hG00, hW, hG, hS, hN, hK, hP⟩, h2, h3, h4, h5, h6.bad⟩
    · unfold f_X8_one; rw [q_isKind, b_some, if_neg c1, q_isWord, b_some, if_pos c2]; rfl
    · unfold f_X9_one; rw [q_kind9, b_some, if_neg c1, q_word9, b_some, if_pos c2]; rfl
  obtain ⟨n, hn, en⟩ := rg_nI (h := 7) b1 (by decide)
  by_cases hf : n = 7
  · subst hf
    refine ⟨(-4, c_house_guests_cells, c_house_guests_rows, c_house_past_rows, c_bads, c_fulls + 1), (-4, m_all, upd m_refused 2 (m_refused 2 + 1)), ?_, ?_, rfl, ⟨hG00, hW, hG, hS, hN, hK, hP⟩, h2, h3, h4, h5, h6.full⟩
    · unfold f_X8_one; rw [q_isKind, b_some, if_neg c1, q_isWord, b_some, if_neg c2, q_full (M := 7) (most := 7) rfl (a1.trans en) (Nat.le_refl 7) (by decide), b_some, if_neg (by decide)]; rfl
    · unfold f_X9_one; rw [q_kind9, b_some, if_neg c1, q_word9, b_some, if_neg c2]
      unfold f_X9_many
      rw [b_some, if_pos (show m_all (Int32.toNatClampNeg 0) = 7 from en)]; rfl
  have hlt : n < 7 := by omega
  have hm : ∀ k : Nat, k ≠ 31 + n → k ≠ 5 + n → k ≠ 12 + n → k ≠ 0 → k ≠ 4 → upd (upd (upd (upd (upd m_all (31 + n) p1) (5 + n) p2) (12 + n) 0) 0 (nI (n + 1))) 4 0 k = m_all k := fun k q1 q2 q3 q4 q5 => by
    rw [up_ne _ _ q5, up_ne _ _ q4, up_ne _ _ q3, up_ne _ _ q2, up_ne _ _ q1]
  refine ⟨(nI n, upd (upd (zr c_house_guests_cells (n * 4) 4) (4 * n) p1) (4 * n + 1) p2, nI (n + 1), 0, c_bads, c_fulls), (nI n, upd (upd (upd (upd (upd m_all (31 + n) p1) (5 + n) p2) (12 + n) 0) 0 (nI (n + 1))) 4 0, m_refused), ?_, ?_, rfl, ⟨?_, ?_, ?_, ?_, ?_, ?_, ?_⟩, h2, h3, h4, h5, h6⟩
  · unfold f_X8_one; rw [q_isKind, b_some, if_neg c1, q_isWord, b_some, if_neg c2, q_free (M := 7) (most := 7) rfl (a1.trans en) hlt (by decide), b_some, if_pos rfl]
    unfold f_X5_empty
    rw [b_some, q_welcome _ _ _ (a1.trans en) hlt, b_some]
  · unfold f_X9_one; rw [q_kind9, b_some, if_neg c1, q_word9, b_some, if_neg c2]
    unfold f_X9_many
    rw [b_some, if_neg (show ¬ m_all (Int32.toNatClampNeg 0) = 7 from fun q => hf ((nI_eq (by omega) (by decide)).mp (show nI n = nI 7 from (en.symm.trans q)))), q_layOne p1 p2 (by decide) (by decide) en hlt, b_some, b_some]
    show some (upd (upd (upd (upd (upd m_all (31 + n) p1) (5 + n) p2) (12 + n) 0) 0 (nI (n + 1))) 4 0 0 - 1, _, _) = _
    rw [up_ne _ _ (show (0 : Nat) ≠ 4 by decide), up_same, show nI (n + 1) - 1 = nI n from nI_pred n]; rfl
  · dsimp only; unfold G0
    rw [hm 1 (by omega) (by omega) (by omega) (by omega) (by omega), hm 2 (by omega) (by omega) (by omega) (by omega) (by omega), hm 3 (by omega) (by omega) (by omega) (by omega) (by omega), hm 23 (by omega) (by omega) (by omega) (by omega) (by omega), hm 24 (by omega) (by omega) (by omega) (by omega) (by omega), hm 22 (by omega) (by omega) (by omega) (by omega) (by omega), hm 20 (by omega) (by omega) (by omega) (by omega) (by omega), hm 21 (by omega) (by omega) (by omega) (by omega) (by omega), up_same, up_ne _ _ (show (0 : Nat) ≠ 4 by decide), up_same]
    exact ⟨rfl, a2, a3, a4, rfl, a6, a7, a8, a9, a10, ⟨by rw [nI_toInt (by omega)]; omega, by rw [nI_toInt (by omega)]; omega⟩, b2, b3, b4, rz (by decide), b6, b7, b8, b9, b10⟩
  · exact hW.congr (fun k hk => hm k (by omega) (by omega) (by omega) (by omega) (by omega))
  · refine hG.one en hlt (ibn c1) (ibn c2) ?_ ?_ ?_ ?_ ?_ ?_ (fun i hi => ⟨?_, ?_, ?_⟩)
    · dsimp only; rw [up_ne _ _ (show (0 : Nat) ≠ 4 by decide), up_same]
    · exact hm 19 (by omega) (by omega) (by omega) (by omega) (by omega)
    · exact hm 24 (by omega) (by omega) (by omega) (by omega) (by omega)
    · dsimp only; rw [up_ne _ _ (by omega), up_ne _ _ (by omega), up_ne _ _ (by omega), up_ne _ _ (by omega), up_same]
    · dsimp only; rw [up_ne _ _ (by omega), up_ne _ _ (by omega), up_ne _ _ (by omega), up_same]
    · dsimp only; rw [up_ne _ _ (by omega), up_ne _ _ (by omega), up_same]
    · exact hm _ (by omega) (by omega) (by omega) (by omega) (by omega)
    · exact hm _ (by omega) (by omega) (by omega) (by omega) (by omega)
    · exact hm _ (by omega) (by omega) (by omega) (by omega) (by omega)
  · exact hS.congr b2 (fun k hk => hm k (by omega) (by omega) (by omega) (by omega) (by omega))
  · exact hN.congr b3 (fun k hk => hm k (by omega) (by omega) (by omega) (by omega) (by omega))
  · exact hK.congr b4 (fun k hk => hm k (by omega) (by omega) (by omega) (by omega) (by omega))
  · exact GP.zero (by dsimp only; exact up_same _ _ _)
