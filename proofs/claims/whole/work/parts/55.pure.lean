set_option maxHeartbeats 4000000 in
set_option maxRecDepth 20000 in
theorem e_may {c_house_wets : (Nat → Int32)} {c_house_guests_cells : (Nat → Int32)} {c_house_guests_rows : Int32} {c_house_sights_cells : (Nat → Int32)} {c_house_sights_rows : Int32} {c_house_remarks_cells : (Nat → Int32)} {c_house_remarks_rows : Int32} {c_house_marks_cells : (Nat → Int32)} {c_house_marks_rows : Int32} {c_house_past_cells : (Nat → Int32)} {c_house_past_rows : Int32} {c_house_host : Int32} {c_house_rooms : Int32} {c_house_night : Int32} {c_house_wheels : Int32} {c_house_turned : Int32} {c_image0_wets : (Nat → Int32)} {c_image0_guests_cells : (Nat → Int32)} {c_image0_guests_rows : Int32} {c_image0_sights_cells : (Nat → Int32)} {c_image0_sights_rows : Int32} {c_image0_remarks_cells : (Nat → Int32)} {c_image0_remarks_rows : Int32} {c_image0_marks_cells : (Nat → Int32)} {c_image0_marks_rows : Int32} {c_image0_past_cells : (Nat → Int32)} {c_image0_past_rows : Int32} {c_image0_host : Int32} {c_image0_rooms : Int32} {c_image0_night : Int32} {c_image0_wheels : Int32} {c_image0_turned : Int32} {c_image1_wets : (Nat → Int32)} {c_image1_guests_cells : (Nat → Int32)} {c_image1_guests_rows : Int32} {c_image1_sights_cells : (Nat → Int32)} {c_image1_sights_rows : Int32} {c_image1_remarks_cells : (Nat → Int32)} {c_image1_remarks_rows : Int32} {c_image1_marks_cells : (Nat → Int32)} {c_image1_marks_rows : Int32} {c_image1_past_cells : (Nat → Int32)} {c_image1_past_rows : Int32} {c_image1_host : Int32} {c_image1_rooms : Int32} {c_image1_night : Int32} {c_image1_wheels : Int32} {c_image1_turned : Int32} {c_script_bytes : (Nat → Int32)} {c_script_size : Int32} {c_kept0 : Int32} {c_kept1 : Int32} {c_above : Int32} {c_below_ : Int32} {c_bads : Int32} {c_nos : Int32} {c_fulls : Int32} {m_all : (Nat → Int32)} {m_kept : (Nat → Int32)} {m_isKept : (Nat → Int32)} {m_refused : (Nat → Int32)} {m_above : Int64} {m_below_ : Int64} {m_bytes : (Nat → Int32)} {m_bytesLong : Int32} (hI : Inv c_house_wets c_house_guests_cells c_house_guests_rows c_house_sights_cells c_house_sights_rows c_house_remarks_cells c_house_remarks_rows c_house_marks_cells c_house_marks_rows c_house_past_cells c_house_past_rows c_house_host c_house_rooms c_house_night c_house_wheels c_house_turned c_image0_wets c_image0_guests_cells c_image0_guests_rows c_image0_sights_cells c_image0_sights_rows c_image0_remarks_cells c_image0_remarks_rows c_image0_marks_cells c_image0_marks_rows c_image0_past_cells c_image0_past_rows c_image0_host c_image0_rooms c_image0_night c_image0_wheels c_image0_turned c_image1_wets c_image1_guests_cells c_image1_guests_rows c_image1_sights_cells c_image1_sights_rows c_image1_remarks_cells c_image1_remarks_rows c_image1_marks_cells c_image1_marks_rows c_image1_past_cells c_image1_past_rows c_image1_host c_image1_rooms c_image1_night c_image1_wheels c_image1_turned c_script_bytes c_script_size c_kept0 c_kept1 c_above c_below_ c_bads c_nos c_fulls m_all m_kept m_isKept m_refused m_above m_below_ m_bytes m_bytesLong)   : ∃ (rc : Int32) (rm : Int32), f_X8_may c_house_wets c_house_guests_cells c_house_guests_rows c_house_host c_house_rooms c_house_night c_house_wheels = some rc ∧ f_X9_may m_all = some rm ∧ rc = rm ∧ Inv c_house_wets c_house_guests_cells c_house_guests_rows c_house_sights_cells c_house_sights_rows c_house_remarks_cells c_house_remarks_rows c_house_marks_cells c_house_marks_rows c_house_past_cells c_house_past_rows c_house_host c_house_rooms c_house_night c_house_wheels c_house_turned c_image0_wets c_image0_guests_cells c_image0_guests_rows c_image0_sights_cells c_image0_sights_rows c_image0_remarks_cells c_image0_remarks_rows c_image0_marks_cells c_image0_marks_rows c_image0_past_cells c_image0_past_rows c_image0_host c_image0_rooms c_image0_night c_image0_wheels c_image0_turned c_image1_wets c_image1_guests_cells c_image1_guests_rows c_image1_sights_cells c_image1_sights_rows c_image1_remarks_cells c_image1_remarks_rows c_image1_marks_cells c_image1_marks_rows c_image1_past_cells c_image1_past_rows c_image1_host c_image1_rooms c_image1_night c_image1_wheels c_image1_turned c_script_bytes c_script_size c_kept0 c_kept1 c_above c_below_ c_bads c_nos c_fulls m_all m_kept m_isKept m_refused m_above m_below_ m_bytes m_bytesLong := by
  have hH := hI.1
  obtain ⟨⟨hG0, hW, hG, hS, hN, hK, hP⟩, h2, h3, h4, h5, h6⟩ := hI
  have hC := hG0.cr hW hG
  obtain ⟨a1, a2, a3, a4, a5, a6, a7, a8, a9, a10, b1, b2, b3, b4, b5, b6, b7, b8, b9, b10⟩ := hG0
  obtain ⟨n, hn, en⟩ := rg_nI (h := 7) b1 (by decide)
  obtain ⟨t, ht, et⟩ := rg_nI (h := 9999) b8 (by decide)
  obtain ⟨I, hI7, eI⟩ := hG.ins
  obtain ⟨v, e1, e2⟩ := q_may hC en hn eI hI7 et (by omega) n 0 s_fuel 0 (by omega) (by unfold s_fuel; omega)
  exact ⟨v, v, e1, e2, rfl, hH, h2, h3, h4, h5, h6⟩
set_option maxHeartbeats 4000000 in
set_option maxRecDepth 20000 in
theorem e_when {c_house_wets : (Nat → Int32)} {c_house_guests_cells : (Nat → Int32)} {c_house_guests_rows : Int32} {c_house_sights_cells : (Nat → Int32)} {c_house_sights_rows : Int32} {c_house_remarks_cells : (Nat → Int32)} {c_house_remarks_rows : Int32} {c_house_marks_cells : (Nat → Int32)} {c_house_marks_rows : Int32} {c_house_past_cells : (Nat → Int32)} {c_house_past_rows : Int32} {c_house_host : Int32} {c_house_rooms : Int32} {c_house_night : Int32} {c_house_wheels : Int32} {c_house_turned : Int32} {c_image0_wets : (Nat → Int32)} {c_image0_guests_cells : (Nat → Int32)} {c_image0_guests_rows : Int32} {c_image0_sights_cells : (Nat → Int32)} {c_image0_sights_rows : Int32} {c_image0_remarks_cells : (Nat → Int32)} {c_image0_remarks_rows : Int32} {c_image0_marks_cells : (Nat → Int32)} {c_image0_marks_rows : Int32} {c_image0_past_cells : (Nat → Int32)} {c_image0_past_rows : Int32} {c_image0_host : Int32} {c_image0_rooms : Int32} {c_image0_night : Int32} {c_image0_wheels : Int32} {c_image0_turned : Int32} {c_image1_wets : (Nat → Int32)} {c_image1_guests_cells : (Nat → Int32)} {c_image1_guests_rows : Int32} {c_image1_sights_cells : (Nat → Int32)} {c_image1_sights_rows : Int32} {c_image1_remarks_cells : (Nat → Int32)} {c_image1_remarks_rows : Int32} {c_image1_marks_cells : (Nat → Int32)} {c_image1_marks_rows : Int32} {c_image1_past_cells : (Nat → Int32)} {c_image1_past_rows : Int32} {c_image1_host : Int32} {c_image1_rooms : Int32} {c_image1_night : Int32} {c_image1_wheels : Int32} {c_image1_turned : Int32} {c_script_bytes : (Nat → Int32)} {c_script_size : Int32} {c_kept0 : Int32} {c_kept1 : Int32} {c_above : Int32} {c_below_ : Int32} {c_bads : Int32} {c_nos : Int32} {c_fulls : Int32} {m_all : (Nat → Int32)} {m_kept : (Nat → Int32)} {m_isKept : (Nat → Int32)} {m_refused : (Nat → Int32)} {m_above : Int64} {m_below_ : Int64} {m_bytes : (Nat → Int32)} {m_bytesLong : Int32} (hI : Inv c_house_wets c_house_guests_cells c_house_guests_rows c_house_sights_cells c_house_sights_rows c_house_remarks_cells c_house_remarks_rows c_house_marks_cells c_house_marks_rows c_house_past_cells c_house_past_rows c_house_host c_house_rooms c_house_night c_house_wheels c_house_turned c_image0_wets c_image0_guests_cells c_image0_guests_rows c_image0_sights_cells c_image0_sights_rows c_image0_remarks_cells c_image0_remarks_rows c_image0_marks_cells c_image0_marks_rows c_image0_past_cells c_image0_past_rows c_image0_host c_image0_rooms c_image0_night c_image0_wheels c_image0_turned c_image1_wets c_image1_guests_cells c_image1_guests_rows c_image1_sights_cells c_image1_sights_rows c_image1_remarks_cells c_image1_remarks_rows c_image1_marks_cells c_image1_marks_rows c_image1_past_cells c_image1_past_rows c_image1_host c_image1_rooms c_image1_night c_image1_wheels c_image1_turned c_script_bytes c_script_size c_kept0 c_kept1 c_above c_below_ c_bads c_nos c_fulls m_all m_kept m_isKept m_refused m_above m_below_ m_bytes m_bytesLong) (m_hand : (Nat → Int32)) (p1 : Int32) : ∃ (rc : Int32 × Int32) (rm : Int32 × (Nat → Int32) × (Nat → Int32)), f_X8_when c_house_wets c_house_guests_cells c_house_guests_rows c_house_host c_house_rooms c_house_night c_house_wheels c_bads p1 = some rc ∧ f_X9_when m_all m_refused m_hand p1 = some rm ∧ rc.1 = rm.1 ∧ Inv c_house_wets c_house_guests_cells c_house_guests_rows c_house_sights_cells c_house_sights_rows c_house_remarks_cells c_house_remarks_rows c_house_marks_cells c_house_marks_rows c_house_past_cells c_house_past_rows c_house_host c_house_rooms c_house_night c_house_wheels c_house_turned c_image0_wets c_image0_guests_cells c_image0_guests_rows c_image0_sights_cells c_image0_sights_rows c_image0_remarks_cells c_image0_remarks_rows c_image0_marks_cells c_image0_marks_rows c_image0_past_cells c_image0_past_rows c_image0_host c_image0_rooms c_image0_night c_image0_wheels c_image0_turned c_image1_wets c_image1_guests_cells c_image1_guests_rows c_image1_sights_cells c_image1_sights_rows c_image1_remarks_cells c_image1_remarks_rows c_image1_marks_cells c_image1_marks_rows c_image1_past_cells c_image1_past_rows c_image1_host c_image1_rooms c_image1_night c_image1_wheels c_image1_turned c_script_bytes c_script_size c_kept0 c_kept1 c_above c_below_ rc.2 c_nos c_fulls m_all m_kept m_isKept rm.2.1 m_above m_below_ m_bytes m_bytesLong := by
  have hH := hI.1
  obtain ⟨⟨hG0, hW, hG, hS, hN, hK, hP⟩, h2, h3, h4, h5, h6⟩ := hI
  have hC := hG0.cr hW hG
  obtain ⟨a1, a2, a3, a4, a5, a6, a7, a8, a9, a10, b1, b2, b3, b4, b5, b6, b7, b8, b9, b10⟩ := hG0
  obtain ⟨n, hn, en⟩ := rg_nI (h := 7) b1 (by decide)
  obtain ⟨t, ht, et⟩ := rg_nI (h := 9999) b8 (by decide)
  obtain ⟨I, hI7, eI⟩ := hG.ins
  by_cases c1 : ib p1 0 (c_house_guests_rows - 1) = 0
  · refine ⟨(-2, c_bads + 1), (-2, upd m_refused 0 (m_refused 0 + 1), m_hand), ?_, ?_, rfl, hH, h2, h3, h4, h5, h6.bad⟩
    · unfold f_X8_when; rw [q_there, b_some, if_pos c1]; rfl
    · unfold f_X9_when; rw [q_one9, b_some, if_pos (by rw [← ib_same a1]; exact c1)]; rfl
  obtain ⟨i, hi, rfl⟩ := q_num (a1.trans en) hn c1
  have c9 : ¬ ib (nI i) 0 (m_all 0 - 1) = 0 := by rw [← ib_same a1]; exact c1
  have hl : f_X9_when m_all m_refused m_hand (nI i) = f_X9_when_b21 m_all s_fuel m_refused (cp m_hand m_all 0 0 38) (nI i) (nI 0) := by
    unfold f_X9_when; rw [q_one9, b_some, if_neg c9, q_layHand, b_some]; rfl
  have hh : hnd m_all (cp m_hand m_all 0 0 38) t 0 := ⟨fun k k1 _ _ => lay_get k1, by rw [lay_get (by decide)]; exact et, by rw [lay_get (by decide), if_pos rfl]⟩
  rcases btn01 (m_all 19) i with q | q
  · by_cases hr : m_all 24 ≤ nI (pcount (m_all 19))
    · obtain ⟨h', e⟩ := q_when_no (i := i) (r := m_refused) eI hI7 (by omega) (by omega) (Or.inr hr) 61 0 s_fuel _ (by omega) (by unfold s_fuel; omega) hh
      refine ⟨(-1, c_bads), (-1, m_refused, h'), ?_, hl.trans e, rfl, hH, h2, h3, h4, h5, h6⟩
      unfold f_X8_when; rw [q_there, b_some, if_neg c1, q_isIn hG (a1.trans en) en hn hi, b_some, if_pos q, q_hasRoom hG (a1.trans en) en hn _ a7, b_some, if_pos hr, if_pos rfl]
    · obtain ⟨v, h', e1, e2⟩ := q_when (r := m_refused) (bads := c_bads) hC en hn eI hI7 et (by omega) hi q hr 61 0 s_fuel _ (by omega) (by unfold s_fuel; omega) hh
      refine ⟨(v, c_bads), (v, m_refused, h'), ?_, hl.trans e2, rfl, hH, h2, h3, h4, h5, h6⟩
      unfold f_X8_when; rw [q_there, b_some, if_neg c1, q_isIn hG (a1.trans en) en hn hi, b_some, if_pos q, q_hasRoom hG (a1.trans en) en hn _ a7, b_some, if_neg hr, if_neg no10]; exact e1
  · obtain ⟨h', e⟩ := q_when_no (i := i) (r := m_refused) eI hI7 (by omega) (by omega) (Or.inl q) 61 0 s_fuel _ (by omega) (by unfold s_fuel; omega) hh
    refine ⟨(-1, c_bads), (-1, m_refused, h'), ?_, hl.trans e, rfl, hH, h2, h3, h4, h5, h6⟩
    unfold f_X8_when; rw [q_there, b_some, if_neg c1, q_isIn hG (a1.trans en) en hn hi, b_some, if_neg (by rw [q]; decide)]
set_option maxHeartbeats 4000000 in
set_option maxRecDepth 20000 in
theorem e_pen {c_house_wets : (Nat → Int32)} {c_house_guests_cells : (Nat → Int32)} {c_house_guests_rows : Int32} {c_house_sights_cells : (Nat → Int32)} {c_house_sights_rows : Int32} {c_house_remarks_cells : (Nat → Int32)} {c_house_remarks_rows : Int32} {c_house_marks_cells : (Nat → Int32)} {c_house_marks_rows : Int32} {c_house_past_cells : (Nat → Int32)} {c_house_past_rows : Int32} {c_house_host : Int32} {c_house_rooms : Int32} {c_house_night : Int32} {c_house_wheels : Int32} {c_house_turned : Int32} {c_image0_wets : (Nat → Int32)} {c_image0_guests_cells : (Nat → Int32)} {c_image0_guests_rows : Int32} {c_image0_sights_cells : (Nat → Int32)} {c_image0_sights_rows : Int32} {c_image0_remarks_cells : (Nat → Int32)} {c_image0_remarks_rows : Int32} {c_image0_marks_cells : (Nat → Int32)} {c_image0_marks_rows : Int32} {c_image0_past_cells : (Nat → Int32)} {c_image0_past_rows : Int32} {c_image0_host : Int32} {c_image0_rooms : Int32} {c_image0_night : Int32} {c_image0_wheels : Int32} {c_image0_turned : Int32} {c_image1_wets : (Nat → Int32)} {c_image1_guests_cells : (Nat → Int32)} {c_image1_guests_rows : Int32} {c_image1_sights_cells : (Nat → Int32)} {c_image1_sights_rows : Int32} {c_image1_remarks_cells : (Nat → Int32)} {c_image1_remarks_rows : Int32} {c_image1_marks_cells : (Nat → Int32)} {c_image1_marks_rows : Int32} {c_image1_past_cells : (Nat → Int32)} {c_image1_past_rows : Int32} {c_image1_host : Int32} {c_image1_rooms : Int32} {c_image1_night : Int32} {c_image1_wheels : Int32} {c_image1_turned : Int32} {c_script_bytes : (Nat → Int32)} {c_script_size : Int32} {c_kept0 : Int32} {c_kept1 : Int32} {c_above : Int32} {c_below_ : Int32} {c_bads : Int32} {c_nos : Int32} {c_fulls : Int32} {m_all : (Nat → Int32)} {m_kept : (Nat → Int32)} {m_isKept : (Nat → Int32)} {m_refused : (Nat → Int32)} {m_above : Int64} {m_below_ : Int64} {m_bytes : (Nat → Int32)} {m_bytesLong : Int32} (hI : Inv c_house_wets c_house_guests_cells c_house_guests_rows c_house_sights_cells c_house_sights_rows c_house_remarks_cells c_house_remarks_rows c_house_marks_cells c_house_marks_rows c_house_past_cells c_house_past_rows c_house_host c_house_rooms c_house_night c_house_wheels c_house_turned c_image0_wets c_image0_guests_cells c_image0_guests_rows c_image0_sights_cells c_image0_sights_rows c_image0_remarks_cells c_image0_remarks_rows c_image0_marks_cells c_image0_marks_rows c_image0_past_cells c_image0_past_rows c_image0_host c_image0_rooms c_image0_night c_image0_wheels c_image0_turned c_image1_wets c_image1_guests_cells c_image1_guests_rows c_image1_sights_cells c_image1_sights_rows c_image1_remarks_cells c_image1_remarks_rows c_image1_marks_cells c_image1_marks_rows c_image1_past_cells c_image1_past_rows c_image1_host c_image1_rooms c_image1_night c_image1_wheels c_image1_turned c_script_bytes c_script_size c_kept0 c_kept1 c_above c_below_ c_bads c_nos c_fulls m_all m_kept m_isKept m_refused m_above m_below_ m_bytes m_bytesLong) (m_hand : (Nat → Int32)) (p1 : Int32) : ∃ (rc : Int32 × Int32) (rm : Int32 × (Nat → Int32) × (Nat → Int32)), f_X8_pen c_house_wets c_house_guests_cells c_house_guests_rows c_house_host c_house_rooms c_house_night c_house_wheels c_bads p1 = some rc ∧ f_X9_pen m_all m_refused m_hand p1 = some rm ∧ rc.1 = rm.1 ∧ Inv c_house_wets c_house_guests_cells c_house_guests_rows c_house_sights_cells c_house_sights_rows c_house_remarks_cells c_house_remarks_rows c_house_marks_cells c_house_marks_rows c_house_past_cells c_house_past_rows c_house_host c_house_rooms c_house_night c_house_wheels c_house_turned c_image0_wets c_image0_guests_cells c_image0_guests_rows c_image0_sights_cells c_image0_sights_rows c_image0_remarks_cells c_image0_remarks_rows c_image0_marks_cells c_image0_marks_rows c_image0_past_cells c_image0_past_rows c_image0_host c_image0_rooms c_image0_night c_image0_wheels c_image0_turned c_image1_wets c_image1_guests_cells c_image1_guests_rows c_image1_sights_cells c_image1_sights_rows c_image1_remarks_cells c_image1_remarks_rows c_image1_marks_cells c_image1_marks_rows c_image1_past_cells c_image1_past_rows c_image1_host c_image1_rooms c_image1_night c_image1_wheels c_image1_turned c_script_bytes c_script_size c_kept0 c_kept1 c_above c_below_ rc.2 c_nos c_fulls m_all m_kept m_isKept rm.2.1 m_above m_below_ m_bytes m_bytesLong := by
  have hH := hI.1
  obtain ⟨⟨hG0, hW, hG, hS, hN, hK, hP⟩, h2, h3, h4, h5, h6⟩ := hI
  have hC := hG0.cr hW hG
  obtain ⟨a1, a2, a3, a4, a5, a6, a7, a8, a9, a10, b1, b2, b3, b4, b5, b6, b7, b8, b9, b10⟩ := hG0
  obtain ⟨n, hn, en⟩ := rg_nI (h := 7) b1 (by decide)
  obtain ⟨t, ht, et⟩ := rg_nI (h := 9999) b8 (by decide)
  obtain ⟨I, hI7, eI⟩ := hG.ins
  by_cases c1 : ib p1 0 (c_house_guests_rows - 1) = 0
  · refine ⟨(-2, c_bads + 1), (-2, upd m_refused 0 (m_refused 0 + 1), m_hand), ?_, ?_, rfl, hH, h2, h3, h4, h5, h6.bad⟩
    · unfold f_X8_pen; rw [q_there, b_some, if_pos c1]; rfl
    · unfold f_X9_pen; rw [q_one9, b_some, if_pos (by rw [← ib_same a1]; exact c1)]; rfl
  obtain ⟨i, hi, rfl⟩ := q_num (a1.trans en) hn c1
  have c9 : ¬ ib (nI i) 0 (m_all 0 - 1) = 0 := by rw [← ib_same a1]; exact c1
  obtain ⟨h', e⟩ := q_pen9 (m := m_all) (r := m_refused) (i := i) eI hI7 et (by omega) (by omega) 10 0 s_fuel (cp m_hand m_all 0 0 38) (by omega) (by unfold s_fuel; omega) (fun k k1 _ => lay_get k1)
  have hl := (show f_X9_pen m_all m_refused m_hand (nI i) = f_X9_pen_b23 m_all s_fuel m_refused (cp m_hand m_all 0 0 38) (nI i) (-1) 0 by
    unfold f_X9_pen; rw [q_one9, b_some, if_neg c9, q_layHand, b_some]).trans e
  have hz : ∀ (g : Nat → Int32), (∀ w, g w = 0) → ∀ j, lastw g j = -1 := fun g hg j => by
    induction j with
    | zero => rfl
    | succ j ih => rw [lastw, if_pos (hg j), ih]
  rcases btn01 (m_all 19) i with q | q
  · by_cases hr : m_all 24 ≤ nI (pcount (m_all 19))
    · refine ⟨(-1, c_bads), _, ?_, hl, ?_, hH, h2, h3, h4, h5, h6⟩
      · unfold f_X8_pen; rw [q_there, b_some, if_neg c1, q_isIn hG (a1.trans en) en hn hi, b_some, if_pos q, q_hasRoom hG (a1.trans en) en hn _ a7, b_some, if_pos hr, if_pos rfl]
      · dsimp only
        refine (hz _ (fun w => ?_) 10).symm
        rw [if_pos hr, ite_self]
    · refine ⟨(lastw (fun w => if ps (m_all 23) (m_all (25 + t % 6)) (m_all 20) < lk (m_all (31 + i)) (nI w) (m_all (12 + i)) (m_all 22) then 0 else 1) 10, c_bads), _, ?_, hl, ?_, hH, h2, h3, h4, h5, h6⟩
      · unfold f_X8_pen; rw [q_there, b_some, if_neg c1, q_isIn hG (a1.trans en) en hn hi, b_some, if_pos q, q_hasRoom hG (a1.trans en) en hn _ a7, b_some, if_neg hr, if_neg no10]
        exact q_pen8 hC en hn et (by omega) hi 10 s_fuel (by omega) (by unfold s_fuel; omega)
      · dsimp only
        congr 1
        funext w
        rw [q, if_neg no01, if_neg hr]
  · refine ⟨(-1, c_bads), _, ?_, hl, ?_, hH, h2, h3, h4, h5, h6⟩
    · unfold f_X8_pen; rw [q_there, b_some, if_neg c1, q_isIn hG (a1.trans en) en hn hi, b_some, if_neg (by rw [q]; decide)]
    · dsimp only
      refine (hz _ (fun w => ?_) 10).symm
      rw [if_pos q]
set_option maxHeartbeats 4000000 in
set_option maxRecDepth 20000 in
theorem e_door {c_house_wets : (Nat → Int32)} {c_house_guests_cells : (Nat → Int32)} {c_house_guests_rows : Int32} {c_house_sights_cells : (Nat → Int32)} {c_house_sights_rows : Int32} {c_house_remarks_cells : (Nat → Int32)} {c_house_remarks_rows : Int32} {c_house_marks_cells : (Nat → Int32)} {c_house_marks_rows : Int32} {c_house_past_cells : (Nat → Int32)} {c_house_past_rows : Int32} {c_house_host : Int32} {c_house_rooms : Int32} {c_house_night : Int32} {c_house_wheels : Int32} {c_house_turned : Int32} {c_image0_wets : (Nat → Int32)} {c_image0_guests_cells : (Nat → Int32)} {c_image0_guests_rows : Int32} {c_image0_sights_cells : (Nat → Int32)} {c_image0_sights_rows : Int32} {c_image0_remarks_cells : (Nat → Int32)} {c_image0_remarks_rows : Int32} {c_image0_marks_cells : (Nat → Int32)} {c_image0_marks_rows : Int32} {c_image0_past_cells : (Nat → Int32)} {c_image0_past_rows : Int32} {c_image0_host : Int32} {c_image0_rooms : Int32} {c_image0_night : Int32} {c_image0_wheels : Int32} {c_image0_turned : Int32} {c_image1_wets : (Nat → Int32)} {c_image1_guests_cells : (Nat → Int32)} {c_image1_guests_rows : Int32} {c_image1_sights_cells : (Nat → Int32)} {c_image1_sights_rows : Int32} {c_image1_remarks_cells : (Nat → Int32)} {c_image1_remarks_rows : Int32} {c_image1_marks_cells : (Nat → Int32)} {c_image1_marks_rows : Int32} {c_image1_past_cells : (Nat → Int32)} {c_image1_past_rows : Int32} {c_image1_host : Int32} {c_image1_rooms : Int32} {c_image1_night : Int32} {c_image1_wheels : Int32} {c_image1_turned : Int32} {c_script_bytes : (Nat → Int32)} {c_script_size : Int32} {c_kept0 : Int32} {c_kept1 : Int32} {c_above : Int32} {c_below_ : Int32} {c_bads : Int32} {c_nos : Int32} {c_fulls : Int32} {m_all : (Nat → Int32)} {m_kept : (Nat → Int32)} {m_isKept : (Nat → Int32)} {m_refused : (Nat → Int32)} {m_above : Int64} {m_below_ : Int64} {m_bytes : (Nat → Int32)} {m_bytesLong : Int32} (hI : Inv c_house_wets c_house_guests_cells c_house_guests_rows c_house_sights_cells c_house_sights_rows c_house_remarks_cells c_house_remarks_rows c_house_marks_cells c_house_marks_rows c_house_past_cells c_house_past_rows c_house_host c_house_rooms c_house_night c_house_wheels c_house_turned c_image0_wets c_image0_guests_cells c_image0_guests_rows c_image0_sights_cells c_image0_sights_rows c_image0_remarks_cells c_image0_remarks_rows c_image0_marks_cells c_image0_marks_rows c_image0_past_cells c_image0_past_rows c_image0_host c_image0_rooms c_image0_night c_image0_wheels c_image0_turned c_image1_wets c_image1_guests_cells c_image1_guests_rows c_image1_sights_cells c_image1_sights_rows c_image1_remarks_cells c_image1_remarks_rows c_image1_marks_cells c_image1_marks_rows c_image1_past_cells c_image1_past_rows c_image1_host c_image1_rooms c_image1_night c_image1_wheels c_image1_turned c_script_bytes c_script_size c_kept0 c_kept1 c_above c_below_ c_bads c_nos c_fulls m_all m_kept m_isKept m_refused m_above m_below_ m_bytes m_bytesLong)  (p1 : Int32) : ∃ (rc : Int32 × Int32 × Int32) (rm : Int32 × (Nat → Int32)), f_X8_door c_house_wets c_house_guests_cells c_house_guests_rows c_house_host c_house_night c_house_wheels c_bads c_nos p1 = some rc ∧ f_X9_door m_all m_refused p1 = some rm ∧ rc.1 = rm.1 ∧ Inv c_house_wets c_house_guests_cells c_house_guests_rows c_house_sights_cells c_house_sights_rows c_house_remarks_cells c_house_remarks_rows c_house_marks_cells c_house_marks_rows c_house_past_cells c_house_past_rows c_house_host c_house_rooms c_house_night c_house_wheels c_house_turned c_image0_wets c_image0_guests_cells c_image0_guests_rows c_image0_sights_cells c_image0_sights_rows c_image0_remarks_cells c_image0_remarks_rows c_image0_marks_cells c_image0_marks_rows c_image0_past_cells c_image0_past_rows c_image0_host c_image0_rooms c_image0_night c_image0_wheels c_image0_turned c_image1_wets c_image1_guests_cells c_image1_guests_rows c_image1_sights_cells c_image1_sights_rows c_image1_remarks_cells c_image1_remarks_rows c_image1_marks_cells c_image1_marks_rows c_image1_past_cells c_image1_past_rows c_image1_host c_image1_rooms c_image1_night c_image1_wheels c_image1_turned c_script_bytes c_script_size c_kept0 c_kept1 c_above c_below_ rc.2.1 rc.2.2 c_fulls m_all m_kept m_isKept rm.2 m_above m_below_ m_bytes m_bytesLong := by
  have hH := hI.1
  obtain ⟨⟨hG0, hW, hG, hS, hN, hK, hP⟩, h2, h3, h4, h5, h6⟩ := hI
  have hC := hG0.cr hW hG
  obtain ⟨a1, a2, a3, a4, a5, a6, a7, a8, a9, a10, b1, b2, b3, b4, b5, b6, b7, b8, b9, b10⟩ := hG0
  obtain ⟨n, hn, en⟩ := rg_nI (h := 7) b1 (by decide)
  obtain ⟨t, ht, et⟩ := rg_nI (h := 9999) b8 (by decide)
  obtain ⟨I, hI7, eI⟩ := hG.ins
  by_cases c1 : ib p1 0 (c_house_guests_rows - 1) = 0
  · refine ⟨(-2, c_bads + 1, c_nos), (-2, upd m_refused 0 (m_refused 0 + 1)), ?_, ?_, rfl, hH, h2, h3, h4, h5, h6.bad⟩
    · unfold f_X8_door; rw [q_there, b_some, if_pos c1]; rfl
    · unfold f_X9_door; rw [q_one9, b_some, if_pos (by rw [← ib_same a1]; exact c1)]; rfl
  obtain ⟨i, hi, rfl⟩ := q_num (a1.trans en) hn c1
  have c9 : ¬ ib (nI i) 0 (m_all 0 - 1) = 0 := by rw [← ib_same a1]; exact c1
  have hhas : f_X9_has (m_all (Int32.toNatClampNeg 19)) (nI i) = some (btn (m_all 19) i) := by
    show f_X9_has (m_all 19) (nI i) = _
    rw [eI]; exact bt_has ⟨I, hI7⟩ ⟨i, by omega⟩
  rcases btn01 (m_all 19) i with q | q
  · by_cases c : lk (m_all (31 + i)) (m_all (5 + i)) (m_all (12 + i)) (m_all 22) ≤ ps (m_all 23) (m_all (25 + t % 6)) (m_all 20)
    · refine ⟨(2, c_bads, c_nos), (2, m_refused), ?_, ?_, rfl, hH, h2, h3, h4, h5, h6⟩
      · unfold f_X8_door; rw [q_there, b_some, if_neg c1, q_isIn hG (a1.trans en) en hn hi, b_some, if_pos q, q_likelyNow hG (a1.trans en) en hn hi _ a8, b_some, q_letsNow hW a6 (a8.trans et) a9 (by omega), b_some, if_pos c]
        unfold f_X8_door_b55; rw [(q_pairs0 m_all m_all).1]; rfl
      · unfold f_X9_door; rw [q_one9, b_some, if_neg c9, hhas, b_some, if_pos q, q_lkOf9 m_all (by decide) (by decide) (by omega), b_some, q_psNow9 m_all (by decide) (by decide) et (by omega), b_some, if_pos c]
        exact (q_pairs0 m_all m_refused).2
    · refine ⟨(0, c_bads, c_nos), (0, m_refused), ?_, ?_, rfl, hH, h2, h3, h4, h5, h6⟩
      · unfold f_X8_door; rw [q_there, b_some, if_neg c1, q_isIn hG (a1.trans en) en hn hi, b_some, if_pos q, q_likelyNow hG (a1.trans en) en hn hi _ a8, b_some, q_letsNow hW a6 (a8.trans et) a9 (by omega), b_some, if_neg c]
        unfold f_X8_door_b55; rw [(q_pairs1 m_all m_all).1]; rfl
      · unfold f_X9_door; rw [q_one9, b_some, if_neg c9, hhas, b_some, if_pos q, q_lkOf9 m_all (by decide) (by decide) (by omega), b_some, q_psNow9 m_all (by decide) (by decide) et (by omega), b_some, if_neg c]
        exact (q_pairs1 m_all m_refused).2
  · refine ⟨(-3, c_bads, c_nos + 1), (-3, upd m_refused 1 (m_refused 1 + 1)), ?_, ?_, rfl, hH, h2, h3, h4, h5, h6.no⟩
    · unfold f_X8_door; rw [q_there, b_some, if_neg c1, q_isIn hG (a1.trans en) en hn hi, b_some, if_neg (by rw [q]; decide)]; rfl
    · unfold f_X9_door; rw [q_one9, b_some, if_neg c9, hhas, b_some, if_neg (by rw [q]; decide)]; rfl
set_option maxHeartbeats 4000000 in
set_option maxRecDepth 20000 in
theorem e_rain {c_house_wets : (Nat → Int32)} {c_house_guests_cells : (Nat → Int32)} {c_house_guests_rows : Int32} {c_house_sights_cells : (Nat → Int32)} {c_house_sights_rows : Int32} {c_house_remarks_cells : (Nat → Int32)} {c_house_remarks_rows : Int32} {c_house_marks_cells : (Nat → Int32)} {c_house_marks_rows : Int32} {c_house_past_cells : (Nat → Int32)} {c_house_past_rows : Int32} {c_house_host : Int32} {c_house_rooms : Int32} {c_house_night : Int32} {c_house_wheels : Int32} {c_house_turned : Int32} {c_image0_wets : (Nat → Int32)} {c_image0_guests_cells : (Nat → Int32)} {c_image0_guests_rows : Int32} {c_image0_sights_cells : (Nat → Int32)} {c_image0_sights_rows : Int32} {c_image0_remarks_cells : (Nat → Int32)} {c_image0_remarks_rows : Int32} {c_image0_marks_cells : (Nat → Int32)} {c_image0_marks_rows : Int32} {c_image0_past_cells : (Nat → Int32)} {c_image0_past_rows : Int32} {c_image0_host : Int32} {c_image0_rooms : Int32} {c_image0_night : Int32} {c_image0_wheels : Int32} {c_image0_turned : Int32} {c_image1_wets : (Nat → Int32)} {c_image1_guests_cells : (Nat → Int32)} {c_image1_guests_rows : Int32} {c_image1_sights_cells : (Nat → Int32)} {c_image1_sights_rows : Int32} {c_image1_remarks_cells : (Nat → Int32)} {c_image1_remarks_rows : Int32} {c_image1_marks_cells : (Nat → Int32)} {c_image1_marks_rows : Int32} {c_image1_past_cells : (Nat → Int32)} {c_image1_past_rows : Int32} {c_image1_host : Int32} {c_image1_rooms : Int32} {c_image1_night : Int32} {c_image1_wheels : Int32} {c_image1_turned : Int32} {c_script_bytes : (Nat → Int32)} {c_script_size : Int32} {c_kept0 : Int32} {c_kept1 : Int32} {c_above : Int32} {c_below_ : Int32} {c_bads : Int32} {c_nos : Int32} {c_fulls : Int32} {m_all : (Nat → Int32)} {m_kept : (Nat → Int32)} {m_isKept : (Nat → Int32)} {m_refused : (Nat → Int32)} {m_above : Int64} {m_below_ : Int64} {m_bytes : (Nat → Int32)} {m_bytesLong : Int32} (hI : Inv c_house_wets c_house_guests_cells c_house_guests_rows c_house_sights_cells c_house_sights_rows c_house_remarks_cells c_house_remarks_rows c_house_marks_cells c_house_marks_rows c_house_past_cells c_house_past_rows c_house_host c_house_rooms c_house_night c_house_wheels c_house_turned c_image0_wets c_image0_guests_cells c_image0_guests_rows c_image0_sights_cells c_image0_sights_rows c_image0_remarks_cells c_image0_remarks_rows c_image0_marks_cells c_image0_marks_rows c_image0_past_cells c_image0_past_rows c_image0_host c_image0_rooms c_image0_night c_image0_wheels c_image0_turned c_image1_wets c_image1_guests_cells c_image1_guests_rows c_image1_sights_cells c_image1_sights_rows c_image1_remarks_cells c_image1_remarks_rows c_image1_marks_cells c_image1_marks_rows c_image1_past_cells c_image1_past_rows c_image1_host c_image1_rooms c_image1_night c_image1_wheels c_image1_turned c_script_bytes c_script_size c_kept0 c_kept1 c_above c_below_ c_bads c_nos c_fulls m_all m_kept m_isKept m_refused m_above m_below_ m_bytes m_bytesLong) (m_hand : (Nat → Int32)) (p1 : Int32) (p2 : Int32) : ∃ (rc : Int32 × Int32 × Int32 × Int32 × Int32) (rm : Int32 × (Nat → Int32) × Int64 × Int64 × (Nat → Int32)), f_X8_rain c_house_wets c_house_guests_cells c_house_guests_rows c_house_host c_house_rooms c_house_night c_house_wheels c_above c_below_ c_bads c_nos p1 p2 = some rc ∧ f_X9_rain m_all m_refused m_above m_below_ m_hand p1 p2 = some rm ∧ rc.1 = rm.1 ∧ Inv c_house_wets c_house_guests_cells c_house_guests_rows c_house_sights_cells c_house_sights_rows c_house_remarks_cells c_house_remarks_rows c_house_marks_cells c_house_marks_rows c_house_past_cells c_house_past_rows c_house_host c_house_rooms c_house_night c_house_wheels c_house_turned c_image0_wets c_image0_guests_cells c_image0_guests_rows c_image0_sights_cells c_image0_sights_rows c_image0_remarks_cells c_image0_remarks_rows c_image0_marks_cells c_image0_marks_rows c_image0_past_cells c_image0_past_rows c_image0_host c_image0_rooms c_image0_night c_image0_wheels c_image0_turned c_image1_wets c_image1_guests_cells c_image1_guests_rows c_image1_sights_cells c_image1_sights_rows c_image1_remarks_cells c_image1_remarks_rows c_image1_marks_cells c_image1_marks_rows c_image1_past_cells c_image1_past_rows c_image1_host c_image1_rooms c_image1_night c_image1_wheels c_image1_turned c_script_bytes c_script_size c_kept0 c_kept1 rc.2.1 rc.2.2.1 rc.2.2.2.1 rc.2.2.2.2 c_fulls m_all m_kept m_isKept rm.2.1 rm.2.2.1 rm.2.2.2.1 m_bytes m_bytesLong := by
  have hH := hI.1
  obtain ⟨⟨hG0, hW, hG, hS, hN, hK, hP⟩, h2, h3, h4, h5, h6⟩ := hI
  have hC := hG0.cr hW hG
  obtain ⟨a1, a2, a3, a4, a5, a6, a7, a8, a9, a10, b1, b2, b3, b4, b5, b6, b7, b8, b9, b10⟩ := hG0
  obtain ⟨n, hn, en⟩ := rg_nI (h := 7) b1 (by decide)
  obtain ⟨t, ht, et⟩ := rg_nI (h := 9999) b8 (by decide)
  obtain ⟨I, hI7, eI⟩ := hG.ins
  by_cases c1 : ib p1 0 (c_house_guests_rows - 1) = 0
  · refine ⟨(-2, c_above, c_below_, c_bads + 1, c_nos), (-2, upd m_refused 0 (m_refused 0 + 1), m_above, m_below_, m_hand), ?_, ?_, rfl, hH, h2, h3, h4, h5, h6.bad⟩
    · unfold f_X8_rain; rw [q_there, b_some, if_pos c1]; rfl
    · unfold f_X9_rain; rw [q_one9, b_some, if_pos (by rw [← ib_same a1]; exact c1)]; rfl
  obtain ⟨i, hi, rfl⟩ := q_num (a1.trans en) hn c1
  have c9 : ¬ ib (nI i) 0 (m_all 0 - 1) = 0 := by rw [← ib_same a1]; exact c1
  by_cases c2 : ib p2 0 10 = 0
  · refine ⟨(-2, c_above, c_below_, c_bads + 1, c_nos), (-2, upd m_refused 0 (m_refused 0 + 1), m_above, m_below_, m_hand), ?_, ?_, rfl, hH, h2, h3, h4, h5, h6.bad⟩
    · unfold f_X8_rain; rw [q_there, b_some, if_neg c1, q_within, b_some, if_pos c2]; rfl
    · unfold f_X9_rain; rw [q_one9, b_some, if_neg c9, show (0 : Int64) = (0 : Int32).toInt64 from rfl, show (10 : Int64) = (10 : Int32).toInt64 from rfl, q_in, b_some, if_pos c2]; rfl
  have hhas : f_X9_has (m_all (Int32.toNatClampNeg 19)) (nI i) = some (btn (m_all 19) i) := by
    show f_X9_has (m_all 19) (nI i) = _
    rw [eI]; exact bt_has ⟨I, hI7⟩ ⟨i, by omega⟩
  rcases btn01 (m_all 19) i with q | q
  · obtain ⟨j, hj, rfl⟩ := rg_nI (x := p2) (h := 10) (ibn c2) (by decide)
    have h6t := nat6 t
    have hx : (25 : Int32) + (m_all (Int32.toNatClampNeg 22) - m_all (Int32.toNatClampNeg 22) / 6 * 6) = nI (25 + t % 6) := by
      rw [show Int32.toNatClampNeg 22 = 22 from rfl, et, show (6 : Int32) = nI 6 from rfl, na_rem (by omega) (by decide) (by decide)]; exact na_add 25 (t % 6)
    have hh : ∀ k : Nat, (k < 25 ∨ k = 31 + i) → upd (cp m_hand m_all 0 0 38) (25 + t % 6) 4 k = m_all k := fun k hk => by rw [up_ne _ _ (by omega), lay_get (by omega)]
    have hx4 : upd (cp m_hand m_all 0 0 38) (25 + t % 6) 4 (25 + t % 6) = 4 := up_same _ _ _
    have hl : f_X9_letsIn 38 (upd (cp m_hand m_all 0 0 38) (25 + t % 6) 4) (nI i) = some (op m_all i 4) := by
      rw [q_letsIn9 (by decide) (by decide) ((hh 19 (by omega)).trans eI) hI7 ((hh 22 (by omega)).trans et) (by omega) (by omega), hh 19 (by omega), q, if_neg no01, hx4, op_congr 4 hh (by omega)]
    have hl2 : f_X9_letsIn 250 m_all (nI i) = some (op m_all i (m_all (25 + t % 6))) := by
      rw [q_letsIn9 (by decide) (by decide) eI hI7 et (by omega) (by omega), q, if_neg no01]
    have fin : ∀ (s : Nat) (x : Int32) (y z : Int64), s ≤ 10 → x = nI s → z + y = (nI s).toInt64 → ∃ a b : Int32, f_X8_rain_b85 c_house_wets c_house_guests_cells c_house_guests_rows c_house_host c_house_rooms c_house_night c_house_wheels c_above c_below_ c_bads c_nos x = some (1, a, b, c_bads, c_nos) ∧ f_X9_rain_b108 m_all m_refused m_above m_below_ (upd (cp m_hand m_all 0 0 38) (25 + t % 6) 4) y z = some (1, m_refused, a.toInt64, b.toInt64, upd (cp m_hand m_all 0 0 38) (25 + t % 6) 4) := fun s x y z hs ex ey => by
      obtain ⟨a, b, e1, e2⟩ := q_tenths s hs
      refine ⟨a, b, ?_, ?_⟩
      · unfold f_X8_rain_b85; rw [ex, e1]; rfl
      · unfold f_X9_rain_b108; rw [ey, e2]; rfl
    have all8 : f_X8_rain c_house_wets c_house_guests_cells c_house_guests_rows c_house_host c_house_rooms c_house_night c_house_wheels c_above c_below_ c_bads c_nos (nI i) (nI j) = f_X8_rain_b85 c_house_wets c_house_guests_cells c_house_guests_rows c_house_host c_house_rooms c_house_night c_house_wheels c_above c_below_ c_bads c_nos ((if op m_all i 4 = 0 then 0 else 0 + nI j) + (if op m_all i (m_all (25 + t % 6)) = 0 then 0 else 10 - nI j)) := by
      unfold f_X8_rain f_X8_rain_b60
      rw [q_there, b_some, if_neg c1, q_within, b_some, if_neg c2, q_isIn hG (a1.trans en) en hn hi, b_some, if_pos q, q_opensTo hC en hi hn 4, b_some, q_wetNow hW (a8.trans et) (by omega), b_some, q_opensTo hC en hi hn _, b_some]
      rcases op01 m_all i 4 with w | w
      · rw [w, if_pos rfl, if_pos rfl]
        rcases op01 m_all i (m_all (25 + t % 6)) with v | v
        · rw [v, if_pos rfl, if_pos rfl]; rfl
        · rw [v, if_neg no10, if_neg no10]
      · rw [w, if_neg no10, if_neg no10, b_some, q_opensTo hC en hi hn _, b_some]
        rcases op01 m_all i (m_all (25 + t % 6)) with v | v
        · rw [v, if_pos rfl, if_pos rfl, Int32.add_zero]
        · rw [v, if_neg no10, if_neg no10]
    have all9 : f_X9_rain m_all m_refused m_above m_below_ m_hand (nI i) (nI j) = f_X9_rain_b108 m_all m_refused m_above m_below_ (upd (cp m_hand m_all 0 0 38) (25 + t % 6) 4) (if op m_all i 4 = 0 then 0 else (nI j).toInt64) (if op m_all i (m_all (25 + t % 6)) = 0 then 0 else Int32.toInt64 (10 - nI j)) := by
      unfold f_X9_rain
      rw [q_one9, b_some, if_neg c9, show (0 : Int64) = (0 : Int32).toInt64 from rfl, show (10 : Int64) = (10 : Int32).toInt64 from rfl, q_in, b_some, if_neg c2, hhas, b_some, if_pos q, q_layHand, b_some, hx, if_pos (nI_in (by omega) (by decide)), nI_clamp (by omega), hl2, b_some]
      unfold f_X9_rain_b89
      rw [hl]
      rcases op01 m_all i 4 with w | w
      · rw [w, b_some, b_some, if_pos rfl, if_pos rfl]
        rcases op01 m_all i (m_all (25 + t % 6)) with v | v
        · rw [v, if_pos rfl, if_pos rfl]; rfl
        · rw [v, if_neg no10, if_neg no10]; rfl
      · rw [w, b_some, b_some, if_neg no10, if_neg no10]
        rcases op01 m_all i (m_all (25 + t % 6)) with v | v
        · rw [v, if_pos rfl, if_pos rfl]; rfl
        · rw [v, if_neg no10, if_neg no10]; rfl
    have sums : ∀ J : Fin 11, (0 : Int64) + (nI J.val).toInt64 = (nI J.val).toInt64 ∧ Int32.toInt64 (10 - nI J.val) + 0 = (nI (10 - J.val)).toInt64 ∧ Int32.toInt64 (10 - nI J.val) + (nI J.val).toInt64 = (nI 10).toInt64 := by decide +kernel
    have sums8 : ∀ J : Fin 11, (0 : Int32) + nI J.val + 0 = nI J.val ∧ 0 + ((10 : Int32) - nI J.val) = nI (10 - J.val) ∧ (0 : Int32) + nI J.val + (10 - nI J.val) = nI 10 := by decide +kernel
    obtain ⟨u1, u2, u3⟩ := sums ⟨j, by omega⟩
    obtain ⟨v1, v2, v3⟩ := sums8 ⟨j, by omega⟩
    dsimp only at u1 u2 u3 v1 v2 v3
    have go : ∃ a b : Int32, f_X8_rain c_house_wets c_house_guests_cells c_house_guests_rows c_house_host c_house_rooms c_house_night c_house_wheels c_above c_below_ c_bads c_nos (nI i) (nI j) = some (1, a, b, c_bads, c_nos) ∧ f_X9_rain m_all m_refused m_above m_below_ m_hand (nI i) (nI j) = some (1, m_refused, a.toInt64, b.toInt64, upd (cp m_hand m_all 0 0 38) (25 + t % 6) 4) := by
      rw [all8, all9]
      rcases op01 m_all i 4 with w | w
      · rw [w, if_pos rfl, if_pos rfl]
        rcases op01 m_all i (m_all (25 + t % 6)) with v | v
        · rw [v, if_pos rfl, if_pos rfl]; exact fin 0 _ _ _ (by omega) rfl rfl
        · rw [v, if_neg no10, if_neg no10]; exact fin (10 - j) _ _ _ (by omega) v2 u2
      · rw [w, if_neg no10, if_neg no10]
        rcases op01 m_all i (m_all (25 + t % 6)) with v | v
        · rw [v, if_pos rfl, if_pos rfl]; exact fin j _ _ _ hj v1 u1
        · rw [v, if_neg no10, if_neg no10]; exact fin 10 _ _ _ (by omega) v3 u3
    obtain ⟨a, b, e1, e2⟩ := go
    exact ⟨_, _, e1, e2, rfl, hH, h2, h3, h4, ⟨rfl, rfl⟩, h6⟩
  · refine ⟨(-3, c_above, c_below_, c_bads, c_nos + 1), (-3, upd m_refused 1 (m_refused 1 + 1), m_above, m_below_, m_hand), ?_, ?_, rfl, hH, h2, h3, h4, h5, h6.no⟩
    · unfold f_X8_rain; rw [q_there, b_some, if_neg c1, q_within, b_some, if_neg c2, q_isIn hG (a1.trans en) en hn hi, b_some, if_neg (by rw [q]; decide)]; rfl
    · unfold f_X9_rain; rw [q_one9, b_some, if_neg c9, show (0 : Int64) = (0 : Int32).toInt64 from rfl, show (10 : Int64) = (10 : Int32).toInt64 from rfl, q_in, b_some, if_neg c2, hhas, b_some, if_neg (by rw [q]; decide)]; rfl
