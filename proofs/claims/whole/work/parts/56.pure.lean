set_option maxHeartbeats 4000000 in
set_option maxRecDepth 20000 in
theorem e_count {c_house_wets : (Nat → Int32)} {c_house_guests_cells : (Nat → Int32)} {c_house_guests_rows : Int32} {c_house_sights_cells : (Nat → Int32)} {c_house_sights_rows : Int32} {c_house_remarks_cells : (Nat → Int32)} {c_house_remarks_rows : Int32} {c_house_marks_cells : (Nat → Int32)} {c_house_marks_rows : Int32} {c_house_past_cells : (Nat → Int32)} {c_house_past_rows : Int32} {c_house_host : Int32} {c_house_rooms : Int32} {c_house_night : Int32} {c_house_wheels : Int32} {c_house_turned : Int32} {c_image0_wets : (Nat → Int32)} {c_image0_guests_cells : (Nat → Int32)} {c_image0_guests_rows : Int32} {c_image0_sights_cells : (Nat → Int32)} {c_image0_sights_rows : Int32} {c_image0_remarks_cells : (Nat → Int32)} {c_image0_remarks_rows : Int32} {c_image0_marks_cells : (Nat → Int32)} {c_image0_marks_rows : Int32} {c_image0_past_cells : (Nat → Int32)} {c_image0_past_rows : Int32} {c_image0_host : Int32} {c_image0_rooms : Int32} {c_image0_night : Int32} {c_image0_wheels : Int32} {c_image0_turned : Int32} {c_image1_wets : (Nat → Int32)} {c_image1_guests_cells : (Nat → Int32)} {c_image1_guests_rows : Int32} {c_image1_sights_cells : (Nat → Int32)} {c_image1_sights_rows : Int32} {c_image1_remarks_cells : (Nat → Int32)} {c_image1_remarks_rows : Int32} {c_image1_marks_cells : (Nat → Int32)} {c_image1_marks_rows : Int32} {c_image1_past_cells : (Nat → Int32)} {c_image1_past_rows : Int32} {c_image1_host : Int32} {c_image1_rooms : Int32} {c_image1_night : Int32} {c_image1_wheels : Int32} {c_image1_turned : Int32} {c_script_bytes : (Nat → Int32)} {c_script_size : Int32} {c_kept0 : Int32} {c_kept1 : Int32} {c_above : Int32} {c_below_ : Int32} {c_bads : Int32} {c_nos : Int32} {c_fulls : Int32} {m_all : (Nat → Int32)} {m_kept : (Nat → Int32)} {m_isKept : (Nat → Int32)} {m_refused : (Nat → Int32)} {m_above : Int64} {m_below_ : Int64} {m_bytes : (Nat → Int32)} {m_bytesLong : Int32} (hI : Inv c_house_wets c_house_guests_cells c_house_guests_rows c_house_sights_cells c_house_sights_rows c_house_remarks_cells c_house_remarks_rows c_house_marks_cells c_house_marks_rows c_house_past_cells c_house_past_rows c_house_host c_house_rooms c_house_night c_house_wheels c_house_turned c_image0_wets c_image0_guests_cells c_image0_guests_rows c_image0_sights_cells c_image0_sights_rows c_image0_remarks_cells c_image0_remarks_rows c_image0_marks_cells c_image0_marks_rows c_image0_past_cells c_image0_past_rows c_image0_host c_image0_rooms c_image0_night c_image0_wheels c_image0_turned c_image1_wets c_image1_guests_cells c_image1_guests_rows c_image1_sights_cells c_image1_sights_rows c_image1_remarks_cells c_image1_remarks_rows c_image1_marks_cells c_image1_marks_rows c_image1_past_cells c_image1_past_rows c_image1_host c_image1_rooms c_image1_night c_image1_wheels c_image1_turned c_script_bytes c_script_size c_kept0 c_kept1 c_above c_below_ c_bads c_nos c_fulls m_all m_kept m_isKept m_refused m_above m_below_ m_bytes m_bytesLong)  (p1 : Int32) : ∃ (rc : Int32 × Int32) (rm : Int32 × (Nat → Int32)), f_X8_count c_house_guests_cells c_house_guests_rows c_house_sights_rows c_house_remarks_rows c_house_marks_rows c_house_past_rows c_house_night c_script_size c_bads p1 = some rc ∧ f_X9_count m_all m_bytesLong m_refused p1 = some rm ∧ rc.1 = rm.1 ∧ Inv c_house_wets c_house_guests_cells c_house_guests_rows c_house_sights_cells c_house_sights_rows c_house_remarks_cells c_house_remarks_rows c_house_marks_cells c_house_marks_rows c_house_past_cells c_house_past_rows c_house_host c_house_rooms c_house_night c_house_wheels c_house_turned c_image0_wets c_image0_guests_cells c_image0_guests_rows c_image0_sights_cells c_image0_sights_rows c_image0_remarks_cells c_image0_remarks_rows c_image0_marks_cells c_image0_marks_rows c_image0_past_cells c_image0_past_rows c_image0_host c_image0_rooms c_image0_night c_image0_wheels c_image0_turned c_image1_wets c_image1_guests_cells c_image1_guests_rows c_image1_sights_cells c_image1_sights_rows c_image1_remarks_cells c_image1_remarks_rows c_image1_marks_cells c_image1_marks_rows c_image1_past_cells c_image1_past_rows c_image1_host c_image1_rooms c_image1_night c_image1_wheels c_image1_turned c_script_bytes c_script_size c_kept0 c_kept1 c_above c_below_ rc.2 c_nos c_fulls m_all m_kept m_isKept rm.2 m_above m_below_ m_bytes m_bytesLong := by
  have hH := hI.1
  obtain ⟨⟨hG0, hW, hG, hS, hN, hK, hP⟩, h2, h3, h4, h5, h6⟩ := hI
  have hG00 := hG0
  obtain ⟨a1, a2, a3, a4, a5, a6, a7, a8, a9, a10, b1, b2, b3, b4, b5, b6, b7, b8, b9, b10⟩ := hG0
  obtain ⟨n, hn, en⟩ := rg_nI (h := 7) b1 (by decide)
  obtain ⟨I, hI7, eI⟩ := hG.ins
  by_cases c1 : ib p1 0 8 = 0
  · refine ⟨(-2, c_bads + 1), (-2, upd m_refused 0 (m_refused 0 + 1)), ?_, ?_, rfl, hH, h2, h3, h4, h5, h6.bad⟩
    · unfold f_X8_count; rw [q_within, b_some, if_pos c1]; rfl
    · unfold f_X9_count; rw [show (0 : Int64) = (0 : Int32).toInt64 from rfl, show (8 : Int64) = (8 : Int32).toInt64 from rfl, q_in, b_some, if_pos c1]; rfl
  obtain ⟨j, hj, rfl⟩ := rg_nI (x := p1) (h := 8) (ibn c1) (by decide)
  refine ⟨(cnt m_all m_bytesLong n j, c_bads), (cnt m_all m_bytesLong n j, m_refused), ?_, ?_, rfl, hH, h2, h3, h4, h5, h6⟩
  · unfold f_X8_count; rw [q_within, b_some, if_neg c1, h4.1, q_counted hG (a1.trans en) en hn a2 a3 a4 a5 a8 hj, b_some]
  · unfold f_X9_count; rw [show (0 : Int64) = (0 : Int32).toInt64 from rfl, show (8 : Int64) = (8 : Int32).toInt64 from rfl, q_in, b_some, if_neg c1, q_counted9 en hn eI hI7 hj, b_some]
set_option maxHeartbeats 4000000 in
set_option maxRecDepth 20000 in
theorem e_digest {c_house_wets : (Nat → Int32)} {c_house_guests_cells : (Nat → Int32)} {c_house_guests_rows : Int32} {c_house_sights_cells : (Nat → Int32)} {c_house_sights_rows : Int32} {c_house_remarks_cells : (Nat → Int32)} {c_house_remarks_rows : Int32} {c_house_marks_cells : (Nat → Int32)} {c_house_marks_rows : Int32} {c_house_past_cells : (Nat → Int32)} {c_house_past_rows : Int32} {c_house_host : Int32} {c_house_rooms : Int32} {c_house_night : Int32} {c_house_wheels : Int32} {c_house_turned : Int32} {c_image0_wets : (Nat → Int32)} {c_image0_guests_cells : (Nat → Int32)} {c_image0_guests_rows : Int32} {c_image0_sights_cells : (Nat → Int32)} {c_image0_sights_rows : Int32} {c_image0_remarks_cells : (Nat → Int32)} {c_image0_remarks_rows : Int32} {c_image0_marks_cells : (Nat → Int32)} {c_image0_marks_rows : Int32} {c_image0_past_cells : (Nat → Int32)} {c_image0_past_rows : Int32} {c_image0_host : Int32} {c_image0_rooms : Int32} {c_image0_night : Int32} {c_image0_wheels : Int32} {c_image0_turned : Int32} {c_image1_wets : (Nat → Int32)} {c_image1_guests_cells : (Nat → Int32)} {c_image1_guests_rows : Int32} {c_image1_sights_cells : (Nat → Int32)} {c_image1_sights_rows : Int32} {c_image1_remarks_cells : (Nat → Int32)} {c_image1_remarks_rows : Int32} {c_image1_marks_cells : (Nat → Int32)} {c_image1_marks_rows : Int32} {c_image1_past_cells : (Nat → Int32)} {c_image1_past_rows : Int32} {c_image1_host : Int32} {c_image1_rooms : Int32} {c_image1_night : Int32} {c_image1_wheels : Int32} {c_image1_turned : Int32} {c_script_bytes : (Nat → Int32)} {c_script_size : Int32} {c_kept0 : Int32} {c_kept1 : Int32} {c_above : Int32} {c_below_ : Int32} {c_bads : Int32} {c_nos : Int32} {c_fulls : Int32} {m_all : (Nat → Int32)} {m_kept : (Nat → Int32)} {m_isKept : (Nat → Int32)} {m_refused : (Nat → Int32)} {m_above : Int64} {m_below_ : Int64} {m_bytes : (Nat → Int32)} {m_bytesLong : Int32} (hI : Inv c_house_wets c_house_guests_cells c_house_guests_rows c_house_sights_cells c_house_sights_rows c_house_remarks_cells c_house_remarks_rows c_house_marks_cells c_house_marks_rows c_house_past_cells c_house_past_rows c_house_host c_house_rooms c_house_night c_house_wheels c_house_turned c_image0_wets c_image0_guests_cells c_image0_guests_rows c_image0_sights_cells c_image0_sights_rows c_image0_remarks_cells c_image0_remarks_rows c_image0_marks_cells c_image0_marks_rows c_image0_past_cells c_image0_past_rows c_image0_host c_image0_rooms c_image0_night c_image0_wheels c_image0_turned c_image1_wets c_image1_guests_cells c_image1_guests_rows c_image1_sights_cells c_image1_sights_rows c_image1_remarks_cells c_image1_remarks_rows c_image1_marks_cells c_image1_marks_rows c_image1_past_cells c_image1_past_rows c_image1_host c_image1_rooms c_image1_night c_image1_wheels c_image1_turned c_script_bytes c_script_size c_kept0 c_kept1 c_above c_below_ c_bads c_nos c_fulls m_all m_kept m_isKept m_refused m_above m_below_ m_bytes m_bytesLong)   : ∃ (rc : Int64) (rm : Int64), f_X8_digest c_house_wets c_house_guests_cells c_house_guests_rows c_house_sights_cells c_house_sights_rows c_house_remarks_cells c_house_remarks_rows c_house_marks_cells c_house_marks_rows c_house_past_rows c_house_host c_house_rooms c_house_night c_house_wheels c_house_turned c_script_size c_above c_below_ = some rc ∧ f_X9_digest m_all m_above m_below_ m_bytesLong = some rm ∧ rc = rm ∧ Inv c_house_wets c_house_guests_cells c_house_guests_rows c_house_sights_cells c_house_sights_rows c_house_remarks_cells c_house_remarks_rows c_house_marks_cells c_house_marks_rows c_house_past_cells c_house_past_rows c_house_host c_house_rooms c_house_night c_house_wheels c_house_turned c_image0_wets c_image0_guests_cells c_image0_guests_rows c_image0_sights_cells c_image0_sights_rows c_image0_remarks_cells c_image0_remarks_rows c_image0_marks_cells c_image0_marks_rows c_image0_past_cells c_image0_past_rows c_image0_host c_image0_rooms c_image0_night c_image0_wheels c_image0_turned c_image1_wets c_image1_guests_cells c_image1_guests_rows c_image1_sights_cells c_image1_sights_rows c_image1_remarks_cells c_image1_remarks_rows c_image1_marks_cells c_image1_marks_rows c_image1_past_cells c_image1_past_rows c_image1_host c_image1_rooms c_image1_night c_image1_wheels c_image1_turned c_script_bytes c_script_size c_kept0 c_kept1 c_above c_below_ c_bads c_nos c_fulls m_all m_kept m_isKept m_refused m_above m_below_ m_bytes m_bytesLong := by
  have hH := hI.1
  obtain ⟨⟨hG0, hW, hG, hS, hN, hK, hP⟩, h2, h3, h4, h5, h6⟩ := hI
  have hG00 := hG0
  obtain ⟨a1, a2, a3, a4, a5, a6, a7, a8, a9, a10, b1, b2, b3, b4, b5, b6, b7, b8, b9, b10⟩ := hG0
  obtain ⟨n, hn, en⟩ := rg_nI (h := 7) b1 (by decide)
  obtain ⟨I, hI7, eI⟩ := hG.ins
  obtain ⟨s, hs, es⟩ := rg_nI (h := 5) b2 (by decide)
  obtain ⟨r, hr, er⟩ := rg_nI (h := 6) b3 (by decide)
  obtain ⟨k, hk, ek⟩ := rg_nI (h := 6) b4 (by decide)
  have hA1 : ∃ A1, A1 = dg (cnt m_all m_bytesLong n) 1709 9 := ⟨_, rfl⟩
  obtain ⟨A1, eA1⟩ := hA1
  have hA2 : ∃ A2, A2 = dg (std m_all) A1 4 := ⟨_, rfl⟩
  obtain ⟨A2, eA2⟩ := hA2
  have hA3 : ∃ A3, A3 = dg (fun q => m_all (25 + q)) A2 6 := ⟨_, rfl⟩
  obtain ⟨A3, eA3⟩ := hA3
  have hA4 : ∃ A4, A4 = dg c_house_guests_cells A3 (n * 4) := ⟨_, rfl⟩
  obtain ⟨A4, eA4⟩ := hA4
  have hA5 : ∃ A5, A5 = dg (fun q => m_all (38 + q)) A4 (4 * s) := ⟨_, rfl⟩
  obtain ⟨A5, eA5⟩ := hA5
  have hA6 : ∃ A6, A6 = dg (fun q => m_all (58 + q)) A5 (5 * r) := ⟨_, rfl⟩
  obtain ⟨A6, eA6⟩ := hA6
  have hA7 : ∃ A7, A7 = dg (fun q => m_all (88 + q)) A6 (3 * k) := ⟨_, rfl⟩
  obtain ⟨A7, eA7⟩ := hA7
  have hsc : dg c_house_sights_cells A4 (s * 4) = A5 := by
    rw [eA5, Nat.mul_comm 4 s]
    refine dg_congr _ _ (fun q hq => ?_)
    have h := (hS (q / 4) (by rw [es, nI_toInt (by omega)]; omega)).1 (q % 4) (by omega)
    rw [show 4 * (q / 4) + q % 4 = q by omega] at h
    exact h
  have hrc : dg c_house_remarks_cells A5 (r * 5) = A6 := by
    rw [eA6, Nat.mul_comm 5 r]
    refine dg_congr _ _ (fun q hq => ?_)
    have h := (hN (q / 5) (by rw [er, nI_toInt (by omega)]; omega)).1 (q % 5) (by omega)
    rw [show 5 * (q / 5) + q % 5 = q by omega] at h
    exact h
  have hkc : dg c_house_marks_cells A6 (k * 3) = A7 := by
    rw [eA7, Nat.mul_comm 3 k]
    refine dg_congr _ _ (fun q hq => ?_)
    have h := (hK (q / 3) (by rw [ek, nI_toInt (by omega)]; omega)).1 (q % 3) (by omega)
    rw [show 3 * (q / 3) + q % 3 = q by omega] at h
    exact h
  have L59 : ∀ (d j fu : Nat), j + d = 6 → d < fu → f_X8_digest_b59 c_house_wets c_house_guests_cells c_house_guests_rows c_house_sights_cells c_house_sights_rows c_house_remarks_cells c_house_remarks_rows c_house_marks_cells c_house_marks_rows c_house_past_rows c_house_host c_house_rooms c_house_night c_house_wheels c_house_turned c_script_size c_above c_below_ fu (dg (fun q => m_all (25 + q)) A2 j) (nI j) = some (31 * (31 * A7 + c_above.toInt64) + c_below_.toInt64) := by
    intro d
    induction d with
    | zero =>
      intro j fu e1 e2
      obtain ⟨fu, rfl⟩ : ∃ k, fu = k + 1 := ⟨fu - 1, by omega⟩
      rw [f_X8_digest_b59, show j = 6 by omega, if_pos (show (6 : Int32) ≤ nI 6 by decide), ← eA3, q_digestOn (W := 4) (R := n) (w := 4) c_house_guests_cells A3 rfl (a1.trans en) (by omega) (by decide) (by decide) (by decide) (by omega), b_some, ← eA4, q_digestOn (W := 4) (R := s) (w := 4) c_house_sights_cells A4 rfl (a2.trans es) (by omega) (by decide) (by decide) (by decide) (by omega), b_some, hsc, q_digestOn (W := 5) (R := r) (w := 5) c_house_remarks_cells A5 rfl (a3.trans er) (by omega) (by decide) (by decide) (by decide) (by omega), b_some, hrc, q_digestOn (W := 3) (R := k) (w := 3) c_house_marks_cells A6 rfl (a4.trans ek) (by omega) (by decide) (by decide) (by decide) (by omega), b_some, hkc]
    | succ d ih =>
      intro j fu e1 e2
      obtain ⟨fu, rfl⟩ : ∃ k, fu = k + 1 := ⟨fu - 1, by omega⟩
      have h := ih (j + 1) fu (by omega) (by omega)
      rw [f_X8_digest_b59, if_neg (show ¬ (6 : Int32) ≤ nI j from nI_ge (b := 6) (by omega) (by decide)), q_wetOf c_house_wets (by omega), b_some, show j % 6 = j by omega, (hW j (by omega)).1, show nI j + (1 : Int32) = nI (j + 1) from na_add j 1]
      exact h
  have L33 : ∀ (d j fu : Nat), j + d = 4 → d < fu → f_X8_digest_b33 c_house_wets c_house_guests_cells c_house_guests_rows c_house_sights_cells c_house_sights_rows c_house_remarks_cells c_house_remarks_rows c_house_marks_cells c_house_marks_rows c_house_past_rows c_house_host c_house_rooms c_house_night c_house_wheels c_house_turned c_script_size c_above c_below_ fu (dg (std m_all) A1 j) (nI j) = f_X8_digest_b59 c_house_wets c_house_guests_cells c_house_guests_rows c_house_sights_cells c_house_sights_rows c_house_remarks_cells c_house_remarks_rows c_house_marks_cells c_house_marks_rows c_house_past_rows c_house_host c_house_rooms c_house_night c_house_wheels c_house_turned c_script_size c_above c_below_ s_fuel (dg (fun q => m_all (25 + q)) A2 0) (nI 0) := by
    intro d
    induction d with
    | zero =>
      intro j fu e1 e2
      obtain ⟨fu, rfl⟩ : ∃ k, fu = k + 1 := ⟨fu - 1, by omega⟩
      rw [f_X8_digest_b33, show j = 4 by omega, if_pos (show (3 : Int32) < nI 4 by decide), ← eA2]; rfl
    | succ d ih =>
      intro j fu e1 e2
      obtain ⟨fu, rfl⟩ : ∃ k, fu = k + 1 := ⟨fu - 1, by omega⟩
      have h := ih (j + 1) fu (by omega) (by omega)
      rw [f_X8_digest_b33, if_neg (show ¬ (3 : Int32) < nI j from nI_nlt (b := j) (a := 3) (by omega) (by omega)), (q_std hG00 (wets := c_house_wets) (j := j) (by omega)).1, b_some, show nI j + (1 : Int32) = nI (j + 1) from na_add j 1]
      exact h
  have L6 : ∀ (d j fu : Nat), j + d = 9 → d < fu → f_X8_digest_b6 c_house_wets c_house_guests_cells c_house_guests_rows c_house_sights_cells c_house_sights_rows c_house_remarks_cells c_house_remarks_rows c_house_marks_cells c_house_marks_rows c_house_past_rows c_house_host c_house_rooms c_house_night c_house_wheels c_house_turned c_script_size c_above c_below_ fu (dg (cnt m_all m_bytesLong n) 1709 j) (nI j) = f_X8_digest_b33 c_house_wets c_house_guests_cells c_house_guests_rows c_house_sights_cells c_house_sights_rows c_house_remarks_cells c_house_remarks_rows c_house_marks_cells c_house_marks_rows c_house_past_rows c_house_host c_house_rooms c_house_night c_house_wheels c_house_turned c_script_size c_above c_below_ s_fuel (dg (std m_all) A1 0) (nI 0) := by
    intro d
    induction d with
    | zero =>
      intro j fu e1 e2
      obtain ⟨fu, rfl⟩ : ∃ k, fu = k + 1 := ⟨fu - 1, by omega⟩
      rw [f_X8_digest_b6, show j = 9 by omega, if_pos (show (9 : Int32) ≤ nI 9 by decide), ← eA1]; rfl
    | succ d ih =>
      intro j fu e1 e2
      obtain ⟨fu, rfl⟩ : ∃ k, fu = k + 1 := ⟨fu - 1, by omega⟩
      have h := ih (j + 1) fu (by omega) (by omega)
      rw [f_X8_digest_b6, if_neg (show ¬ (9 : Int32) ≤ nI j from nI_ge (b := 9) (by omega) (by decide)), show c_script_size = m_bytesLong from h4.1, q_counted hG (a1.trans en) en hn a2 a3 a4 a5 a8 (show j ≤ 8 by omega), b_some, show nI j + (1 : Int32) = nI (j + 1) from na_add j 1]
      rw [show c_script_size = m_bytesLong from h4.1] at h
      exact h
  have M80 : ∀ (kk : Int64 → Int32 → Option Int64) (i : Nat), i < n → ∀ (d j fu : Nat), j + d = 4 → d < fu → f_X9_digest_b80 kk m_all m_above m_below_ m_bytesLong fu (dg c_house_guests_cells A3 (i * 4 + j)) (nI i) (nI j) = kk (dg c_house_guests_cells A3 ((i + 1) * 4)) (nI (i + 1)) := by
    intro kk i hi d
    induction d with
    | zero =>
      intro j fu e1 e2
      obtain ⟨fu, rfl⟩ : ∃ k, fu = k + 1 := ⟨fu - 1, by omega⟩
      rw [f_X9_digest_b80, show j = 4 by omega, if_pos (show (4 : Int32) ≤ nI 4 by decide), show nI i + (1 : Int32) = nI (i + 1) from na_add i 1, show i * 4 + 4 = (i + 1) * 4 by omega]
    | succ d ih =>
      intro j fu e1 e2
      obtain ⟨fu, rfl⟩ : ∃ k, fu = k + 1 := ⟨fu - 1, by omega⟩
      have h := ih (j + 1) fu (by omega) (by omega)
      rw [f_X9_digest_b80, if_neg (show ¬ (4 : Int32) ≤ nI j from nI_ge (b := 4) (by omega) (by decide)), q_told4 hG (a1.trans en) en hn hi (show j < 4 by omega), b_some, show nI j + (1 : Int32) = nI (j + 1) from na_add j 1, Nat.mul_comm 4 i]
      exact h
  have M69 : ∀ (d j fu : Nat), j + d = n → d < fu → f_X9_digest_b69 m_all m_above m_below_ m_bytesLong fu (dg c_house_guests_cells A3 (j * 4)) (nI j) = some (31 * (31 * A7 + m_above) + m_below_) := by
    intro d
    induction d with
    | zero =>
      intro j fu e1 e2
      obtain ⟨fu, rfl⟩ : ∃ k, fu = k + 1 := ⟨fu - 1, by omega⟩
      rw [f_X9_digest_b69]
      show (if m_all 0 ≤ nI j then _ else _) = _
      rw [if_pos (by rw [en]; exact nI_le (by omega) (by omega)), show j = n by omega, ← eA4, show Int32.toNatClampNeg 1 = 1 from rfl, show Int32.toNatClampNeg 2 = 2 from rfl, show Int32.toNatClampNeg 3 = 3 from rfl, es, er, ek, show (4 : Int32) * nI s = nI (4 * s) from na_mul 4 s, show (5 : Int32) * nI r = nI (5 * r) from na_mul 5 r, show (3 : Int32) * nI k = nI (3 * k) from na_mul 3 k, show (38 : Int32) = nI 38 from rfl, q_sums A4 (by omega), b_some, ← eA5, show (58 : Int32) = nI 58 from rfl, q_sums A5 (by omega), b_some, ← eA6, show (88 : Int32) = nI 88 from rfl, q_sums A6 (by omega), b_some, ← eA7]
    | succ d ih =>
      intro j fu e1 e2
      obtain ⟨fu, rfl⟩ : ∃ k, fu = k + 1 := ⟨fu - 1, by omega⟩
      have h := ih (j + 1) fu (by omega) (by omega)
      rw [f_X9_digest_b69]
      show (if m_all 0 ≤ nI j then _ else _) = _
      rw [if_neg (by rw [en]; exact nI_ge (by omega) (by omega))]
      refine Eq.trans ?_ h
      exact M80 (f_X9_digest_b69 m_all m_above m_below_ m_bytesLong fu) j (by omega) 4 0 s_fuel (by omega) (by unfold s_fuel; omega)
  have M33 : ∀ (d j fu : Nat), j + d = 4 → d < fu → f_X9_digest_b33 m_all m_above m_below_ m_bytesLong fu (dg (std m_all) A1 j) (nI j) = f_X9_digest_b69 m_all m_above m_below_ m_bytesLong s_fuel (dg c_house_guests_cells A3 (0 * 4)) (nI 0) := by
    intro d
    induction d with
    | zero =>
      intro j fu e1 e2
      obtain ⟨fu, rfl⟩ : ∃ k, fu = k + 1 := ⟨fu - 1, by omega⟩
      rw [f_X9_digest_b33, show j = 4 by omega, if_pos (show (4 : Int32) ≤ nI 4 by decide), ← eA2, show (25 : Int32) = nI 25 from rfl, show (6 : Int32) = nI 6 from rfl, q_sums A2 (by decide), b_some, ← eA3]; rfl
    | succ d ih =>
      intro j fu e1 e2
      obtain ⟨fu, rfl⟩ : ∃ k, fu = k + 1 := ⟨fu - 1, by omega⟩
      have h := ih (j + 1) fu (by omega) (by omega)
      rw [f_X9_digest_b33, if_neg (show ¬ (4 : Int32) ≤ nI j from nI_ge (b := 4) (by omega) (by decide)), (q_std hG00 (wets := c_house_wets) (j := j) (by omega)).2, b_some, show nI j + (1 : Int32) = nI (j + 1) from na_add j 1]
      exact h
  have M6 : ∀ (d j fu : Nat), j + d = 9 → d < fu → f_X9_digest_b6 m_all m_above m_below_ m_bytesLong fu (dg (cnt m_all m_bytesLong n) 1709 j) (nI j) = f_X9_digest_b33 m_all m_above m_below_ m_bytesLong s_fuel (dg (std m_all) A1 0) (nI 0) := by
    intro d
    induction d with
    | zero =>
      intro j fu e1 e2
      obtain ⟨fu, rfl⟩ : ∃ k, fu = k + 1 := ⟨fu - 1, by omega⟩
      rw [f_X9_digest_b6, show j = 9 by omega, if_pos (show (9 : Int32) ≤ nI 9 by decide), ← eA1]; rfl
    | succ d ih =>
      intro j fu e1 e2
      obtain ⟨fu, rfl⟩ : ∃ k, fu = k + 1 := ⟨fu - 1, by omega⟩
      have h := ih (j + 1) fu (by omega) (by omega)
      rw [f_X9_digest_b6, if_neg (show ¬ (9 : Int32) ≤ nI j from nI_ge (b := 9) (by omega) (by decide)), q_counted9 en hn eI hI7 (show j ≤ 8 by omega), b_some, show nI j + (1 : Int32) = nI (j + 1) from na_add j 1]
      exact h
  have e8 : f_X8_digest c_house_wets c_house_guests_cells c_house_guests_rows c_house_sights_cells c_house_sights_rows c_house_remarks_cells c_house_remarks_rows c_house_marks_cells c_house_marks_rows c_house_past_rows c_house_host c_house_rooms c_house_night c_house_wheels c_house_turned c_script_size c_above c_below_ = some (31 * (31 * A7 + c_above.toInt64) + c_below_.toInt64) := (L6 9 0 s_fuel (by omega) (by unfold s_fuel; omega)).trans ((L33 4 0 s_fuel (by omega) (by unfold s_fuel; omega)).trans (L59 6 0 s_fuel (by omega) (by unfold s_fuel; omega)))
  have e9 : f_X9_digest m_all m_above m_below_ m_bytesLong = some (31 * (31 * A7 + m_above) + m_below_) := (M6 9 0 s_fuel (by omega) (by unfold s_fuel; omega)).trans ((M33 4 0 s_fuel (by omega) (by unfold s_fuel; omega)).trans (M69 n 0 s_fuel (by omega) (by unfold s_fuel; omega)))
  refine ⟨_, _, e8, e9, ?_, hH, h2, h3, h4, h5, h6⟩
  rw [h5.1, h5.2]
