def M10 : gM := (fun k => match k with | 0 => (fun j => match j with | 2 => -1 | 3 => 1 | _ => 0) | 3 => (fun j => match j with | 0 => 4 | 1 => 6 | 2 => 3 | 3 => -1 | 4 => -1 | 5 => 1 | _ => 0) | 7 => (upd (fun _ => 0) 0 1) | 8 => (upd (fun _ => 0) 0 (-1)) | 12 => (fun j => match j with | 0 => 4 | 1 => 6 | 2 => 3 | 3 => -1 | 4 => -1 | 5 => 1 | _ => 0) | 16 => (upd (fun _ => 0) 0 1) | 17 => (upd (fun _ => 0) 0 (-1)) | 27 => (fun j => match j with | 1 => 1 | 2 => 1 | _ => 0) | 37 => (fun j => match j with | 12 => -1 | _ => 0) | 47 => (fun j => match j with | 4 => -1 | 5 => -1 | _ => 0) | 57 => (fun j => match j with | 4 => -1 | _ => 0) | 66 => (fun j => match j with | 0 => -1 | _ => 0) | _ => (fun _ => 0), fun _ _ => 0, fun k => match k with | 0 => (fun j => match j with | 4 => 3 | 5 => 12 | _ => 0) | 21 => (fun j => match j with | 6 => 12 | _ => 0) | 23 => (fun j => match j with | 3 => 70 | _ => 0) | 27 => (fun j => match j with | 0 => 3 | _ => 0) | _ => (fun _ => 0))
set_option maxRecDepth 100000 in
set_option maxHeartbeats 8000000 in
theorem wX9 (Z : gZ) (h0 : Nat) (w : va_W) (h : PX9_init Z h0 w) : ∃ (ad : Nat → Nat), ad 0 = h0 ∧ ([0, 1, 2, 3, 4, 5, 6, 7, 8, 9, 10, 11, 12, 13, 14, 15, 16, 17, 18, 19, 20, 31, 32, 33, 34, 35, 36, 21, 22, 23, 24, 25, 26, 27, 28, 29, 30, 38, 39, 40, 41, 42, 43, 44, 45, 46, 47, 48, 49, 50, 51, 52, 53, 54, 55, 56, 57, 58, 59, 60, 61, 62, 63, 64, 65, 66, 67, 68, 69, 70, 37] : List Nat).map (fun i => w[i]?) = (g_ws Y1 (Z.1, ad, Z.2.2) M10).map some ∧ w.length = 71 := by
  obtain ⟨q1, q2, q3, q5, q7, q9, q11, q13, q15, q17, w4, w6, w8, w10, w12, w14, w16, w18, hw4, hw6, hw8, hw10, hw12, hw14, hw16, hw18, rfl⟩ := h
  obtain ⟨a3_q1, a3_q2, a3_q3, a3_q4, a3_q5, a3_q6, a3_q7, a3_q8, rfl⟩ := hw4
  obtain ⟨a12_q1, a12_q2, a12_q3, a12_q4, a12_q5, a12_q6, a12_q7, a12_q8, rfl⟩ := hw6
  obtain ⟨a27_q1, a27_q3, a27_q4, a27_q5, a27_q6, a27_q7, a27_q8, a27_w2, ha27_w2, rfl⟩ := hw8
  obtain ⟨a28_q1, a28_q2, rfl⟩ := ha27_w2
  obtain ⟨a21_q1, a21_q2, a21_w3, ha21_w3, rfl⟩ := hw10
  obtain ⟨a23_q1, a23_q2, a23_q3, a23_q4, rfl⟩ := ha21_w3
  obtain ⟨a37_q1, a37_q2, a37_q3, a37_q4, a37_q5, a37_q6, a37_q7, a37_q8, a37_q9, rfl⟩ := hw12
  obtain ⟨a47_q1, a47_q2, a47_q3, a47_q4, a47_q5, a47_q6, a47_q7, a47_q8, a47_q9, rfl⟩ := hw14
  obtain ⟨a57_q1, a57_q2, a57_q3, a57_q4, a57_q5, a57_q6, a57_q7, a57_q8, rfl⟩ := hw16
  obtain ⟨a66_q1, a66_q2, a66_q3, rfl⟩ := hw18
  refine ⟨fun k => ([h0, q1, q2, q3, a3_q1, a3_q2, a3_q3, a3_q4, a3_q5, a3_q6, a3_q7, a3_q8, q5, a12_q1, a12_q2, a12_q3, a12_q4, a12_q5, a12_q6, a12_q7, a12_q8, q9, a21_q1, a21_q2, a23_q1, a23_q2, a23_q3, q7, a27_q1, a28_q1, a28_q2, a27_q3, a27_q4, a27_q5, a27_q6, a27_q7, a27_q8, q11, a37_q1, a37_q2, a37_q3, a37_q4, a37_q5, a37_q6, a37_q7, a37_q8, a37_q9, q13, a47_q1, a47_q2, a47_q3, a47_q4, a47_q5, a47_q6, a47_q7, a47_q8, a47_q9, q15, a57_q1, a57_q2, a57_q3, a57_q4, a57_q5, a57_q6, a57_q7, a57_q8, q17, a66_q1, a66_q2, a66_q3, a23_q4] : List Nat).getD k 0, rfl, ?_, ?_⟩
  · rw [g_ws_ix]
    simp only [List.nil_append, List.cons_append]
    rfl
  · simp only [List.nil_append, List.cons_append]
    rfl
