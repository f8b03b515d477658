noncomputable section
/-! ===== the public calls, in one form ===== -/
def xo_modulus (p1 : Int32) (h : AH) : Option (Int32 × AH) := fX11_modulus p1 h
theorem okx_modulus (p1 : Int32) (h : AH) (b : Int32 × AH) (e : xo_modulus p1 h = some b) : Ok yX11_modulus cX11_modulus 2 (some .boolean) 3 [.ref 0, .int p1] h (some (.int b.1), b.2) := okX11_modulus p1 h b e
def xo_axiom (p1 : Int32) (p2 : Int32) (h : AH) : Option (Int32 × AH) := some (fX11_axiom p1 p2 h)
theorem okx_axiom (p1 : Int32) (p2 : Int32) (h : AH) (b : Int32 × AH) (e : xo_axiom p1 p2 h = some b) : Ok yX11_axiom cX11_axiom 3 (some .boolean) 2 [.ref 0, .int p1, .int p2] h (some (.int b.1), b.2) := by
  cases e
  exact okX11_axiom p1 p2 h
def xo_feed (p1 : Int32) (p2 : Int32) (p3 : Int32) (p4 : Int32) (p5 : Int32) (h : AH) : Option (Int32 × AH) := fX11_feed p1 p2 p3 p4 p5 h
theorem okx_feed (p1 : Int32) (p2 : Int32) (p3 : Int32) (p4 : Int32) (p5 : Int32) (h : AH) (b : Int32 × AH) (e : xo_feed p1 p2 p3 p4 p5 h = some b) : Ok yX11_feed cX11_feed 6 (some .int) 3 [.ref 0, .int p1, .int p2, .int p3, .int p4, .int p5] h (some (.int b.1), b.2) := okX11_feed p1 p2 p3 p4 p5 h b e
def xo_proof (p1 : Int32) (h : AH) : Option (Int32 × AH) := fX11_proof p1 h
theorem okx_proof (p1 : Int32) (h : AH) (b : Int32 × AH) (e : xo_proof p1 h = some b) : Ok yX11_proof cX11_proof 3 (some .int) 15 [.ref 0, .int p1] h (some (.int b.1), b.2) := okX11_proof p1 h b e
def xo_law (p1 : Int32) (h : AH) : Option (Int32 × AH) := fX11_law p1 h
theorem okx_law (p1 : Int32) (h : AH) (b : Int32 × AH) (e : xo_law p1 h = some b) : Ok yX11_law cX11_law 3 (some .int) 59 [.ref 0, .int p1] h (some (.int b.1), b.2) := okX11_law p1 h b e
def xo_line (p1 : Int32) (p2 : Int32) (h : AH) : Option (Int32 × AH) := fX11_line p1 p2 h
theorem okx_line (p1 : Int32) (p2 : Int32) (h : AH) (b : Int32 × AH) (e : xo_line p1 p2 h = some b) : Ok yX11_line cX11_line 3 (some .int) 5 [.ref 0, .int p1, .int p2] h (some (.int b.1), b.2) := okX11_line p1 p2 h b e
def xo_wrong (h : AH) : Option (Int32 × AH) := (fX11_wrong h).map (fun v => (v, h))
theorem okx_wrong (h : AH) (b : Int32 × AH) (e : xo_wrong h = some b) : Ok yX11_wrong cX11_wrong 1 (some .int) 6 [.ref 0] h (some (.int b.1), b.2) := by
  unfold xo_wrong at e
  cases hf : fX11_wrong h with
  | none => rw [hf] at e; cases e
  | some v => rw [hf] at e; cases e; exact okX11_wrong h v hf
def xo_untrue (h : AH) : Option (Int32 × AH) := fX11_untrue h
theorem okx_untrue (h : AH) (b : Int32 × AH) (e : xo_untrue h = some b) : Ok yX11_untrue cX11_untrue 1 (some .int) 5 [.ref 0] h (some (.int b.1), b.2) := okX11_untrue h b e
def xo_slip (p1 : Int32) (p2 : Int32) (h : AH) : Option (Int32 × AH) := fX11_slip p1 p2 h
theorem okx_slip (p1 : Int32) (p2 : Int32) (h : AH) (b : Int32 × AH) (e : xo_slip p1 p2 h = some b) : Ok yX11_slip cX11_slip 3 (some .int) 6 [.ref 0, .int p1, .int p2] h (some (.int b.1), b.2) := okX11_slip p1 p2 h b e
def xo_honest (h : AH) : Option (Int32 × AH) := fX11_honest h
theorem okx_honest (h : AH) (b : Int32 × AH) (e : xo_honest h = some b) : Ok yX11_honest cX11_honest 2 (some .int) 5 [.ref 0] h (some (.int b.1), b.2) := okX11_honest h b e
def xo_mended (p1 : Int32) (h : AH) : Option (Int32 × AH) := fX11_mended p1 h
theorem okx_mended (p1 : Int32) (h : AH) (b : Int32 × AH) (e : xo_mended p1 h = some b) : Ok yX11_mended cX11_mended 3 (some .int) 6 [.ref 0, .int p1] h (some (.int b.1), b.2) := okX11_mended p1 h b e
def xo_referred (p1 : Int32) (h : AH) : Option (Int32 × AH) := fX11_referred p1 h
theorem okx_referred (p1 : Int32) (h : AH) (b : Int32 × AH) (e : xo_referred p1 h = some b) : Ok yX11_referred cX11_referred 3 (some .int) 6 [.ref 0, .int p1] h (some (.int b.1), b.2) := okX11_referred p1 h b e
def xo_reads (p1 : Int32) (p2 : Int32) (h : AH) : Option (Int32 × AH) := fX11_reads p1 p2 h
theorem okx_reads (p1 : Int32) (p2 : Int32) (h : AH) (b : Int32 × AH) (e : xo_reads p1 p2 h = some b) : Ok yX11_reads cX11_reads 4 (some .int) 8 [.ref 0, .int p1, .int p2] h (some (.int b.1), b.2) := okX11_reads p1 p2 h b e
def xo_hidden (p1 : Int32) (p2 : Int32) (h : AH) : Option (Int32 × AH) := fX11_hidden p1 p2 h
theorem okx_hidden (p1 : Int32) (p2 : Int32) (h : AH) (b : Int32 × AH) (e : xo_hidden p1 p2 h = some b) : Ok yX11_hidden cX11_hidden 5 (some .int) 8 [.ref 0, .int p1, .int p2] h (some (.int b.1), b.2) := okX11_hidden p1 p2 h b e
def xo_unread (p1 : Int32) (h : AH) : Option (Int32 × AH) := fX11_unread p1 h
theorem okx_unread (p1 : Int32) (h : AH) (b : Int32 × AH) (e : xo_unread p1 h = some b) : Ok yX11_unread cX11_unread 4 (some .int) 7 [.ref 0, .int p1] h (some (.int b.1), b.2) := okX11_unread p1 h b e
def xo_readers (p1 : Int32) (p2 : Int32) (h : AH) : Option (Int32 × AH) := fX11_readers p1 p2 h
theorem okx_readers (p1 : Int32) (p2 : Int32) (h : AH) (b : Int32 × AH) (e : xo_readers p1 p2 h = some b) : Ok yX11_readers cX11_readers 6 (some .int) 7 [.ref 0, .int p1, .int p2] h (some (.int b.1), b.2) := okX11_readers p1 p2 h b e
def xo_blind (p1 : Int32) (h : AH) : Option (Int32 × AH) := fX11_blind p1 h
theorem okx_blind (p1 : Int32) (h : AH) (b : Int32 × AH) (e : xo_blind p1 h = some b) : Ok yX11_blind cX11_blind 5 (some .int) 6 [.ref 0, .int p1] h (some (.int b.1), b.2) := okX11_blind p1 h b e
def xo_cancel (p1 : Int32) (h : AH) : Option (Int32 × AH) := fX11_cancel p1 h
theorem okx_cancel (p1 : Int32) (h : AH) (b : Int32 × AH) (e : xo_cancel p1 h = some b) : Ok yX11_cancel cX11_cancel 3 (some .int) 7 [.ref 0, .int p1] h (some (.int b.1), b.2) := okX11_cancel p1 h b e
def xo_stands (p1 : Int32) (p2 : Int32) (h : AH) : Option (Int32 × AH) := (fX11_stands p1 p2 h).map (fun v => (v, h))
theorem okx_stands (p1 : Int32) (p2 : Int32) (h : AH) (b : Int32 × AH) (e : xo_stands p1 p2 h = some b) : Ok yX11_stands cX11_stands 3 (some .int) 3 [.ref 0, .int p1, .int p2] h (some (.int b.1), b.2) := by
  unfold xo_stands at e
  cases hf : fX11_stands p1 p2 h with
  | none => rw [hf] at e; cases e
  | some v => rw [hf] at e; cases e; exact okX11_stands p1 p2 h v hf
def xo_anew (p1 : Int32) (p2 : Int32) (p3 : Int32) (h : AH) : Option (Int32 × AH) := fX11_anew p1 p2 p3 h
theorem okx_anew (p1 : Int32) (p2 : Int32) (p3 : Int32) (h : AH) (b : Int32 × AH) (e : xo_anew p1 p2 p3 h = some b) : Ok yX11_anew cX11_anew 5 (some .int) 6 [.ref 0, .int p1, .int p2, .int p3] h (some (.int b.1), b.2) := okX11_anew p1 p2 p3 h b e
def xo_added (p1 : Int32) (h : AH) : Option (Int32 × AH) := fX11_added p1 h
theorem okx_added (p1 : Int32) (h : AH) (b : Int32 × AH) (e : xo_added p1 h = some b) : Ok yX11_added cX11_added 3 (some .int) 30 [.ref 0, .int p1] h (some (.int b.1), b.2) := okX11_added p1 h b e
def xo_order (p1 : Int32) (p2 : Int32) (h : AH) : Option (Int64 × AH) := fX11_order p1 p2 h
theorem okx_order (p1 : Int32) (p2 : Int32) (h : AH) (b : Int64 × AH) (e : xo_order p1 p2 h = some b) : Ok yX11_order cX11_order 6 (some .long) 7 [.ref 0, .int p1, .int p2] h (some (.long b.1), b.2) := okX11_order p1 p2 h b e
def xo_seed (p1 : Int32) (h : AH) : Option (Int32 × AH) := some (fX11_seed p1 h)
theorem okx_seed (p1 : Int32) (h : AH) (b : Int32 × AH) (e : xo_seed p1 h = some b) : Ok yX11_seed cX11_seed 2 (some .boolean) 1 [.ref 0, .int p1] h (some (.int b.1), b.2) := by
  cases e
  exact okX11_seed p1 h
def xo_copied (p1 : Int32) (h : AH) : Option (Int32 × AH) := fX11_copied p1 h
theorem okx_copied (p1 : Int32) (h : AH) (b : Int32 × AH) (e : xo_copied p1 h = some b) : Ok yX11_copied cX11_copied 4 (some .int) 8 [.ref 0, .int p1] h (some (.int b.1), b.2) := okX11_copied p1 h b e
def xo_author (p1 : Int32) (p2 : Int32) (h : AH) : Option (Int32 × AH) := fX11_author p1 p2 h
theorem okx_author (p1 : Int32) (p2 : Int32) (h : AH) (b : Int32 × AH) (e : xo_author p1 p2 h = some b) : Ok yX11_author cX11_author 6 (some .int) 7 [.ref 0, .int p1, .int p2] h (some (.int b.1), b.2) := okX11_author p1 p2 h b e
def xo_corrects (p1 : Int32) (p2 : Int32) (p3 : Int32) (h : AH) : Option (Int32 × AH) := fX11_corrects p1 p2 p3 h
theorem okx_corrects (p1 : Int32) (p2 : Int32) (p3 : Int32) (h : AH) (b : Int32 × AH) (e : xo_corrects p1 p2 p3 h = some b) : Ok yX11_corrects cX11_corrects 6 (some .int) 6 [.ref 0, .int p1, .int p2, .int p3] h (some (.int b.1), b.2) := okX11_corrects p1 p2 p3 h b e
def xo_points (p1 : Int32) (h : AH) : Option (Int32 × AH) := some (fX11_points p1 h, h)
theorem okx_points (p1 : Int32) (h : AH) (b : Int32 × AH) (e : xo_points p1 h = some b) : Ok yX11_points cX11_points 2 (some .int) 2 [.ref 0, .int p1] h (some (.int b.1), b.2) := by
  cases e
  exact okX11_points p1 h
def xo_keep (h : AH) : Option (Int32 × AH) := fX11_keep h
theorem okx_keep (h : AH) (b : Int32 × AH) (e : xo_keep h = some b) : Ok yX11_keep cX11_keep 1 (some .int) 4 [.ref 0] h (some (.int b.1), b.2) := okX11_keep h b e
def xo_undo (h : AH) : Option (Int32 × AH) := fX11_undo h
theorem okx_undo (h : AH) (b : Int32 × AH) (e : xo_undo h = some b) : Ok yX11_undo cX11_undo 1 (some .boolean) 4 [.ref 0] h (some (.int b.1), b.2) := okX11_undo h b e
def xo_check (p1 : Int32) (h : AH) : Option (Int32 × AH) := fX11_check p1 h
theorem okx_check (p1 : Int32) (h : AH) (b : Int32 × AH) (e : xo_check p1 h = some b) : Ok yX11_check cX11_check 4 (some .int) 3 [.ref 0, .int p1] h (some (.int b.1), b.2) := okX11_check p1 h b e
def xo_count (p1 : Int32) (h : AH) : Option (Int32 × AH) := fX11_count p1 h
theorem okx_count (p1 : Int32) (h : AH) (b : Int32 × AH) (e : xo_count p1 h = some b) : Ok yX11_count cX11_count 2 (some .int) 6 [.ref 0, .int p1] h (some (.int b.1), b.2) := okX11_count p1 h b e
def mo_modulus (p1 : Int32) (h : AH) : Option (Int32 × AH) := fX12_modulus p1 h
theorem okm_modulus (p1 : Int32) (h : AH) (b : Int32 × AH) (e : mo_modulus p1 h = some b) : Ok yX12_modulus cX12_modulus 3 (some .boolean) 2 [.ref 75, .int p1] h (some (.int b.1), b.2) := okX12_modulus p1 h b e
def mo_axiom (p1 : Int32) (p2 : Int32) (h : AH) : Option (Int32 × AH) := fX12_axiom p1 p2 h
theorem okm_axiom (p1 : Int32) (p2 : Int32) (h : AH) (b : Int32 × AH) (e : mo_axiom p1 p2 h = some b) : Ok yX12_axiom cX12_axiom 3 (some .boolean) 2 [.ref 75, .int p1, .int p2] h (some (.int b.1), b.2) := okX12_axiom p1 p2 h b e
def mo_feed (p1 : Int32) (p2 : Int32) (p3 : Int32) (p4 : Int32) (p5 : Int32) (h : AH) : Option (Int32 × AH) := fX12_feed p1 p2 p3 p4 p5 h
theorem okm_feed (p1 : Int32) (p2 : Int32) (p3 : Int32) (p4 : Int32) (p5 : Int32) (h : AH) (b : Int32 × AH) (e : mo_feed p1 p2 p3 p4 p5 h = some b) : Ok yX12_feed cX12_feed 6 (some .int) 2 [.ref 75, .int p1, .int p2, .int p3, .int p4, .int p5] h (some (.int b.1), b.2) := okX12_feed p1 p2 p3 p4 p5 h b e
def mo_proof (p1 : Int32) (h : AH) : Option (Int32 × AH) := fX12_proof p1 h
theorem okm_proof (p1 : Int32) (h : AH) (b : Int32 × AH) (e : mo_proof p1 h = some b) : Ok yX12_proof cX12_proof 4 (some .int) 7 [.ref 75, .int p1] h (some (.int b.1), b.2) := okX12_proof p1 h b e
def mo_line (p1 : Int32) (p2 : Int32) (h : AH) : Option (Int32 × AH) := fX12_line p1 p2 h
theorem okm_line (p1 : Int32) (p2 : Int32) (h : AH) (b : Int32 × AH) (e : mo_line p1 p2 h = some b) : Ok yX12_line cX12_line 3 (some .int) 3 [.ref 75, .int p1, .int p2] h (some (.int b.1), b.2) := okX12_line p1 p2 h b e
def mo_wrong (h : AH) : Option (Int32 × AH) := (fX12_wrong h).map (fun v => (v, h))
theorem okm_wrong (h : AH) (b : Int32 × AH) (e : mo_wrong h = some b) : Ok yX12_wrong cX12_wrong 3 (some .int) 3 [.ref 75] h (some (.int b.1), b.2) := by
  unfold mo_wrong at e
  cases hf : fX12_wrong h with
  | none => rw [hf] at e; cases e
  | some v => rw [hf] at e; cases e; exact okX12_wrong h v hf
def mo_untrue (h : AH) : Option (Int32 × AH) := fX12_untrue h
theorem okm_untrue (h : AH) (b : Int32 × AH) (e : mo_untrue h = some b) : Ok yX12_untrue cX12_untrue 3 (some .int) 3 [.ref 75] h (some (.int b.1), b.2) := okX12_untrue h b e
def mo_slip (p1 : Int32) (p2 : Int32) (h : AH) : Option (Int32 × AH) := fX12_slip p1 p2 h
theorem okm_slip (p1 : Int32) (p2 : Int32) (h : AH) (b : Int32 × AH) (e : mo_slip p1 p2 h = some b) : Ok yX12_slip cX12_slip 3 (some .int) 3 [.ref 75, .int p1, .int p2] h (some (.int b.1), b.2) := okX12_slip p1 p2 h b e
def mo_honest (h : AH) : Option (Int32 × AH) := fX12_honest h
theorem okm_honest (h : AH) (b : Int32 × AH) (e : mo_honest h = some b) : Ok yX12_honest cX12_honest 3 (some .int) 3 [.ref 75] h (some (.int b.1), b.2) := okX12_honest h b e
def mo_mended (p1 : Int32) (h : AH) : Option (Int32 × AH) := fX12_mended p1 h
theorem okm_mended (p1 : Int32) (h : AH) (b : Int32 × AH) (e : mo_mended p1 h = some b) : Ok yX12_mended cX12_mended 8 (some .int) 4 [.ref 75, .int p1] h (some (.int b.1), b.2) := okX12_mended p1 h b e
def mo_referred (p1 : Int32) (h : AH) : Option (Int32 × AH) := fX12_referred p1 h
theorem okm_referred (p1 : Int32) (h : AH) (b : Int32 × AH) (e : mo_referred p1 h = some b) : Ok yX12_referred cX12_referred 8 (some .int) 5 [.ref 75, .int p1] h (some (.int b.1), b.2) := okX12_referred p1 h b e
def mo_law (p1 : Int32) (h : AH) : Option (Int32 × AH) := fX12_law p1 h
theorem okm_law (p1 : Int32) (h : AH) (b : Int32 × AH) (e : mo_law p1 h = some b) : Ok yX12_law cX12_law 4 (some .int) 9 [.ref 75, .int p1] h (some (.int b.1), b.2) := okX12_law p1 h b e
def mo_reads (p1 : Int32) (p2 : Int32) (h : AH) : Option (Int32 × AH) := fX12_reads p1 p2 h
theorem okm_reads (p1 : Int32) (p2 : Int32) (h : AH) (b : Int32 × AH) (e : mo_reads p1 p2 h = some b) : Ok yX12_reads cX12_reads 6 (some .int) 6 [.ref 75, .int p1, .int p2] h (some (.int b.1), b.2) := okX12_reads p1 p2 h b e
def mo_hidden (p1 : Int32) (p2 : Int32) (h : AH) : Option (Int32 × AH) := fX12_hidden p1 p2 h
theorem okm_hidden (p1 : Int32) (p2 : Int32) (h : AH) (b : Int32 × AH) (e : mo_hidden p1 p2 h = some b) : Ok yX12_hidden cX12_hidden 8 (some .int) 6 [.ref 75, .int p1, .int p2] h (some (.int b.1), b.2) := okX12_hidden p1 p2 h b e
def mo_unread (p1 : Int32) (h : AH) : Option (Int32 × AH) := fX12_unread p1 h
theorem okm_unread (p1 : Int32) (h : AH) (b : Int32 × AH) (e : mo_unread p1 h = some b) : Ok yX12_unread cX12_unread 4 (some .int) 6 [.ref 75, .int p1] h (some (.int b.1), b.2) := okX12_unread p1 h b e
def mo_readers (p1 : Int32) (p2 : Int32) (h : AH) : Option (Int32 × AH) := fX12_readers p1 p2 h
theorem okm_readers (p1 : Int32) (p2 : Int32) (h : AH) (b : Int32 × AH) (e : mo_readers p1 p2 h = some b) : Ok yX12_readers cX12_readers 5 (some .int) 6 [.ref 75, .int p1, .int p2] h (some (.int b.1), b.2) := okX12_readers p1 p2 h b e
def mo_blind (p1 : Int32) (h : AH) : Option (Int32 × AH) := fX12_blind p1 h
theorem okm_blind (p1 : Int32) (h : AH) (b : Int32 × AH) (e : mo_blind p1 h = some b) : Ok yX12_blind cX12_blind 4 (some .int) 3 [.ref 75, .int p1] h (some (.int b.1), b.2) := okX12_blind p1 h b e
def mo_cancel (p1 : Int32) (h : AH) : Option (Int32 × AH) := fX12_cancel p1 h
theorem okm_cancel (p1 : Int32) (h : AH) (b : Int32 × AH) (e : mo_cancel p1 h = some b) : Ok yX12_cancel cX12_cancel 4 (some .int) 4 [.ref 75, .int p1] h (some (.int b.1), b.2) := okX12_cancel p1 h b e
def mo_stands (p1 : Int32) (p2 : Int32) (h : AH) : Option (Int32 × AH) := (fX12_stands p1 p2 h).map (fun v => (v, h))
theorem okm_stands (p1 : Int32) (p2 : Int32) (h : AH) (b : Int32 × AH) (e : mo_stands p1 p2 h = some b) : Ok yX12_stands cX12_stands 3 (some .int) 4 [.ref 75, .int p1, .int p2] h (some (.int b.1), b.2) := by
  unfold mo_stands at e
  cases hf : fX12_stands p1 p2 h with
  | none => rw [hf] at e; cases e
  | some v => rw [hf] at e; cases e; exact okX12_stands p1 p2 h v hf
def mo_anew (p1 : Int32) (p2 : Int32) (p3 : Int32) (h : AH) : Option (Int32 × AH) := (fX12_anew p1 p2 p3 h).map (fun v => (v, h))
theorem okm_anew (p1 : Int32) (p2 : Int32) (p3 : Int32) (h : AH) (b : Int32 × AH) (e : mo_anew p1 p2 p3 h = some b) : Ok yX12_anew cX12_anew 7 (some .int) 3 [.ref 75, .int p1, .int p2, .int p3] h (some (.int b.1), b.2) := by
  unfold mo_anew at e
  cases hf : fX12_anew p1 p2 p3 h with
  | none => rw [hf] at e; cases e
  | some v => rw [hf] at e; cases e; exact okX12_anew p1 p2 p3 h v hf
def mo_added (p1 : Int32) (h : AH) : Option (Int32 × AH) := fX12_added p1 h
theorem okm_added (p1 : Int32) (h : AH) (b : Int32 × AH) (e : mo_added p1 h = some b) : Ok yX12_added cX12_added 6 (some .int) 3 [.ref 75, .int p1] h (some (.int b.1), b.2) := okX12_added p1 h b e
def mo_order (p1 : Int32) (p2 : Int32) (h : AH) : Option (Int64 × AH) := fX12_order p1 p2 h
theorem okm_order (p1 : Int32) (p2 : Int32) (h : AH) (b : Int64 × AH) (e : mo_order p1 p2 h = some b) : Ok yX12_order cX12_order 10 (some .long) 6 [.ref 75, .int p1, .int p2] h (some (.long b.1), b.2) := okX12_order p1 p2 h b e
def mo_seed (p1 : Int32) (h : AH) : Option (Int32 × AH) := some (fX12_seed p1 h)
theorem okm_seed (p1 : Int32) (h : AH) (b : Int32 × AH) (e : mo_seed p1 h = some b) : Ok yX12_seed cX12_seed 2 (some .boolean) 2 [.ref 75, .int p1] h (some (.int b.1), b.2) := by
  cases e
  exact okX12_seed p1 h
def mo_copied (p1 : Int32) (h : AH) : Option (Int32 × AH) := fX12_copied p1 h
theorem okm_copied (p1 : Int32) (h : AH) (b : Int32 × AH) (e : mo_copied p1 h = some b) : Ok yX12_copied cX12_copied 5 (some .int) 4 [.ref 75, .int p1] h (some (.int b.1), b.2) := okX12_copied p1 h b e
def mo_author (p1 : Int32) (p2 : Int32) (h : AH) : Option (Int32 × AH) := fX12_author p1 p2 h
theorem okm_author (p1 : Int32) (p2 : Int32) (h : AH) (b : Int32 × AH) (e : mo_author p1 p2 h = some b) : Ok yX12_author cX12_author 9 (some .int) 3 [.ref 75, .int p1, .int p2] h (some (.int b.1), b.2) := okX12_author p1 p2 h b e
def mo_corrects (p1 : Int32) (p2 : Int32) (p3 : Int32) (h : AH) : Option (Int32 × AH) := fX12_corrects p1 p2 p3 h
theorem okm_corrects (p1 : Int32) (p2 : Int32) (p3 : Int32) (h : AH) (b : Int32 × AH) (e : mo_corrects p1 p2 p3 h = some b) : Ok yX12_corrects cX12_corrects 6 (some .int) 4 [.ref 75, .int p1, .int p2, .int p3] h (some (.int b.1), b.2) := okX12_corrects p1 p2 p3 h b e
def mo_points (p1 : Int32) (h : AH) : Option (Int32 × AH) := (fX12_points p1 h).map (fun v => (v, h))
theorem okm_points (p1 : Int32) (h : AH) (b : Int32 × AH) (e : mo_points p1 h = some b) : Ok yX12_points cX12_points 2 (some .int) 2 [.ref 75, .int p1] h (some (.int b.1), b.2) := by
  unfold mo_points at e
  cases hf : fX12_points p1 h with
  | none => rw [hf] at e; cases e
  | some v => rw [hf] at e; cases e; exact okX12_points p1 h v hf
def mo_keep (h : AH) : Option (Int32 × AH) := fX12_keep h
theorem okm_keep (h : AH) (b : Int32 × AH) (e : mo_keep h = some b) : Ok yX12_keep cX12_keep 1 (some .int) 2 [.ref 75] h (some (.int b.1), b.2) := okX12_keep h b e
def mo_undo (h : AH) : Option (Int32 × AH) := fX12_undo h
theorem okm_undo (h : AH) (b : Int32 × AH) (e : mo_undo h = some b) : Ok yX12_undo cX12_undo 1 (some .boolean) 2 [.ref 75] h (some (.int b.1), b.2) := okX12_undo h b e
def mo_check (p1 : Int32) (h : AH) : Option (Int32 × AH) := fX12_check p1 h
theorem okm_check (p1 : Int32) (h : AH) (b : Int32 × AH) (e : mo_check p1 h = some b) : Ok yX12_check cX12_check 3 (some .int) 2 [.ref 75, .int p1] h (some (.int b.1), b.2) := okX12_check p1 h b e
def mo_count (p1 : Int32) (h : AH) : Option (Int32 × AH) := fX12_count p1 h
theorem okm_count (p1 : Int32) (h : AH) (b : Int32 × AH) (e : mo_count p1 h = some b) : Ok yX12_count cX12_count 2 (some .int) 3 [.ref 75, .int p1] h (some (.int b.1), b.2) := okX12_count p1 h b e
end
