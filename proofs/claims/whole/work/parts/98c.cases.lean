/-! LAYER 3: the law: its operations, one by one (gen/gen_law.py). -/
theorem k_feed {X : lX} (C : lC X) {i : Nat} (hi : i + 5 < lL X) (hi2 : i ≤ 3072) {σ μ : gM} (h : INV σ μ (200 * i)) (K : ∀ σ' μ', INV σ' μ' (200 * (i + 6)) → lW X 2419 (nI i) [] σ' μ') : lW X 352 (nI i) [] σ μ :=
  l_op C hi (hv := id) (fun _ => rfl) (args := [(1, false), (2, false), (3, false), (4, false), (5, false)]) oL_352 il_L_13 co_X8_feed rfl (c_X8_feed _ _ _ _ _ σ) (by decide) il_L_17 co_X9_feed rfl (c_X9_feed _ _ _ _ _ μ) (by decide) rfl (q_feed h _ _ _ _ _) (fun σ' μ' h' => K σ' μ' (INV_mono h' (by omega) (by omega)))
theorem k_end {X : lX} (C : lC X) {i : Nat} (hi : i + 5 < lL X) (hi2 : i ≤ 3072) {σ μ : gM} (h : INV σ μ (200 * i)) (K : ∀ σ' μ', INV σ' μ' (200 * (i + 6)) → lW X 2419 (nI i) [] σ' μ') : lW X 415 (nI i) [] σ μ :=
  l_op C hi (hv := id) (fun _ => rfl) (args := [(1, false)]) oL_415 il_L_18 co_X8_end rfl (c_X8_end _ σ) (by decide) il_L_22 co_X9_end rfl (c_X9_end _ μ) (by decide) rfl (q_end h _) (fun σ' μ' h' => K σ' μ' (INV_mono h' (by omega) (by omega)))
theorem k_text {X : lX} (C : lC X) {i : Nat} (hi : i + 5 < lL X) (hi2 : i ≤ 3072) {σ μ : gM} (h : INV σ μ (200 * i)) (K : ∀ σ' μ', INV σ' μ' (200 * (i + 6)) → lW X 2419 (nI i) [] σ' μ') : lW X 438 (nI i) [] σ μ :=
  l_op C hi (hv := id) (fun _ => rfl) (args := []) oL_438 il_L_23 co_X8_text rfl (c_X8_text σ) (by decide) il_L_27 co_X9_text rfl (c_X9_text μ) (by decide) rfl (q_text h) (fun σ' μ' h' => K σ' μ' (INV_mono h' (by omega) (by omega)))
theorem k_fault {X : lX} (C : lC X) {i : Nat} (hi : i + 5 < lL X) (hi2 : i ≤ 3072) {σ μ : gM} (h : INV σ μ (200 * i)) (K : ∀ σ' μ', INV σ' μ' (200 * (i + 6)) → lW X 2419 (nI i) [] σ' μ') : lW X 451 (nI i) [] σ μ :=
  l_op C hi (hv := id) (fun _ => rfl) (args := [(1, false)]) oL_451 il_L_28 co_X8_fault rfl (c_X8_fault _ σ) (by decide) il_L_31 co_X9_fault rfl (c_X9_fault _ μ) (by decide) rfl (q_fault h _) (fun σ' μ' h' => K σ' μ' (INV_mono h' (by omega) (by omega)))
theorem k_ask {X : lX} (C : lC X) {i : Nat} (hi : i + 5 < lL X) (hi2 : i ≤ 3072) {σ μ : gM} (h : INV σ μ (200 * i)) (K : ∀ σ' μ', INV σ' μ' (200 * (i + 6)) → lW X 2419 (nI i) [] σ' μ') : lW X 474 (nI i) [] σ μ :=
  l_op C hi (hv := id) (fun _ => rfl) (args := [(1, false)]) oL_474 il_L_32 co_X8_ask rfl (c_X8_ask _ σ) (by decide) il_L_35 co_X9_ask rfl (c_X9_ask _ μ) (by decide) rfl (q_ask h (by omega) _) (fun σ' μ' h' => K σ' μ' (INV_mono h' (by omega) (by omega)))
theorem k_write {X : lX} (C : lC X) {i : Nat} (hi : i + 5 < lL X) (hi2 : i ≤ 3072) {σ μ : gM} (h : INV σ μ (200 * i)) (K : ∀ σ' μ', INV σ' μ' (200 * (i + 6)) → lW X 2419 (nI i) [] σ' μ') : lW X 497 (nI i) [] σ μ :=
  l_op C hi (hv := bI) (fun _ => rfl) (args := [(1, false), (2, false)]) oL_497 il_L_36 co_X8_write rfl (c_X8_write _ _ σ) (by decide) il_L_40 co_X9_write rfl (c_X9_write _ _ μ) (by decide) rfl (q_write h (by omega) _ _) (fun σ' μ' h' => K σ' μ' (INV_mono h' (by omega) (by omega)))
theorem k_pin {X : lX} (C : lC X) {i : Nat} (hi : i + 5 < lL X) (hi2 : i ≤ 3072) {σ μ : gM} (h : INV σ μ (200 * i)) (K : ∀ σ' μ', INV σ' μ' (200 * (i + 6)) → lW X 2419 (nI i) [] σ' μ') : lW X 530 (nI i) [] σ μ :=
  l_op C hi (hv := bI) (fun _ => rfl) (args := [(1, false), (2, true)]) oL_530 il_L_41 co_X8_pin rfl (c_X8_pin _ _ σ) (by decide) il_L_45 co_X9_pin rfl (c_X9_pin _ _ μ) (by decide) rfl (q_pin h _ _ (aVal01 _ _)) (fun σ' μ' h' => K σ' μ' (INV_mono h' (by omega) (by omega)))
theorem k_clean {X : lX} (C : lC X) {i : Nat} (hi : i + 5 < lL X) (hi2 : i ≤ 3072) {σ μ : gM} (h : INV σ μ (200 * i)) (K : ∀ σ' μ', INV σ' μ' (200 * (i + 6)) → lW X 2419 (nI i) [] σ' μ') : lW X 579 (nI i) [] σ μ :=
  l_op C hi (hv := id) (fun _ => rfl) (args := [(1, false)]) oL_579 il_L_46 co_X8_clean rfl (c_X8_clean _ σ) (by decide) il_L_49 co_X9_clean rfl (c_X9_clean _ μ) (by decide) rfl (q_clean h _) (fun σ' μ' h' => K σ' μ' (INV_mono h' (by omega) (by omega)))
theorem k_leave {X : lX} (C : lC X) {i : Nat} (hi : i + 5 < lL X) (hi2 : i ≤ 3072) {σ μ : gM} (h : INV σ μ (200 * i)) (K : ∀ σ' μ', INV σ' μ' (200 * (i + 6)) → lW X 2419 (nI i) [] σ' μ') : lW X 602 (nI i) [] σ μ :=
  l_op C hi (hv := id) (fun _ => rfl) (args := [(1, false)]) oL_602 il_L_50 co_X8_leave rfl (c_X8_leave _ σ) (by decide) il_L_53 co_X9_leave rfl (c_X9_leave _ μ) (by decide) rfl (q_leave h _) (fun σ' μ' h' => K σ' μ' (INV_mono h' (by omega) (by omega)))
theorem k_cool {X : lX} (C : lC X) {i : Nat} (hi : i + 5 < lL X) (hi2 : i ≤ 3072) {σ μ : gM} (h : INV σ μ (200 * i)) (K : ∀ σ' μ', INV σ' μ' (200 * (i + 6)) → lW X 2419 (nI i) [] σ' μ') : lW X 625 (nI i) [] σ μ :=
  l_op C hi (hv := id) (fun _ => rfl) (args := []) oL_625 il_L_54 co_X8_cool rfl (c_X8_cool σ) (by decide) il_L_57 co_X9_cool rfl (c_X9_cool μ) (by decide) rfl (q_cool h) (fun σ' μ' h' => K σ' μ' (INV_mono h' (by omega) (by omega)))
theorem k_trade {X : lX} (C : lC X) {i : Nat} (hi : i + 5 < lL X) (hi2 : i ≤ 3072) {σ μ : gM} (h : INV σ μ (200 * i)) (K : ∀ σ' μ', INV σ' μ' (200 * (i + 6)) → lW X 2419 (nI i) [] σ' μ') : lW X 638 (nI i) [] σ μ :=
  l_op C hi (hv := bI) (fun _ => rfl) (args := [(1, false), (2, false)]) oL_638 il_L_58 co_X8_trade rfl (c_X8_trade _ _ σ) (by decide) il_L_61 co_X9_trade rfl (c_X9_trade _ _ μ) (by decide) rfl (q_trade h _ _) (fun σ' μ' h' => K σ' μ' (INV_mono h' (by omega) (by omega)))
theorem k_empty {X : lX} (C : lC X) {i : Nat} (hi : i + 5 < lL X) (hi2 : i ≤ 3072) {σ μ : gM} (h : INV σ μ (200 * i)) (K : ∀ σ' μ', INV σ' μ' (200 * (i + 6)) → lW X 2419 (nI i) [] σ' μ') : lW X 671 (nI i) [] σ μ :=
  l_op C hi (hv := id) (fun _ => rfl) (args := []) oL_671 il_L_62 co_X8_empty rfl (c_X8_empty σ) (by decide) il_L_65 co_X9_empty rfl (c_X9_empty μ) (by decide) rfl (q_empty h) (fun σ' μ' h' => K σ' μ' (INV_mono h' (by omega) (by omega)))
theorem k_shape {X : lX} (C : lC X) {i : Nat} (hi : i + 5 < lL X) (hi2 : i ≤ 3072) {σ μ : gM} (h : INV σ μ (200 * i)) (K : ∀ σ' μ', INV σ' μ' (200 * (i + 6)) → lW X 2419 (nI i) [] σ' μ') : lW X 684 (nI i) [] σ μ :=
  l_op C hi (hv := id) (fun _ => rfl) (args := [(1, false), (2, false)]) oL_684 il_L_66 co_X8_shape rfl (c_X8_shape _ _ σ) (by decide) il_L_70 co_X9_shape rfl (c_X9_shape _ _ μ) (by decide) rfl (q_shape h _ _) (fun σ' μ' h' => K σ' μ' (INV_mono h' (by omega) (by omega)))
theorem k_family {X : lX} (C : lC X) {i : Nat} (hi : i + 5 < lL X) (hi2 : i ≤ 3072) {σ μ : gM} (h : INV σ μ (200 * i)) (K : ∀ σ' μ', INV σ' μ' (200 * (i + 6)) → lW X 2419 (nI i) [] σ' μ') : lW X 717 (nI i) [] σ μ :=
  l_op C hi (hv := id) (fun _ => rfl) (args := [(1, false)]) oL_717 il_L_71 co_X8_family rfl (c_X8_family _ σ) (by decide) il_L_74 co_X9_family rfl (c_X9_family _ μ) (by decide) rfl (q_family h _) (fun σ' μ' h' => K σ' μ' (INV_mono h' (by omega) (by omega)))
theorem k_mask {X : lX} (C : lC X) {i : Nat} (hi : i + 5 < lL X) (hi2 : i ≤ 3072) {σ μ : gM} (h : INV σ μ (200 * i)) (K : ∀ σ' μ', INV σ' μ' (200 * (i + 6)) → lW X 2419 (nI i) [] σ' μ') : lW X 740 (nI i) [] σ μ :=
  l_op C hi (hv := id) (fun _ => rfl) (args := [(1, false), (2, false), (3, false)]) oL_740 il_L_75 co_X8_mask rfl (c_X8_mask _ _ _ σ) (by decide) il_L_79 co_X9_mask rfl (c_X9_mask _ _ _ μ) (by decide) rfl (q_mask h _ _ _) (fun σ' μ' h' => K σ' μ' (INV_mono h' (by omega) (by omega)))
theorem k_depth {X : lX} (C : lC X) {i : Nat} (hi : i + 5 < lL X) (hi2 : i ≤ 3072) {σ μ : gM} (h : INV σ μ (200 * i)) (K : ∀ σ' μ', INV σ' μ' (200 * (i + 6)) → lW X 2419 (nI i) [] σ' μ') : lW X 783 (nI i) [] σ μ :=
  l_op C hi (hv := bI) (fun _ => rfl) (args := [(1, false)]) oL_783 il_L_80 co_X8_depth rfl (c_X8_depth _ σ) (by decide) il_L_84 co_X9_depth rfl (c_X9_depth _ μ) (by decide) rfl (q_depth h _) (fun σ' μ' h' => K σ' μ' (INV_mono h' (by omega) (by omega)))
theorem k_run {X : lX} (C : lC X) {i : Nat} (hi : i + 5 < lL X) (hi2 : i ≤ 3072) {σ μ : gM} (h : INV σ μ (200 * i)) (K : ∀ σ' μ', INV σ' μ' (200 * (i + 6)) → lW X 2419 (nI i) [] σ' μ') : lW X 806 (nI i) [] σ μ :=
  l_op C hi (hv := id) (fun _ => rfl) (args := [(1, false)]) oL_806 il_L_85 co_X8_run rfl (c_X8_run _ σ) (by decide) il_L_88 co_X9_run rfl (c_X9_run _ μ) (by decide) rfl (q_run h (by omega) _) (fun σ' μ' h' => K σ' μ' (INV_mono h' (by omega) (by omega)))
theorem k_undo {X : lX} (C : lC X) {i : Nat} (hi : i + 5 < lL X) (hi2 : i ≤ 3072) {σ μ : gM} (h : INV σ μ (200 * i)) (K : ∀ σ' μ', INV σ' μ' (200 * (i + 6)) → lW X 2419 (nI i) [] σ' μ') : lW X 829 (nI i) [] σ μ :=
  l_op C hi (hv := id) (fun _ => rfl) (args := []) oL_829 il_L_89 co_X8_undo rfl (c_X8_undo σ) (by decide) il_L_92 co_X9_undo rfl (c_X9_undo μ) (by decide) rfl (q_undo h) (fun σ' μ' h' => K σ' μ' (INV_mono h' (by omega) (by omega)))
theorem k_tell {X : lX} (C : lC X) {i : Nat} (hi : i + 5 < lL X) (hi2 : i ≤ 3072) {σ μ : gM} (h : INV σ μ (200 * i)) (K : ∀ σ' μ', INV σ' μ' (200 * (i + 6)) → lW X 2419 (nI i) [] σ' μ') : lW X 842 (nI i) [] σ μ :=
  l_op C hi (hv := bI) (fun _ => rfl) (args := [(1, false)]) oL_842 il_L_93 co_X8_tell rfl (c_X8_tell _ σ) (by decide) il_L_96 co_X9_tell rfl (c_X9_tell _ μ) (by decide) rfl (q_tell h _) (fun σ' μ' h' => K σ' μ' (INV_mono h' (by omega) (by omega)))
theorem k_gather {X : lX} (C : lC X) {i : Nat} (hi : i + 5 < lL X) (hi2 : i ≤ 3072) {σ μ : gM} (h : INV σ μ (200 * i)) (K : ∀ σ' μ', INV σ' μ' (200 * (i + 6)) → lW X 2419 (nI i) [] σ' μ') : lW X 865 (nI i) [] σ μ :=
  l_op C hi (hv := id) (fun _ => rfl) (args := [(1, false)]) oL_865 il_L_97 co_X8_gather rfl (c_X8_gather _ σ) (by decide) il_L_100 co_X9_gather rfl (c_X9_gather _ μ) (by decide) rfl (q_gather h _) (fun σ' μ' h' => K σ' μ' (INV_mono h' (by omega) (by omega)))
theorem k_collect {X : lX} (C : lC X) {i : Nat} (hi : i + 5 < lL X) (hi2 : i ≤ 3072) {σ μ : gM} (h : INV σ μ (200 * i)) (K : ∀ σ' μ', INV σ' μ' (200 * (i + 6)) → lW X 2419 (nI i) [] σ' μ') : lW X 888 (nI i) [] σ μ :=
  l_op C hi (hv := id) (fun _ => rfl) (args := [(1, false)]) oL_888 il_L_101 co_X8_collect rfl (c_X8_collect _ σ) (by decide) il_L_104 co_X9_collect rfl (c_X9_collect _ μ) (by decide) rfl (q_collect h _) (fun σ' μ' h' => K σ' μ' (INV_mono h' (by omega) (by omega)))
theorem k_scatter {X : lX} (C : lC X) {i : Nat} (hi : i + 5 < lL X) (hi2 : i ≤ 3072) {σ μ : gM} (h : INV σ μ (200 * i)) (K : ∀ σ' μ', INV σ' μ' (200 * (i + 6)) → lW X 2419 (nI i) [] σ' μ') : lW X 911 (nI i) [] σ μ :=
  l_op C hi (hv := bI) (fun _ => rfl) (args := [(1, false)]) oL_911 il_L_105 co_X8_scatter rfl (c_X8_scatter _ σ) (by decide) il_L_108 co_X9_scatter rfl (c_X9_scatter _ μ) (by decide) rfl (q_scatter h _) (fun σ' μ' h' => K σ' μ' (INV_mono h' (by omega) (by omega)))
theorem k_is {X : lX} (C : lC X) {i : Nat} (hi : i + 5 < lL X) (hi2 : i ≤ 3072) {σ μ : gM} (h : INV σ μ (200 * i)) (K : ∀ σ' μ', INV σ' μ' (200 * (i + 6)) → lW X 2419 (nI i) [] σ' μ') : lW X 934 (nI i) [] σ μ :=
  l_op C hi (hv := id) (fun _ => rfl) (args := [(1, false)]) oL_934 il_L_109 co_X8_is rfl (c_X8_is _ σ) (by decide) il_L_112 co_X9_is rfl (c_X9_is _ μ) (by decide) rfl (q_is h _) (fun σ' μ' h' => K σ' μ' (INV_mono h' (by omega) (by omega)))
theorem k_masked {X : lX} (C : lC X) {i : Nat} (hi : i + 5 < lL X) (hi2 : i ≤ 3072) {σ μ : gM} (h : INV σ μ (200 * i)) (K : ∀ σ' μ', INV σ' μ' (200 * (i + 6)) → lW X 2419 (nI i) [] σ' μ') : lW X 957 (nI i) [] σ μ :=
  l_op C hi (hv := id) (fun _ => rfl) (args := [(1, false), (2, false)]) oL_957 il_L_113 co_X8_masked rfl (c_X8_masked _ _ σ) (by decide) il_L_116 co_X9_masked rfl (c_X9_masked _ _ μ) (by decide) rfl (q_masked h _ _) (fun σ' μ' h' => K σ' μ' (INV_mono h' (by omega) (by omega)))
theorem k_index {X : lX} (C : lC X) {i : Nat} (hi : i + 5 < lL X) (hi2 : i ≤ 3072) {σ μ : gM} (h : INV σ μ (200 * i)) (K : ∀ σ' μ', INV σ' μ' (200 * (i + 6)) → lW X 2419 (nI i) [] σ' μ') : lW X 990 (nI i) [] σ μ :=
  l_op C hi (hv := id) (fun _ => rfl) (args := [(1, false), (2, false)]) oL_990 il_L_117 co_X8_index rfl (c_X8_index _ _ σ) (by decide) il_L_120 co_X9_index rfl (c_X9_index _ _ μ) (by decide) rfl (q_index h _ _) (fun σ' μ' h' => K σ' μ' (INV_mono h' (by omega) (by omega)))
theorem k_slot {X : lX} (C : lC X) {i : Nat} (hi : i + 5 < lL X) (hi2 : i ≤ 3072) {σ μ : gM} (h : INV σ μ (200 * i)) (K : ∀ σ' μ', INV σ' μ' (200 * (i + 6)) → lW X 2419 (nI i) [] σ' μ') : lW X 1023 (nI i) [] σ μ :=
  l_op C hi (hv := id) (fun _ => rfl) (args := [(1, false), (2, false), (3, false)]) oL_1023 il_L_121 co_X8_slot rfl (c_X8_slot _ _ _ σ) (by decide) il_L_124 co_X9_slot rfl (c_X9_slot _ _ _ μ) (by decide) rfl (q_slot h _ _ _) (fun σ' μ' h' => K σ' μ' (INV_mono h' (by omega) (by omega)))
theorem k_where {X : lX} (C : lC X) {i : Nat} (hi : i + 5 < lL X) (hi2 : i ≤ 3072) {σ μ : gM} (h : INV σ μ (200 * i)) (K : ∀ σ' μ', INV σ' μ' (200 * (i + 6)) → lW X 2419 (nI i) [] σ' μ') : lW X 1066 (nI i) [] σ μ :=
  l_op C hi (hv := id) (fun _ => rfl) (args := [(1, false)]) oL_1066 il_L_125 co_X8_where rfl (c_X8_where _ σ) (by decide) il_L_128 co_X9_where rfl (c_X9_where _ μ) (by decide) rfl (q_where h _) (fun σ' μ' h' => K σ' μ' (INV_mono h' (by omega) (by omega)))
theorem k_memory {X : lX} (C : lC X) {i : Nat} (hi : i + 5 < lL X) (hi2 : i ≤ 3072) {σ μ : gM} (h : INV σ μ (200 * i)) (K : ∀ σ' μ', INV σ' μ' (200 * (i + 6)) → lW X 2419 (nI i) [] σ' μ') : lW X 1089 (nI i) [] σ μ :=
  l_op C hi (hv := id) (fun _ => rfl) (args := [(1, false)]) oL_1089 il_L_129 co_X8_memory rfl (c_X8_memory _ σ) (by decide) il_L_132 co_X9_memory rfl (c_X9_memory _ μ) (by decide) rfl (q_memory h _) (fun σ' μ' h' => K σ' μ' (INV_mono h' (by omega) (by omega)))
theorem k_value {X : lX} (C : lC X) {i : Nat} (hi : i + 5 < lL X) (hi2 : i ≤ 3072) {σ μ : gM} (h : INV σ μ (200 * i)) (K : ∀ σ' μ', INV σ' μ' (200 * (i + 6)) → lW X 2419 (nI i) [] σ' μ') : lW X 1112 (nI i) [] σ μ :=
  l_op C hi (hv := id) (fun _ => rfl) (args := [(1, false)]) oL_1112 il_L_133 co_X8_value rfl (c_X8_value _ σ) (by decide) il_L_136 co_X9_value rfl (c_X9_value _ μ) (by decide) rfl (q_value h _) (fun σ' μ' h' => K σ' μ' (INV_mono h' (by omega) (by omega)))
theorem k_aged {X : lX} (C : lC X) {i : Nat} (hi : i + 5 < lL X) (hi2 : i ≤ 3072) {σ μ : gM} (h : INV σ μ (200 * i)) (K : ∀ σ' μ', INV σ' μ' (200 * (i + 6)) → lW X 2419 (nI i) [] σ' μ') : lW X 1135 (nI i) [] σ μ :=
  l_op C hi (hv := id) (fun _ => rfl) (args := [(1, false)]) oL_1135 il_L_137 co_X8_aged rfl (c_X8_aged _ σ) (by decide) il_L_140 co_X9_aged rfl (c_X9_aged _ μ) (by decide) rfl (q_aged h _) (fun σ' μ' h' => K σ' μ' (INV_mono h' (by omega) (by omega)))
theorem k_book {X : lX} (C : lC X) {i : Nat} (hi : i + 5 < lL X) (hi2 : i ≤ 3072) {σ μ : gM} (h : INV σ μ (200 * i)) (K : ∀ σ' μ', INV σ' μ' (200 * (i + 6)) → lW X 2419 (nI i) [] σ' μ') : lW X 1158 (nI i) [] σ μ :=
  l_op C hi (hv := id) (fun _ => rfl) (args := [(1, false), (2, false)]) oL_1158 il_L_141 co_X8_book rfl (c_X8_book _ _ σ) (by decide) il_L_144 co_X9_book rfl (c_X9_book _ _ μ) (by decide) rfl (q_book h _ _) (fun σ' μ' h' => K σ' μ' (INV_mono h' (by omega) (by omega)))
theorem k_stale {X : lX} (C : lC X) {i : Nat} (hi : i + 5 < lL X) (hi2 : i ≤ 3072) {σ μ : gM} (h : INV σ μ (200 * i)) (K : ∀ σ' μ', INV σ' μ' (200 * (i + 6)) → lW X 2419 (nI i) [] σ' μ') : lW X 1191 (nI i) [] σ μ :=
  l_op C hi (hv := id) (fun _ => rfl) (args := []) oL_1191 il_L_145 co_X8_stale rfl (c_X8_stale σ) (by decide) il_L_148 co_X9_stale rfl (c_X9_stale μ) (by decide) rfl (q_stale h) (fun σ' μ' h' => K σ' μ' (INV_mono h' (by omega) (by omega)))
theorem k_rank {X : lX} (C : lC X) {i : Nat} (hi : i + 5 < lL X) (hi2 : i ≤ 3072) {σ μ : gM} (h : INV σ μ (200 * i)) (K : ∀ σ' μ', INV σ' μ' (200 * (i + 6)) → lW X 2419 (nI i) [] σ' μ') : lW X 1204 (nI i) [] σ μ :=
  l_op C hi (hv := id) (fun _ => rfl) (args := [(1, false), (2, false)]) oL_1204 il_L_149 co_X8_rank rfl (c_X8_rank _ _ σ) (by decide) il_L_152 co_X9_rank rfl (c_X9_rank _ _ μ) (by decide) rfl (q_rank h _ _) (fun σ' μ' h' => K σ' μ' (INV_mono h' (by omega) (by omega)))
theorem k_twins {X : lX} (C : lC X) {i : Nat} (hi : i + 5 < lL X) (hi2 : i ≤ 3072) {σ μ : gM} (h : INV σ μ (200 * i)) (K : ∀ σ' μ', INV σ' μ' (200 * (i + 6)) → lW X 2419 (nI i) [] σ' μ') : lW X 1237 (nI i) [] σ μ :=
  l_op C hi (hv := id) (fun _ => rfl) (args := [(1, false)]) oL_1237 il_L_153 co_X8_twins rfl (c_X8_twins _ σ) (by decide) il_L_156 co_X9_twins rfl (c_X9_twins _ μ) (by decide) rfl (q_twins h _) (fun σ' μ' h' => K σ' μ' (INV_mono h' (by omega) (by omega)))
theorem k_twin {X : lX} (C : lC X) {i : Nat} (hi : i + 5 < lL X) (hi2 : i ≤ 3072) {σ μ : gM} (h : INV σ μ (200 * i)) (K : ∀ σ' μ', INV σ' μ' (200 * (i + 6)) → lW X 2419 (nI i) [] σ' μ') : lW X 1260 (nI i) [] σ μ :=
  l_op C hi (hv := id) (fun _ => rfl) (args := [(1, false), (2, false)]) oL_1260 il_L_157 co_X8_twin rfl (c_X8_twin _ _ σ) (by decide) il_L_160 co_X9_twin rfl (c_X9_twin _ _ μ) (by decide) rfl (q_twin h _ _) (fun σ' μ' h' => K σ' μ' (INV_mono h' (by omega) (by omega)))
theorem k_together {X : lX} (C : lC X) {i : Nat} (hi : i + 5 < lL X) (hi2 : i ≤ 3072) {σ μ : gM} (h : INV σ μ (200 * i)) (K : ∀ σ' μ', INV σ' μ' (200 * (i + 6)) → lW X 2419 (nI i) [] σ' μ') : lW X 1293 (nI i) [] σ μ :=
  l_op C hi (hv := id) (fun _ => rfl) (args := [(1, false), (2, false)]) oL_1293 il_L_161 co_X8_together rfl (c_X8_together _ _ σ) (by decide) il_L_164 co_X9_together rfl (c_X9_together _ _ μ) (by decide) rfl (q_together h _ _) (fun σ' μ' h' => K σ' μ' (INV_mono h' (by omega) (by omega)))
theorem k_spread {X : lX} (C : lC X) {i : Nat} (hi : i + 5 < lL X) (hi2 : i ≤ 3072) {σ μ : gM} (h : INV σ μ (200 * i)) (K : ∀ σ' μ', INV σ' μ' (200 * (i + 6)) → lW X 2419 (nI i) [] σ' μ') : lW X 1326 (nI i) [] σ μ :=
  l_op C hi (hv := id) (fun _ => rfl) (args := [(1, false), (2, false), (3, false), (4, false)]) oL_1326 il_L_165 co_X8_spread rfl (c_X8_spread _ _ _ _ σ) (by decide) il_L_169 co_X9_spread rfl (c_X9_spread _ _ _ _ μ) (by decide) rfl (q_spread h _ _ _ _) (fun σ' μ' h' => K σ' μ' (INV_mono h' (by omega) (by omega)))
theorem k_even {X : lX} (C : lC X) {i : Nat} (hi : i + 5 < lL X) (hi2 : i ≤ 3072) {σ μ : gM} (h : INV σ μ (200 * i)) (K : ∀ σ' μ', INV σ' μ' (200 * (i + 6)) → lW X 2419 (nI i) [] σ' μ') : lW X 1379 (nI i) [] σ μ :=
  l_op C hi (hv := id) (fun _ => rfl) (args := [(1, false)]) oL_1379 il_L_170 co_X8_even rfl (c_X8_even _ σ) (by decide) il_L_173 co_X9_even rfl (c_X9_even _ μ) (by decide) rfl (q_even h _) (fun σ' μ' h' => K σ' μ' (INV_mono h' (by omega) (by omega)))
theorem k_evenAll {X : lX} (C : lC X) {i : Nat} (hi : i + 5 < lL X) (hi2 : i ≤ 3072) {σ μ : gM} (h : INV σ μ (200 * i)) (K : ∀ σ' μ', INV σ' μ' (200 * (i + 6)) → lW X 2419 (nI i) [] σ' μ') : lW X 1402 (nI i) [] σ μ :=
  l_op C hi (hv := id) (fun _ => rfl) (args := []) oL_1402 il_L_174 co_X8_evenAll rfl (c_X8_evenAll σ) (by decide) il_L_177 co_X9_evenAll rfl (c_X9_evenAll μ) (by decide) rfl (q_evenAll h) (fun σ' μ' h' => K σ' μ' (INV_mono h' (by omega) (by omega)))
theorem k_scattered {X : lX} (C : lC X) {i : Nat} (hi : i + 5 < lL X) (hi2 : i ≤ 3072) {σ μ : gM} (h : INV σ μ (200 * i)) (K : ∀ σ' μ', INV σ' μ' (200 * (i + 6)) → lW X 2419 (nI i) [] σ' μ') : lW X 1415 (nI i) [] σ μ :=
  l_op C hi (hv := id) (fun _ => rfl) (args := [(1, false), (2, false), (3, false)]) oL_1415 il_L_178 co_X8_scattered rfl (c_X8_scattered _ _ _ σ) (by decide) il_L_181 co_X9_scattered rfl (c_X9_scattered _ _ _ μ) (by decide) rfl (q_scattered h _ _ _) (fun σ' μ' h' => K σ' μ' (INV_mono h' (by omega) (by omega)))
theorem k_worst {X : lX} (C : lC X) {i : Nat} (hi : i + 5 < lL X) (hi2 : i ≤ 3072) {σ μ : gM} (h : INV σ μ (200 * i)) (K : ∀ σ' μ', INV σ' μ' (200 * (i + 6)) → lW X 2419 (nI i) [] σ' μ') : lW X 1458 (nI i) [] σ μ :=
  l_op C hi (hv := id) (fun _ => rfl) (args := [(1, false), (2, false)]) oL_1458 il_L_182 co_X8_worst rfl (c_X8_worst _ _ σ) (by decide) il_L_185 co_X9_worst rfl (c_X9_worst _ _ μ) (by decide) rfl (q_worst h _ _) (fun σ' μ' h' => K σ' μ' (INV_mono h' (by omega) (by omega)))
theorem k_flipped {X : lX} (C : lC X) {i : Nat} (hi : i + 5 < lL X) (hi2 : i ≤ 3072) {σ μ : gM} (h : INV σ μ (200 * i)) (K : ∀ σ' μ', INV σ' μ' (200 * (i + 6)) → lW X 2419 (nI i) [] σ' μ') : lW X 1491 (nI i) [] σ μ :=
  l_op C hi (hv := id) (fun _ => rfl) (args := [(1, false), (2, false), (3, false)]) oL_1491 il_L_186 co_X8_flipped rfl (c_X8_flipped _ _ _ σ) (by decide) il_L_189 co_X9_flipped rfl (c_X9_flipped _ _ _ μ) (by decide) rfl (q_flipped h _ _ _) (fun σ' μ' h' => K σ' μ' (INV_mono h' (by omega) (by omega)))
theorem k_bestFlip {X : lX} (C : lC X) {i : Nat} (hi : i + 5 < lL X) (hi2 : i ≤ 3072) {σ μ : gM} (h : INV σ μ (200 * i)) (K : ∀ σ' μ', INV σ' μ' (200 * (i + 6)) → lW X 2419 (nI i) [] σ' μ') : lW X 1534 (nI i) [] σ μ :=
  l_op C hi (hv := id) (fun _ => rfl) (args := [(1, false)]) oL_1534 il_L_190 co_X8_bestFlip rfl (c_X8_bestFlip _ σ) (by decide) il_L_193 co_X9_bestFlip rfl (c_X9_bestFlip _ μ) (by decide) rfl (q_bestFlip h _) (fun σ' μ' h' => K σ' μ' (INV_mono h' (by omega) (by omega)))
theorem k_sweep {X : lX} (C : lC X) {i : Nat} (hi : i + 5 < lL X) (hi2 : i ≤ 3072) {σ μ : gM} (h : INV σ μ (200 * i)) (K : ∀ σ' μ', INV σ' μ' (200 * (i + 6)) → lW X 2419 (nI i) [] σ' μ') : lW X 1557 (nI i) [] σ μ :=
  l_op C hi (hv := id) (fun _ => rfl) (args := [(1, false), (2, false), (3, false)]) oL_1557 il_L_194 co_X8_sweep rfl (c_X8_sweep _ _ _ σ) (by decide) il_L_197 co_X9_sweep rfl (c_X9_sweep _ _ _ μ) (by decide) rfl (q_sweep h (by omega) _ _ _) (fun σ' μ' h' => K σ' μ' (INV_mono h' (by omega) (by omega)))
theorem k_holds {X : lX} (C : lC X) {i : Nat} (hi : i + 5 < lL X) (hi2 : i ≤ 3072) {σ μ : gM} (h : INV σ μ (200 * i)) (K : ∀ σ' μ', INV σ' μ' (200 * (i + 6)) → lW X 2419 (nI i) [] σ' μ') : lW X 1600 (nI i) [] σ μ :=
  l_op C hi (hv := id) (fun _ => rfl) (args := [(1, false), (2, false)]) oL_1600 il_L_198 co_X8_holds rfl (c_X8_holds _ _ σ) (by decide) il_L_201 co_X9_holds rfl (c_X9_holds _ _ μ) (by decide) rfl (q_holds h (by omega) _ _) (fun σ' μ' h' => K σ' μ' (INV_mono h' (by omega) (by omega)))
theorem k_pairs {X : lX} (C : lC X) {i : Nat} (hi : i + 5 < lL X) (hi2 : i ≤ 3072) {σ μ : gM} (h : INV σ μ (200 * i)) (K : ∀ σ' μ', INV σ' μ' (200 * (i + 6)) → lW X 2419 (nI i) [] σ' μ') : lW X 1633 (nI i) [] σ μ :=
  l_op C hi (hv := id) (fun _ => rfl) (args := [(1, false)]) oL_1633 il_L_202 co_X8_pairs rfl (c_X8_pairs _ σ) (by decide) il_L_205 co_X9_pairs rfl (c_X9_pairs _ μ) (by decide) rfl (q_pairs h _) (fun σ' μ' h' => K σ' μ' (INV_mono h' (by omega) (by omega)))
theorem k_shares {X : lX} (C : lC X) {i : Nat} (hi : i + 5 < lL X) (hi2 : i ≤ 3072) {σ μ : gM} (h : INV σ μ (200 * i)) (K : ∀ σ' μ', INV σ' μ' (200 * (i + 6)) → lW X 2419 (nI i) [] σ' μ') : lW X 1656 (nI i) [] σ μ :=
  l_op C hi (hv := id) (fun _ => rfl) (args := [(1, false)]) oL_1656 il_L_206 co_X8_shares rfl (c_X8_shares _ σ) (by decide) il_L_209 co_X9_shares rfl (c_X9_shares _ μ) (by decide) rfl (q_shares h _) (fun σ' μ' h' => K σ' μ' (INV_mono h' (by omega) (by omega)))
theorem k_room {X : lX} (C : lC X) {i : Nat} (hi : i + 5 < lL X) (hi2 : i ≤ 3072) {σ μ : gM} (h : INV σ μ (200 * i)) (K : ∀ σ' μ', INV σ' μ' (200 * (i + 6)) → lW X 2419 (nI i) [] σ' μ') : lW X 1679 (nI i) [] σ μ :=
  l_op C hi (hv := id) (fun _ => rfl) (args := [(1, false)]) oL_1679 il_L_210 co_X8_room rfl (c_X8_room _ σ) (by decide) il_L_213 co_X9_room rfl (c_X9_room _ μ) (by decide) rfl (q_room h _) (fun σ' μ' h' => K σ' μ' (INV_mono h' (by omega) (by omega)))
theorem k_crowd {X : lX} (C : lC X) {i : Nat} (hi : i + 5 < lL X) (hi2 : i ≤ 3072) {σ μ : gM} (h : INV σ μ (200 * i)) (K : ∀ σ' μ', INV σ' μ' (200 * (i + 6)) → lW X 2419 (nI i) [] σ' μ') : lW X 1702 (nI i) [] σ μ :=
  l_op C hi (hv := id) (fun _ => rfl) (args := [(1, false), (2, true)]) oL_1702 il_L_214 co_X8_crowd rfl (c_X8_crowd _ _ σ) (by decide) il_L_218 co_X9_crowd rfl (c_X9_crowd _ _ μ) (by decide) rfl (q_crowd h _ _) (fun σ' μ' h' => K σ' μ' (INV_mono h' (by omega) (by omega)))
theorem k_gathered {X : lX} (C : lC X) {i : Nat} (hi : i + 5 < lL X) (hi2 : i ≤ 3072) {σ μ : gM} (h : INV σ μ (200 * i)) (K : ∀ σ' μ', INV σ' μ' (200 * (i + 6)) → lW X 2419 (nI i) [] σ' μ') : lW X 1751 (nI i) [] σ μ :=
  l_op C hi (hv := id) (fun _ => rfl) (args := [(1, false)]) oL_1751 il_L_219 co_X8_gathered rfl (c_X8_gathered _ σ) (by decide) il_L_222 co_X9_gathered rfl (c_X9_gathered _ μ) (by decide) rfl (q_gathered h _) (fun σ' μ' h' => K σ' μ' (INV_mono h' (by omega) (by omega)))
theorem k_fitting {X : lX} (C : lC X) {i : Nat} (hi : i + 5 < lL X) (hi2 : i ≤ 3072) {σ μ : gM} (h : INV σ μ (200 * i)) (K : ∀ σ' μ', INV σ' μ' (200 * (i + 6)) → lW X 2419 (nI i) [] σ' μ') : lW X 1774 (nI i) [] σ μ :=
  l_op C hi (hv := id) (fun _ => rfl) (args := []) oL_1774 il_L_223 co_X8_fitting rfl (c_X8_fitting σ) (by decide) il_L_226 co_X9_fitting rfl (c_X9_fitting μ) (by decide) rfl (q_fitting h) (fun σ' μ' h' => K σ' μ' (INV_mono h' (by omega) (by omega)))
theorem k_fittingPlainly {X : lX} (C : lC X) {i : Nat} (hi : i + 5 < lL X) (hi2 : i ≤ 3072) {σ μ : gM} (h : INV σ μ (200 * i)) (K : ∀ σ' μ', INV σ' μ' (200 * (i + 6)) → lW X 2419 (nI i) [] σ' μ') : lW X 1787 (nI i) [] σ μ :=
  l_op C hi (hv := id) (fun _ => rfl) (args := []) oL_1787 il_L_227 co_X8_fittingPlainly rfl (c_X8_fittingPlainly σ) (by decide) il_L_230 co_X9_fittingPlainly rfl (c_X9_fittingPlainly μ) (by decide) rfl (q_fittingPlainly h) (fun σ' μ' h' => K σ' μ' (INV_mono h' (by omega) (by omega)))
theorem k_pieces {X : lX} (C : lC X) {i : Nat} (hi : i + 5 < lL X) (hi2 : i ≤ 3072) {σ μ : gM} (h : INV σ μ (200 * i)) (K : ∀ σ' μ', INV σ' μ' (200 * (i + 6)) → lW X 2419 (nI i) [] σ' μ') : lW X 1800 (nI i) [] σ μ :=
  l_op C hi (hv := id) (fun _ => rfl) (args := []) oL_1800 il_L_231 co_X8_pieces rfl (c_X8_pieces σ) (by decide) il_L_234 co_X9_pieces rfl (c_X9_pieces μ) (by decide) rfl (q_pieces h) (fun σ' μ' h' => K σ' μ' (INV_mono h' (by omega) (by omega)))
theorem k_piece {X : lX} (C : lC X) {i : Nat} (hi : i + 5 < lL X) (hi2 : i ≤ 3072) {σ μ : gM} (h : INV σ μ (200 * i)) (K : ∀ σ' μ', INV σ' μ' (200 * (i + 6)) → lW X 2419 (nI i) [] σ' μ') : lW X 1813 (nI i) [] σ μ :=
  l_op C hi (hv := id) (fun _ => rfl) (args := [(1, false)]) oL_1813 il_L_235 co_X8_piece rfl (c_X8_piece _ σ) (by decide) il_L_238 co_X9_piece rfl (c_X9_piece _ μ) (by decide) rfl (q_piece h _) (fun σ' μ' h' => K σ' μ' (INV_mono h' (by omega) (by omega)))
theorem k_reach {X : lX} (C : lC X) {i : Nat} (hi : i + 5 < lL X) (hi2 : i ≤ 3072) {σ μ : gM} (h : INV σ μ (200 * i)) (K : ∀ σ' μ', INV σ' μ' (200 * (i + 6)) → lW X 2419 (nI i) [] σ' μ') : lW X 1836 (nI i) [] σ μ :=
  l_op C hi (hv := id) (fun _ => rfl) (args := [(1, false), (2, false)]) oL_1836 il_L_239 co_X8_reach rfl (c_X8_reach _ _ σ) (by decide) il_L_242 co_X9_reach rfl (c_X9_reach _ _ μ) (by decide) rfl (q_reach h _ _) (fun σ' μ' h' => K σ' μ' (INV_mono h' (by omega) (by omega)))
theorem k_candidate {X : lX} (C : lC X) {i : Nat} (hi : i + 5 < lL X) (hi2 : i ≤ 3072) {σ μ : gM} (h : INV σ μ (200 * i)) (K : ∀ σ' μ', INV σ' μ' (200 * (i + 6)) → lW X 2419 (nI i) [] σ' μ') : lW X 1869 (nI i) [] σ μ :=
  l_op C hi (hv := id) (fun _ => rfl) (args := [(1, false), (2, false)]) oL_1869 il_L_243 co_X8_candidate rfl (c_X8_candidate _ _ σ) (by decide) il_L_246 co_X9_candidate rfl (c_X9_candidate _ _ μ) (by decide) rfl (q_candidate h _ _) (fun σ' μ' h' => K σ' μ' (INV_mono h' (by omega) (by omega)))
theorem k_victim {X : lX} (C : lC X) {i : Nat} (hi : i + 5 < lL X) (hi2 : i ≤ 3072) {σ μ : gM} (h : INV σ μ (200 * i)) (K : ∀ σ' μ', INV σ' μ' (200 * (i + 6)) → lW X 2419 (nI i) [] σ' μ') : lW X 1902 (nI i) [] σ μ :=
  l_op C hi (hv := id) (fun _ => rfl) (args := [(1, false)]) oL_1902 il_L_247 co_X8_victim rfl (c_X8_victim _ σ) (by decide) il_L_250 co_X9_victim rfl (c_X9_victim _ μ) (by decide) rfl (q_victim h _) (fun σ' μ' h' => K σ' μ' (INV_mono h' (by omega) (by omega)))
theorem k_moved {X : lX} (C : lC X) {i : Nat} (hi : i + 5 < lL X) (hi2 : i ≤ 3072) {σ μ : gM} (h : INV σ μ (200 * i)) (K : ∀ σ' μ', INV σ' μ' (200 * (i + 6)) → lW X 2419 (nI i) [] σ' μ') : lW X 1925 (nI i) [] σ μ :=
  l_op C hi (hv := id) (fun _ => rfl) (args := [(1, false), (2, false)]) oL_1925 il_L_251 co_X8_moved rfl (c_X8_moved _ _ σ) (by decide) il_L_254 co_X9_moved rfl (c_X9_moved _ _ μ) (by decide) rfl (q_moved h _ _) (fun σ' μ' h' => K σ' μ' (INV_mono h' (by omega) (by omega)))
theorem k_length {X : lX} (C : lC X) {i : Nat} (hi : i + 5 < lL X) (hi2 : i ≤ 3072) {σ μ : gM} (h : INV σ μ (200 * i)) (K : ∀ σ' μ', INV σ' μ' (200 * (i + 6)) → lW X 2419 (nI i) [] σ' μ') : lW X 1958 (nI i) [] σ μ :=
  l_op C hi (hv := id) (fun _ => rfl) (args := [(1, false)]) oL_1958 il_L_255 co_X8_length rfl (c_X8_length _ σ) (by decide) il_L_258 co_X9_length rfl (c_X9_length _ μ) (by decide) rfl (q_length h _) (fun σ' μ' h' => K σ' μ' (INV_mono h' (by omega) (by omega)))
theorem k_step {X : lX} (C : lC X) {i : Nat} (hi : i + 5 < lL X) (hi2 : i ≤ 3072) {σ μ : gM} (h : INV σ μ (200 * i)) (K : ∀ σ' μ', INV σ' μ' (200 * (i + 6)) → lW X 2419 (nI i) [] σ' μ') : lW X 1981 (nI i) [] σ μ :=
  l_op C hi (hv := id) (fun _ => rfl) (args := [(1, false), (2, false)]) oL_1981 il_L_259 co_X8_step rfl (c_X8_step _ _ σ) (by decide) il_L_262 co_X9_step rfl (c_X9_step _ _ μ) (by decide) rfl (q_step h _ _) (fun σ' μ' h' => K σ' μ' (INV_mono h' (by omega) (by omega)))
theorem k_wide {X : lX} (C : lC X) {i : Nat} (hi : i + 5 < lL X) (hi2 : i ≤ 3072) {σ μ : gM} (h : INV σ μ (200 * i)) (K : ∀ σ' μ', INV σ' μ' (200 * (i + 6)) → lW X 2419 (nI i) [] σ' μ') : lW X 2014 (nI i) [] σ μ :=
  l_op C hi (hv := id) (fun _ => rfl) (args := [(1, false)]) oL_2014 il_L_263 co_X8_wide rfl (c_X8_wide _ σ) (by decide) il_L_266 co_X9_wide rfl (c_X9_wide _ μ) (by decide) rfl (q_wide h _) (fun σ' μ' h' => K σ' μ' (INV_mono h' (by omega) (by omega)))
theorem k_writes {X : lX} (C : lC X) {i : Nat} (hi : i + 5 < lL X) (hi2 : i ≤ 3072) {σ μ : gM} (h : INV σ μ (200 * i)) (K : ∀ σ' μ', INV σ' μ' (200 * (i + 6)) → lW X 2419 (nI i) [] σ' μ') : lW X 2037 (nI i) [] σ μ :=
  l_op C hi (hv := id) (fun _ => rfl) (args := [(1, false)]) oL_2037 il_L_267 co_X8_writes rfl (c_X8_writes _ σ) (by decide) il_L_270 co_X9_writes rfl (c_X9_writes _ μ) (by decide) rfl (q_writes h _) (fun σ' μ' h' => K σ' μ' (INV_mono h' (by omega) (by omega)))
theorem k_working {X : lX} (C : lC X) {i : Nat} (hi : i + 5 < lL X) (hi2 : i ≤ 3072) {σ μ : gM} (h : INV σ μ (200 * i)) (K : ∀ σ' μ', INV σ' μ' (200 * (i + 6)) → lW X 2419 (nI i) [] σ' μ') : lW X 2060 (nI i) [] σ μ :=
  l_op C hi (hv := id) (fun _ => rfl) (args := [(1, false), (2, false)]) oL_2060 il_L_271 co_X8_working rfl (c_X8_working _ _ σ) (by decide) il_L_274 co_X9_working rfl (c_X9_working _ _ μ) (by decide) rfl (q_working h _ _) (fun σ' μ' h' => K σ' μ' (INV_mono h' (by omega) (by omega)))
theorem k_hottest {X : lX} (C : lC X) {i : Nat} (hi : i + 5 < lL X) (hi2 : i ≤ 3072) {σ μ : gM} (h : INV σ μ (200 * i)) (K : ∀ σ' μ', INV σ' μ' (200 * (i + 6)) → lW X 2419 (nI i) [] σ' μ') : lW X 2093 (nI i) [] σ μ :=
  l_op C hi (hv := id) (fun _ => rfl) (args := [(1, false), (2, true)]) oL_2093 il_L_275 co_X8_hottest rfl (c_X8_hottest _ _ σ) (by decide) il_L_278 co_X9_hottest rfl (c_X9_hottest _ _ μ) (by decide) rfl (q_hottest h _ _) (fun σ' μ' h' => K σ' μ' (INV_mono h' (by omega) (by omega)))
theorem k_hits {X : lX} (C : lC X) {i : Nat} (hi : i + 5 < lL X) (hi2 : i ≤ 3072) {σ μ : gM} (h : INV σ μ (200 * i)) (K : ∀ σ' μ', INV σ' μ' (200 * (i + 6)) → lW X 2419 (nI i) [] σ' μ') : lW X 2142 (nI i) [] σ μ :=
  l_op C hi (hv := id) (fun _ => rfl) (args := [(1, false)]) oL_2142 il_L_279 co_X8_hits rfl (c_X8_hits _ σ) (by decide) il_L_282 co_X9_hits rfl (c_X9_hits _ μ) (by decide) rfl (q_hits h (by omega) _) (fun σ' μ' h' => K σ' μ' (INV_mono h' (by omega) (by omega)))
theorem k_misses {X : lX} (C : lC X) {i : Nat} (hi : i + 5 < lL X) (hi2 : i ≤ 3072) {σ μ : gM} (h : INV σ μ (200 * i)) (K : ∀ σ' μ', INV σ' μ' (200 * (i + 6)) → lW X 2419 (nI i) [] σ' μ') : lW X 2165 (nI i) [] σ μ :=
  l_op C hi (hv := id) (fun _ => rfl) (args := [(1, false), (2, false)]) oL_2165 il_L_283 co_X8_misses rfl (c_X8_misses _ _ σ) (by decide) il_L_286 co_X9_misses rfl (c_X9_misses _ _ μ) (by decide) rfl (q_misses h (by omega) _ _) (fun σ' μ' h' => K σ' μ' (INV_mono h' (by omega) (by omega)))
theorem k_deepest {X : lX} (C : lC X) {i : Nat} (hi : i + 5 < lL X) (hi2 : i ≤ 3072) {σ μ : gM} (h : INV σ μ (200 * i)) (K : ∀ σ' μ', INV σ' μ' (200 * (i + 6)) → lW X 2419 (nI i) [] σ' μ') : lW X 2198 (nI i) [] σ μ :=
  l_op C hi (hv := id) (fun _ => rfl) (args := [(1, false)]) oL_2198 il_L_287 co_X8_deepest rfl (c_X8_deepest _ σ) (by decide) il_L_290 co_X9_deepest rfl (c_X9_deepest _ μ) (by decide) rfl (q_deepest h (by omega) _) (fun σ' μ' h' => K σ' μ' (INV_mono h' (by omega) (by omega)))
theorem k_suited {X : lX} (C : lC X) {i : Nat} (hi : i + 5 < lL X) (hi2 : i ≤ 3072) {σ μ : gM} (h : INV σ μ (200 * i)) (K : ∀ σ' μ', INV σ' μ' (200 * (i + 6)) → lW X 2419 (nI i) [] σ' μ') : lW X 2221 (nI i) [] σ μ :=
  l_op C hi (hv := id) (fun _ => rfl) (args := [(1, false)]) oL_2221 il_L_291 co_X8_suited rfl (c_X8_suited _ σ) (by decide) il_L_294 co_X9_suited rfl (c_X9_suited _ μ) (by decide) rfl (q_suited h (by omega) _) (fun σ' μ' h' => K σ' μ' (INV_mono h' (by omega) (by omega)))
theorem k_ideal {X : lX} (C : lC X) {i : Nat} (hi : i + 5 < lL X) (hi2 : i ≤ 3072) {σ μ : gM} (h : INV σ μ (200 * i)) (K : ∀ σ' μ', INV σ' μ' (200 * (i + 6)) → lW X 2419 (nI i) [] σ' μ') : lW X 2244 (nI i) [] σ μ :=
  l_op C hi (hv := id) (fun _ => rfl) (args := [(1, false)]) oL_2244 il_L_295 co_X8_ideal rfl (c_X8_ideal _ σ) (by decide) il_L_298 co_X9_ideal rfl (c_X9_ideal _ μ) (by decide) rfl (q_ideal h _) (fun σ' μ' h' => K σ' μ' (INV_mono h' (by omega) (by omega)))
theorem k_distance {X : lX} (C : lC X) {i : Nat} (hi : i + 5 < lL X) (hi2 : i ≤ 3072) {σ μ : gM} (h : INV σ μ (200 * i)) (K : ∀ σ' μ', INV σ' μ' (200 * (i + 6)) → lW X 2419 (nI i) [] σ' μ') : lW X 2267 (nI i) [] σ μ :=
  l_op C hi (hv := id) (fun _ => rfl) (args := [(1, false), (2, false)]) oL_2267 il_L_299 co_X8_distance rfl (c_X8_distance _ _ σ) (by decide) il_L_302 co_X9_distance rfl (c_X9_distance _ _ μ) (by decide) rfl (q_distance h _ _) (fun σ' μ' h' => K σ' μ' (INV_mono h' (by omega) (by omega)))
theorem k_recent {X : lX} (C : lC X) {i : Nat} (hi : i + 5 < lL X) (hi2 : i ≤ 3072) {σ μ : gM} (h : INV σ μ (200 * i)) (K : ∀ σ' μ', INV σ' μ' (200 * (i + 6)) → lW X 2419 (nI i) [] σ' μ') : lW X 2300 (nI i) [] σ μ :=
  l_op C hi (hv := id) (fun _ => rfl) (args := [(1, false), (2, false)]) oL_2300 il_L_303 co_X8_recent rfl (c_X8_recent _ _ σ) (by decide) il_L_306 co_X9_recent rfl (c_X9_recent _ _ μ) (by decide) rfl (q_recent h _ _) (fun σ' μ' h' => K σ' μ' (INV_mono h' (by omega) (by omega)))
theorem k_conflicts {X : lX} (C : lC X) {i : Nat} (hi : i + 5 < lL X) (hi2 : i ≤ 3072) {σ μ : gM} (h : INV σ μ (200 * i)) (K : ∀ σ' μ', INV σ' μ' (200 * (i + 6)) → lW X 2419 (nI i) [] σ' μ') : lW X 2333 (nI i) [] σ μ :=
  l_op C hi (hv := id) (fun _ => rfl) (args := [(1, false)]) oL_2333 il_L_307 co_X8_conflicts rfl (c_X8_conflicts _ σ) (by decide) il_L_310 co_X9_conflicts rfl (c_X9_conflicts _ μ) (by decide) rfl (q_conflicts h (by omega) _) (fun σ' μ' h' => K σ' μ' (INV_mono h' (by omega) (by omega)))
theorem k_ratio {X : lX} (C : lC X) {i : Nat} (hi : i + 5 < lL X) (hi2 : i ≤ 3072) {σ μ : gM} (h : INV σ μ (200 * i)) (K : ∀ σ' μ', INV σ' μ' (200 * (i + 6)) → lW X 2419 (nI i) [] σ' μ') : lW X 2356 (nI i) [] σ μ :=
  l_opL C hi oL_2356 il_L_311 co_X8_ratio rfl (c_X8_ratio σ) (by decide) il_L_315 co_X9_ratio rfl (c_X9_ratio μ) (by decide) (q_ratio h) (fun σ' μ' h' => K σ' μ' (INV_mono h' (by omega) (by omega)))
theorem k_image {X : lX} (C : lC X) {i : Nat} (hi : i + 5 < lL X) (hi2 : i ≤ 3072) {σ μ : gM} (h : INV σ μ (200 * i)) (K : ∀ σ' μ', INV σ' μ' (200 * (i + 6)) → lW X 2419 (nI i) [] σ' μ') : lW X 2370 (nI i) [] σ μ :=
  l_op C hi (hv := id) (fun _ => rfl) (args := []) oL_2370 il_L_316 co_X8_image rfl (c_X8_image σ) (by decide) il_L_319 co_X9_image rfl (c_X9_image μ) (by decide) rfl (q_image h) (fun σ' μ' h' => K σ' μ' (INV_mono h' (by omega) (by omega)))
theorem k_back {X : lX} (C : lC X) {i : Nat} (hi : i + 5 < lL X) (hi2 : i ≤ 3072) {σ μ : gM} (h : INV σ μ (200 * i)) (K : ∀ σ' μ', INV σ' μ' (200 * (i + 6)) → lW X 2419 (nI i) [] σ' μ') : lW X 2383 (nI i) [] σ μ :=
  l_op C hi (hv := id) (fun _ => rfl) (args := []) oL_2383 il_L_320 co_X8_back rfl (c_X8_back σ) (by decide) il_L_323 co_X9_back rfl (c_X9_back μ) (by decide) rfl (q_back h) (fun σ' μ' h' => K σ' μ' (INV_mono h' (by omega) (by omega)))
theorem k_about {X : lX} (C : lC X) {i : Nat} (hi : i + 5 < lL X) (hi2 : i ≤ 3072) {σ μ : gM} (h : INV σ μ (200 * i)) (K : ∀ σ' μ', INV σ' μ' (200 * (i + 6)) → lW X 2419 (nI i) [] σ' μ') : lW X 2396 (nI i) [] σ μ :=
  l_op C hi (hv := id) (fun _ => rfl) (args := [(1, false)]) oL_2396 il_L_324 co_X8_about rfl (c_X8_about _ σ) (by decide) il_L_327 co_X9_about rfl (c_X9_about _ μ) (by decide) rfl (q_about h _) (fun σ' μ' h' => K σ' μ' (INV_mono h' (by omega) (by omega)))
def tg (k : Nat) : Nat := [352, 415, 438, 451, 474, 497, 530, 579, 602, 625, 638, 671, 684, 717, 740, 783, 806, 829, 842, 865, 888, 911, 934, 957, 990, 1023, 1066, 1089, 1112, 1135, 1158, 1191, 1204, 1237, 1260, 1293, 1326, 1379, 1402, 1415, 1458, 1491, 1534, 1557, 1600, 1633, 1656, 1679, 1702, 1751, 1774, 1787, 1800, 1813, 1836, 1869, 1902, 1925, 1958, 1981, 2014, 2037, 2060, 2093, 2142, 2165, 2198, 2221, 2244, 2267, 2300, 2333, 2356, 2370, 2383, 2396].getD k 0
theorem all_lt {P : Nat → Prop} {n : Nat} (h : P n) (r : ∀ k, k < n → P k) : ∀ k, k < n + 1 → P k := fun k hk => if e : k = n then e ▸ h else r k (by omega)
def offs : Array Int := #[319, 382, 405, 418, 441, 464, 497, 546, 569, 592, 605, 638, 651, 684, 707, 750, 773, 796, 809, 832, 855, 878, 901, 924, 957, 990, 1033, 1056, 1079, 1102, 1125, 1158, 1171, 1204, 1227, 1260, 1293, 1346, 1369, 1382, 1425, 1458, 1501, 1524, 1567, 1600, 1623, 1646, 1669, 1718, 1741, 1754, 1767, 1780, 1803, 1836, 1869, 1892, 1925, 1948, 1981, 2004, 2027, 2060, 2109, 2132, 2165, 2188, 2211, 2234, 2267, 2300, 2323, 2337, 2350, 2363]
theorem tg_ok : ∀ k, k < 76 → offs[k]? = some ((tg k : Int) - 33) := by decide +kernel
theorem dL_sw : decode code 33 = .ok (.tableswitch 2386 0 75 offs, 319) := dL_33
theorem l_sw {X : lX} (C : lC X) {i : Nat} (hi : i + 5 < lL X) (hi2 : i ≤ 3072) {σ μ : gM} (h : INV σ μ (200 * i)) (K : ∀ σ' μ', INV σ' μ' (200 * (i + 6)) → lW X 2419 (nI i) [] σ' μ') : ∀ k, k < 76 → lW X (tg k) (nI i) [] σ μ := by
  refine all_lt (n := 75) (k_about C hi hi2 h K) ?_
  refine all_lt (n := 74) (k_back C hi hi2 h K) ?_
  refine all_lt (n := 73) (k_image C hi hi2 h K) ?_
  refine all_lt (n := 72) (k_ratio C hi hi2 h K) ?_
  refine all_lt (n := 71) (k_conflicts C hi hi2 h K) ?_
  refine all_lt (n := 70) (k_recent C hi hi2 h K) ?_
  refine all_lt (n := 69) (k_distance C hi hi2 h K) ?_
  refine all_lt (n := 68) (k_ideal C hi hi2 h K) ?_
  refine all_lt (n := 67) (k_suited C hi hi2 h K) ?_
  refine all_lt (n := 66) (k_deepest C hi hi2 h K) ?_
  refine all_lt (n := 65) (k_misses C hi hi2 h K) ?_
  refine all_lt (n := 64) (k_hits C hi hi2 h K) ?_
  refine all_lt (n := 63) (k_hottest C hi hi2 h K) ?_
  refine all_lt (n := 62) (k_working C hi hi2 h K) ?_
  refine all_lt (n := 61) (k_writes C hi hi2 h K) ?_
  refine all_lt (n := 60) (k_wide C hi hi2 h K) ?_
  refine all_lt (n := 59) (k_step C hi hi2 h K) ?_
  refine all_lt (n := 58) (k_length C hi hi2 h K) ?_
  refine all_lt (n := 57) (k_moved C hi hi2 h K) ?_
  refine all_lt (n := 56) (k_victim C hi hi2 h K) ?_
  refine all_lt (n := 55) (k_candidate C hi hi2 h K) ?_
  refine all_lt (n := 54) (k_reach C hi hi2 h K) ?_
  refine all_lt (n := 53) (k_piece C hi hi2 h K) ?_
  refine all_lt (n := 52) (k_pieces C hi hi2 h K) ?_
  refine all_lt (n := 51) (k_fittingPlainly C hi hi2 h K) ?_
  refine all_lt (n := 50) (k_fitting C hi hi2 h K) ?_
  refine all_lt (n := 49) (k_gathered C hi hi2 h K) ?_
  refine all_lt (n := 48) (k_crowd C hi hi2 h K) ?_
  refine all_lt (n := 47) (k_room C hi hi2 h K) ?_
  refine all_lt (n := 46) (k_shares C hi hi2 h K) ?_
  refine all_lt (n := 45) (k_pairs C hi hi2 h K) ?_
  refine all_lt (n := 44) (k_holds C hi hi2 h K) ?_
  refine all_lt (n := 43) (k_sweep C hi hi2 h K) ?_
  refine all_lt (n := 42) (k_bestFlip C hi hi2 h K) ?_
  refine all_lt (n := 41) (k_flipped C hi hi2 h K) ?_
  refine all_lt (n := 40) (k_worst C hi hi2 h K) ?_
  refine all_lt (n := 39) (k_scattered C hi hi2 h K) ?_
  refine all_lt (n := 38) (k_evenAll C hi hi2 h K) ?_
  refine all_lt (n := 37) (k_even C hi hi2 h K) ?_
  refine all_lt (n := 36) (k_spread C hi hi2 h K) ?_
  refine all_lt (n := 35) (k_together C hi hi2 h K) ?_
  refine all_lt (n := 34) (k_twin C hi hi2 h K) ?_
  refine all_lt (n := 33) (k_twins C hi hi2 h K) ?_
  refine all_lt (n := 32) (k_rank C hi hi2 h K) ?_
  refine all_lt (n := 31) (k_stale C hi hi2 h K) ?_
  refine all_lt (n := 30) (k_book C hi hi2 h K) ?_
  refine all_lt (n := 29) (k_aged C hi hi2 h K) ?_
  refine all_lt (n := 28) (k_value C hi hi2 h K) ?_
  refine all_lt (n := 27) (k_memory C hi hi2 h K) ?_
  refine all_lt (n := 26) (k_where C hi hi2 h K) ?_
  refine all_lt (n := 25) (k_slot C hi hi2 h K) ?_
  refine all_lt (n := 24) (k_index C hi hi2 h K) ?_
  refine all_lt (n := 23) (k_masked C hi hi2 h K) ?_
  refine all_lt (n := 22) (k_is C hi hi2 h K) ?_
  refine all_lt (n := 21) (k_scatter C hi hi2 h K) ?_
  refine all_lt (n := 20) (k_collect C hi hi2 h K) ?_
  refine all_lt (n := 19) (k_gather C hi hi2 h K) ?_
  refine all_lt (n := 18) (k_tell C hi hi2 h K) ?_
  refine all_lt (n := 17) (k_undo C hi hi2 h K) ?_
  refine all_lt (n := 16) (k_run C hi hi2 h K) ?_
  refine all_lt (n := 15) (k_depth C hi hi2 h K) ?_
  refine all_lt (n := 14) (k_mask C hi hi2 h K) ?_
  refine all_lt (n := 13) (k_family C hi hi2 h K) ?_
  refine all_lt (n := 12) (k_shape C hi hi2 h K) ?_
  refine all_lt (n := 11) (k_empty C hi hi2 h K) ?_
  refine all_lt (n := 10) (k_trade C hi hi2 h K) ?_
  refine all_lt (n := 9) (k_cool C hi hi2 h K) ?_
  refine all_lt (n := 8) (k_leave C hi hi2 h K) ?_
  refine all_lt (n := 7) (k_clean C hi hi2 h K) ?_
  refine all_lt (n := 6) (k_pin C hi hi2 h K) ?_
  refine all_lt (n := 5) (k_write C hi hi2 h K) ?_
  refine all_lt (n := 4) (k_ask C hi hi2 h K) ?_
  refine all_lt (n := 3) (k_fault C hi hi2 h K) ?_
  refine all_lt (n := 2) (k_text C hi hi2 h K) ?_
  refine all_lt (n := 1) (k_end C hi hi2 h K) ?_
  refine all_lt (n := 0) (k_feed C hi hi2 h K) ?_
  exact fun k hk => absurd hk (Nat.not_lt_zero k)

theorem and127 (x : Int32) : ∃ k : Nat, k < 128 ∧ x &&& 127 = nI k := by
  refine ⟨(x &&& 127).toUInt32.toNat, ?_, ?_⟩
  · have h : (x &&& 127).toUInt32 = x.toUInt32 &&& 127 := rfl
    rw [h, UInt32.toNat_and]
    exact Nat.lt_of_le_of_lt Nat.and_le_right (by decide)
  · exact (congrArg UInt32.toInt32 (UInt32.ofNat_toNat (x := (x &&& 127).toUInt32))).symm
theorem l_go {X : lX} (C : lC X) {i : Nat} (hi : i + 5 < lL X) (hi2 : i ≤ 3072) {σ μ : gM} (h : INV σ μ (200 * i)) (K : ∀ σ' μ', INV σ' μ' (200 * (i + 6)) → lW X 2419 (nI i) [] σ' μ') : lW X 27 (nI i) [] σ μ := by
  have sw := l_sw C hi hi2 h K
  have k0 := K σ μ (INV_mono h (by omega) (by omega))
  obtain ⟨p, l, e, s, m, below, meth, c, b, L, xs, E, F⟩ := X
  obtain ⟨⟨hx, hb, hml, hown, hts, hN⟩, ⟨hX, hbl, hL⟩, -⟩ := C
  have hi : i + 5 < L := hi
  intro H locs ls hE hF hS hl
  refine lv_aload_n hx hb dL_27 rfl (lv_at hl 3 rfl) ?_
  refine lv_iload_n hx hb dL_28 rfl (lv_at hl 0 rfl) ?_
  refine va_sld hx hb hX hbl (Nat.not_le.mpr hbl) hS (nI_in (by omega) (by omega)) dL_29 ?_
  refine lv_bipush (v := 127) hx hb dL_30 (by decide) ?_
  refine lv_iand hx hb dL_32 ?_
  obtain ⟨k, hk, e⟩ := and127 (xs (nI i).toNatClampNeg)
  rw [e]
  have et : (nI k).toInt = (k : Int) := nI_toInt (by omega)
  by_cases c1 : k < 76
  · refine lv_tableIn (tgt := tg k) (off := (tg k : Int) - 33) hx hb dL_sw (by rw [et]; omega) (by rw [et]; omega) (by rw [et, show ((k : Int) - 0).toNat = k by omega]; exact tg_ok k c1) (by omega) ?_
    exact sw k c1 H locs ls hE hF hS hl
  · refine lv_tableOut (tgt := 2419) hx hb dL_sw (Or.inr (by rw [et]; omega)) (by decide) ?_
    exact k0 H locs ls hE hF hS hl
theorem l_end {X : lX} (C : lC X) {i : Int32} {σ μ : gM} : lW X 2425 i [] σ μ := by
  obtain ⟨p, l, e, s, m, below, meth, c, b, L, xs, E, F⟩ := X
  obtain ⟨⟨hx, hb, hml, hown, hts, hN⟩, -, ⟨hlk, hrt⟩, -⟩ := C
  intro H locs ls hE hF hS hl
  refine va_forget hS.2.2 ?_
  refine lv_iconst (v := 1) hx hb dL_2425 (by decide) ?_
  refine W.base ?_
  exact lw_ret (Drawn.sameBut.refl s.drawn lw_cs) hx hb hrt hlk dL_2426
theorem l_loop {X : lX} (C : lC X) : ∀ (n i : Nat) (σ μ : gM), i ≤ lL X → lL X - i < n → INV σ μ (200 * i) → lW X 18 (nI i) [] σ μ := by
  intro n
  induction n with
  | zero => intro i σ μ _ h; exact absurd h (Nat.not_lt_zero _)
  | succ n ih =>
    intro i σ μ hi hn hI
    have hL' : lL X ≤ 3072 := by
      obtain ⟨p, l, e, s, m, below, meth, c, b, L, xs, E, F⟩ := X
      exact C.2.1.2.2
    have go : i + 5 < lL X → lW X 27 (nI i) [] σ μ := fun h => by
      refine l_go C h (by omega) hI (fun σ' μ' hI' => ?_)
      have k := ih (i + 6) σ' μ' (by omega) (by omega) hI'
      obtain ⟨p, l, e, s, m, below, meth, c, b, L, xs, E, F⟩ := X
      obtain ⟨⟨hx, hb, hml, hown, hts, hN⟩, -⟩ := C
      intro H locs ls hE hF hS hl
      refine lv_iinc (v := nI (i + 6)) (lv' := [(3, .int (nI (i + 6))), (2, .ref (F.2.2.1 9 0)), (1, .ref (E.2.2.1 8 0)), (0, .ref b)]) hx hb dL_2419 hl (k := 0) rfl (nI_add i 6) (by decide) rfl (fun ls hl => ?_)
      refine lv_goto (tgt := 18) hx hb dL_2422 (by decide) ?_
      exact k H locs ls hE hF hS hl
    have fin := l_end C (i := nI i) (σ := σ) (μ := μ)
    obtain ⟨p, l, e, s, m, below, meth, c, b, L, xs, E, F⟩ := X
    obtain ⟨⟨hx, hb, hml, hown, hts, hN⟩, ⟨hX, hbl, hL⟩, -⟩ := C
    have hi : i ≤ L := hi
    intro H locs ls hE hF hS hl
    refine lv_iload_n hx hb dL_18 rfl (lv_at hl 0 rfl) ?_
    refine lv_aload_n hx hb dL_19 rfl (lv_at hl 3 rfl) ?_
    refine va_slen hx hb hX hbl (Nat.not_le.mpr hbl) hS dL_20 ?_
    refine lv_bipush (v := 6) hx hb dL_21 (by decide) ?_
    refine lv_isub hx hb dL_23 ?_
    by_cases c1 : 6 ≤ L
    · rw [show Int32.ofNat L - 6 = nI (L - 6) from by
        rw [show Int32.ofNat L = nI (L - 6) + 6 from by rw [show (6 : Int32) = nI 6 from rfl, nI_add, Nat.sub_add_cancel c1]; rfl]
        exact Int32.add_sub_cancel _ _]
      refine lv_icmp_gt (tgt := 2425) hx hb dL_24 (by decide) (fun _ => fin H locs ls hE hF hS hl) (fun q => go ?_ H locs ls hE hF hS hl)
      rw [nI_ltt (by omega) (by omega)] at q
      show i + 5 < L
      omega
    · refine lv_icmp_gt (tgt := 2425) hx hb dL_24 (by decide) (fun _ => fin H locs ls hE hF hS hl) (fun q => absurd ?_ q)
      have h1 : Int32.ofNat L - 6 < 0 := by
        have key : ∀ L : Nat, L < 6 → Int32.ofNat L - 6 < 0 := by decide
        exact key L (by omega)
      have h2 : 0 ≤ nI i := nI_pos' (by omega)
      exact Int32.lt_of_lt_of_le h1 h2
