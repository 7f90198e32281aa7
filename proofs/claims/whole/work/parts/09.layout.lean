/-! the layout by name; the words by name; calls that make nothing -/
theorem mr_1 : ∀ w ∈ wsL_law_r1, w ∈ wsL_law := fun w h => List.mem_append_left _ (List.mem_append_left _ (List.mem_append_left _ (List.mem_append_left _ (List.mem_append_left _ (List.mem_append_left _ (List.mem_append_left _ (List.mem_append_left _ (List.mem_append_left _ (List.mem_append_left _ (List.mem_append_left _ (List.mem_append_left _ h)))))))))))
theorem mr_2 : ∀ w ∈ wsL_law_r2, w ∈ wsL_law := fun w h => List.mem_append_left _ (List.mem_append_left _ (List.mem_append_left _ (List.mem_append_left _ (List.mem_append_left _ (List.mem_append_left _ (List.mem_append_left _ (List.mem_append_left _ (List.mem_append_left _ (List.mem_append_left _ (List.mem_append_left _ (List.mem_append_right _ (List.mem_append_left _ h))))))))))))
theorem mr_3 : ∀ w ∈ wsL_law_r3, w ∈ wsL_law := fun w h => List.mem_append_left _ (List.mem_append_left _ (List.mem_append_left _ (List.mem_append_left _ (List.mem_append_left _ (List.mem_append_left _ (List.mem_append_left _ (List.mem_append_left _ (List.mem_append_left _ (List.mem_append_left _ (List.mem_append_left _ (List.mem_append_right _ (List.mem_append_right _ (List.mem_append_left _ h)))))))))))))
theorem mr_4 : ∀ w ∈ wsL_law_r4, w ∈ wsL_law := fun w h => List.mem_append_left _ (List.mem_append_left _ (List.mem_append_left _ (List.mem_append_left _ (List.mem_append_left _ (List.mem_append_left _ (List.mem_append_left _ (List.mem_append_left _ (List.mem_append_left _ (List.mem_append_left _ (List.mem_append_left _ (List.mem_append_right _ (List.mem_append_right _ (List.mem_append_right _ (List.mem_append_left _ h))))))))))))))
theorem mr_5 : ∀ w ∈ wsL_law_r5, w ∈ wsL_law := fun w h => List.mem_append_left _ (List.mem_append_left _ (List.mem_append_left _ (List.mem_append_left _ (List.mem_append_left _ (List.mem_append_left _ (List.mem_append_left _ (List.mem_append_left _ (List.mem_append_left _ (List.mem_append_left _ (List.mem_append_left _ (List.mem_append_right _ (List.mem_append_right _ (List.mem_append_right _ (List.mem_append_right _ (List.mem_append_left _ h)))))))))))))))
theorem mr_6 : ∀ w ∈ wsL_law_r6, w ∈ wsL_law := fun w h => List.mem_append_left _ (List.mem_append_left _ (List.mem_append_left _ (List.mem_append_left _ (List.mem_append_left _ (List.mem_append_left _ (List.mem_append_left _ (List.mem_append_left _ (List.mem_append_left _ (List.mem_append_left _ (List.mem_append_left _ (List.mem_append_right _ (List.mem_append_right _ (List.mem_append_right _ (List.mem_append_right _ (List.mem_append_right _ (List.mem_append_left _ h))))))))))))))))
theorem mr_7 : ∀ w ∈ wsL_law_r7, w ∈ wsL_law := fun w h => List.mem_append_left _ (List.mem_append_left _ (List.mem_append_left _ (List.mem_append_left _ (List.mem_append_left _ (List.mem_append_left _ (List.mem_append_left _ (List.mem_append_left _ (List.mem_append_left _ (List.mem_append_left _ (List.mem_append_left _ (List.mem_append_right _ (List.mem_append_right _ (List.mem_append_right _ (List.mem_append_right _ (List.mem_append_right _ (List.mem_append_right _ (List.mem_append_left _ h)))))))))))))))))
theorem mr_8 : ∀ w ∈ wsL_law_r8, w ∈ wsL_law := fun w h => List.mem_append_left _ (List.mem_append_left _ (List.mem_append_left _ (List.mem_append_left _ (List.mem_append_left _ (List.mem_append_left _ (List.mem_append_left _ (List.mem_append_left _ (List.mem_append_left _ (List.mem_append_left _ (List.mem_append_left _ (List.mem_append_right _ (List.mem_append_right _ (List.mem_append_right _ (List.mem_append_right _ (List.mem_append_right _ (List.mem_append_right _ (List.mem_append_right _ (List.mem_append_left _ h))))))))))))))))))
theorem mr_9 : ∀ w ∈ wsL_law_r9, w ∈ wsL_law := fun w h => List.mem_append_left _ (List.mem_append_left _ (List.mem_append_left _ (List.mem_append_left _ (List.mem_append_left _ (List.mem_append_left _ (List.mem_append_left _ (List.mem_append_left _ (List.mem_append_left _ (List.mem_append_left _ (List.mem_append_left _ (List.mem_append_right _ (List.mem_append_right _ (List.mem_append_right _ (List.mem_append_right _ (List.mem_append_right _ (List.mem_append_right _ (List.mem_append_right _ (List.mem_append_right _ (List.mem_append_left _ h)))))))))))))))))))
theorem mr_10 : ∀ w ∈ wsL_law_r10, w ∈ wsL_law := fun w h => List.mem_append_left _ (List.mem_append_left _ (List.mem_append_left _ (List.mem_append_left _ (List.mem_append_left _ (List.mem_append_left _ (List.mem_append_left _ (List.mem_append_left _ (List.mem_append_left _ (List.mem_append_left _ (List.mem_append_left _ (List.mem_append_right _ (List.mem_append_right _ (List.mem_append_right _ (List.mem_append_right _ (List.mem_append_right _ (List.mem_append_right _ (List.mem_append_right _ (List.mem_append_right _ (List.mem_append_right _ (List.mem_append_left _ h))))))))))))))))))))
theorem mr_11 : ∀ w ∈ wsL_law_r11, w ∈ wsL_law := fun w h => List.mem_append_left _ (List.mem_append_left _ (List.mem_append_left _ (List.mem_append_left _ (List.mem_append_left _ (List.mem_append_left _ (List.mem_append_left _ (List.mem_append_left _ (List.mem_append_left _ (List.mem_append_left _ (List.mem_append_left _ (List.mem_append_right _ (List.mem_append_right _ (List.mem_append_right _ (List.mem_append_right _ (List.mem_append_right _ (List.mem_append_right _ (List.mem_append_right _ (List.mem_append_right _ (List.mem_append_right _ (List.mem_append_right _ (List.mem_append_left _ h)))))))))))))))))))))
theorem mr_12 : ∀ w ∈ wsL_law_r12, w ∈ wsL_law := fun w h => List.mem_append_left _ (List.mem_append_left _ (List.mem_append_left _ (List.mem_append_left _ (List.mem_append_left _ (List.mem_append_left _ (List.mem_append_left _ (List.mem_append_left _ (List.mem_append_left _ (List.mem_append_left _ (List.mem_append_left _ (List.mem_append_right _ (List.mem_append_right _ (List.mem_append_right _ (List.mem_append_right _ (List.mem_append_right _ (List.mem_append_right _ (List.mem_append_right _ (List.mem_append_right _ (List.mem_append_right _ (List.mem_append_right _ (List.mem_append_right _ (List.mem_append_left _ h))))))))))))))))))))))
theorem mr_13 : ∀ w ∈ wsL_law_r13, w ∈ wsL_law := fun w h => List.mem_append_left _ (List.mem_append_left _ (List.mem_append_left _ (List.mem_append_left _ (List.mem_append_left _ (List.mem_append_left _ (List.mem_append_left _ (List.mem_append_left _ (List.mem_append_left _ (List.mem_append_left _ (List.mem_append_left _ (List.mem_append_right _ (List.mem_append_right _ (List.mem_append_right _ (List.mem_append_right _ (List.mem_append_right _ (List.mem_append_right _ (List.mem_append_right _ (List.mem_append_right _ (List.mem_append_right _ (List.mem_append_right _ (List.mem_append_right _ (List.mem_append_right _ (List.mem_append_left _ h)))))))))))))))))))))))
theorem mr_14 : ∀ w ∈ wsL_law_r14, w ∈ wsL_law := fun w h => List.mem_append_left _ (List.mem_append_left _ (List.mem_append_left _ (List.mem_append_left _ (List.mem_append_left _ (List.mem_append_left _ (List.mem_append_left _ (List.mem_append_left _ (List.mem_append_left _ (List.mem_append_left _ (List.mem_append_left _ (List.mem_append_right _ (List.mem_append_right _ (List.mem_append_right _ (List.mem_append_right _ (List.mem_append_right _ (List.mem_append_right _ (List.mem_append_right _ (List.mem_append_right _ (List.mem_append_right _ (List.mem_append_right _ (List.mem_append_right _ (List.mem_append_right _ (List.mem_append_right _ (List.mem_append_left _ h))))))))))))))))))))))))
theorem mr_15 : ∀ w ∈ wsL_law_r15, w ∈ wsL_law := fun w h => List.mem_append_left _ (List.mem_append_left _ (List.mem_append_left _ (List.mem_append_left _ (List.mem_append_left _ (List.mem_append_left _ (List.mem_append_left _ (List.mem_append_left _ (List.mem_append_left _ (List.mem_append_left _ (List.mem_append_left _ (List.mem_append_right _ (List.mem_append_right _ (List.mem_append_right _ (List.mem_append_right _ (List.mem_append_right _ (List.mem_append_right _ (List.mem_append_right _ (List.mem_append_right _ (List.mem_append_right _ (List.mem_append_right _ (List.mem_append_right _ (List.mem_append_right _ (List.mem_append_right _ (List.mem_append_right _ (List.mem_append_left _ h)))))))))))))))))))))))))
theorem mr_16 : ∀ w ∈ wsL_law_r16, w ∈ wsL_law := fun w h => List.mem_append_left _ (List.mem_append_left _ (List.mem_append_left _ (List.mem_append_left _ (List.mem_append_left _ (List.mem_append_left _ (List.mem_append_left _ (List.mem_append_left _ (List.mem_append_left _ (List.mem_append_left _ (List.mem_append_left _ (List.mem_append_right _ (List.mem_append_right _ (List.mem_append_right _ (List.mem_append_right _ (List.mem_append_right _ (List.mem_append_right _ (List.mem_append_right _ (List.mem_append_right _ (List.mem_append_right _ (List.mem_append_right _ (List.mem_append_right _ (List.mem_append_right _ (List.mem_append_right _ (List.mem_append_right _ (List.mem_append_right _ (List.mem_append_left _ h))))))))))))))))))))))))))
theorem mr_17 : ∀ w ∈ wsL_law_r17, w ∈ wsL_law := fun w h => List.mem_append_left _ (List.mem_append_left _ (List.mem_append_left _ (List.mem_append_left _ (List.mem_append_left _ (List.mem_append_left _ (List.mem_append_left _ (List.mem_append_left _ (List.mem_append_left _ (List.mem_append_left _ (List.mem_append_left _ (List.mem_append_right _ (List.mem_append_right _ (List.mem_append_right _ (List.mem_append_right _ (List.mem_append_right _ (List.mem_append_right _ (List.mem_append_right _ (List.mem_append_right _ (List.mem_append_right _ (List.mem_append_right _ (List.mem_append_right _ (List.mem_append_right _ (List.mem_append_right _ (List.mem_append_right _ (List.mem_append_right _ (List.mem_append_right _ (List.mem_append_left _ h)))))))))))))))))))))))))))
theorem mr_18 : ∀ w ∈ wsL_law_r18, w ∈ wsL_law := fun w h => List.mem_append_left _ (List.mem_append_left _ (List.mem_append_left _ (List.mem_append_left _ (List.mem_append_left _ (List.mem_append_left _ (List.mem_append_left _ (List.mem_append_left _ (List.mem_append_left _ (List.mem_append_left _ (List.mem_append_left _ (List.mem_append_right _ (List.mem_append_right _ (List.mem_append_right _ (List.mem_append_right _ (List.mem_append_right _ (List.mem_append_right _ (List.mem_append_right _ (List.mem_append_right _ (List.mem_append_right _ (List.mem_append_right _ (List.mem_append_right _ (List.mem_append_right _ (List.mem_append_right _ (List.mem_append_right _ (List.mem_append_right _ (List.mem_append_right _ (List.mem_append_right _ (List.mem_append_left _ h))))))))))))))))))))))))))))
theorem mr_19 : ∀ w ∈ wsL_law_r19, w ∈ wsL_law := fun w h => List.mem_append_left _ (List.mem_append_left _ (List.mem_append_left _ (List.mem_append_left _ (List.mem_append_left _ (List.mem_append_left _ (List.mem_append_left _ (List.mem_append_left _ (List.mem_append_left _ (List.mem_append_left _ (List.mem_append_left _ (List.mem_append_right _ (List.mem_append_right _ (List.mem_append_right _ (List.mem_append_right _ (List.mem_append_right _ (List.mem_append_right _ (List.mem_append_right _ (List.mem_append_right _ (List.mem_append_right _ (List.mem_append_right _ (List.mem_append_right _ (List.mem_append_right _ (List.mem_append_right _ (List.mem_append_right _ (List.mem_append_right _ (List.mem_append_right _ (List.mem_append_right _ (List.mem_append_right _ (List.mem_append_left _ h)))))))))))))))))))))))))))))
theorem mr_20 : ∀ w ∈ wsL_law_r20, w ∈ wsL_law := fun w h => List.mem_append_left _ (List.mem_append_left _ (List.mem_append_left _ (List.mem_append_left _ (List.mem_append_left _ (List.mem_append_left _ (List.mem_append_left _ (List.mem_append_left _ (List.mem_append_left _ (List.mem_append_left _ (List.mem_append_left _ (List.mem_append_right _ (List.mem_append_right _ (List.mem_append_right _ (List.mem_append_right _ (List.mem_append_right _ (List.mem_append_right _ (List.mem_append_right _ (List.mem_append_right _ (List.mem_append_right _ (List.mem_append_right _ (List.mem_append_right _ (List.mem_append_right _ (List.mem_append_right _ (List.mem_append_right _ (List.mem_append_right _ (List.mem_append_right _ (List.mem_append_right _ (List.mem_append_right _ (List.mem_append_right _ (List.mem_append_left _ h))))))))))))))))))))))))))))))
theorem mr_21 : ∀ w ∈ wsL_law_r21, w ∈ wsL_law := fun w h => List.mem_append_left _ (List.mem_append_left _ (List.mem_append_left _ (List.mem_append_left _ (List.mem_append_left _ (List.mem_append_left _ (List.mem_append_left _ (List.mem_append_left _ (List.mem_append_left _ (List.mem_append_left _ (List.mem_append_left _ (List.mem_append_right _ (List.mem_append_right _ (List.mem_append_right _ (List.mem_append_right _ (List.mem_append_right _ (List.mem_append_right _ (List.mem_append_right _ (List.mem_append_right _ (List.mem_append_right _ (List.mem_append_right _ (List.mem_append_right _ (List.mem_append_right _ (List.mem_append_right _ (List.mem_append_right _ (List.mem_append_right _ (List.mem_append_right _ (List.mem_append_right _ (List.mem_append_right _ (List.mem_append_right _ (List.mem_append_right _ (List.mem_append_left _ h)))))))))))))))))))))))))))))))
theorem mr_22 : ∀ w ∈ wsL_law_r22, w ∈ wsL_law := fun w h => List.mem_append_left _ (List.mem_append_left _ (List.mem_append_left _ (List.mem_append_left _ (List.mem_append_left _ (List.mem_append_left _ (List.mem_append_left _ (List.mem_append_left _ (List.mem_append_left _ (List.mem_append_left _ (List.mem_append_left _ (List.mem_append_right _ (List.mem_append_right _ (List.mem_append_right _ (List.mem_append_right _ (List.mem_append_right _ (List.mem_append_right _ (List.mem_append_right _ (List.mem_append_right _ (List.mem_append_right _ (List.mem_append_right _ (List.mem_append_right _ (List.mem_append_right _ (List.mem_append_right _ (List.mem_append_right _ (List.mem_append_right _ (List.mem_append_right _ (List.mem_append_right _ (List.mem_append_right _ (List.mem_append_right _ (List.mem_append_right _ (List.mem_append_right _ (List.mem_append_left _ h))))))))))))))))))))))))))))))))
theorem mr_23 : ∀ w ∈ wsL_law_r23, w ∈ wsL_law := fun w h => List.mem_append_left _ (List.mem_append_left _ (List.mem_append_left _ (List.mem_append_left _ (List.mem_append_left _ (List.mem_append_left _ (List.mem_append_left _ (List.mem_append_left _ (List.mem_append_left _ (List.mem_append_left _ (List.mem_append_left _ (List.mem_append_right _ (List.mem_append_right _ (List.mem_append_right _ (List.mem_append_right _ (List.mem_append_right _ (List.mem_append_right _ (List.mem_append_right _ (List.mem_append_right _ (List.mem_append_right _ (List.mem_append_right _ (List.mem_append_right _ (List.mem_append_right _ (List.mem_append_right _ (List.mem_append_right _ (List.mem_append_right _ (List.mem_append_right _ (List.mem_append_right _ (List.mem_append_right _ (List.mem_append_right _ (List.mem_append_right _ (List.mem_append_right _ (List.mem_append_right _ (List.mem_append_left _ h)))))))))))))))))))))))))))))))))
theorem mr_24 : ∀ w ∈ wsL_law_r24, w ∈ wsL_law := fun w h => List.mem_append_left _ (List.mem_append_left _ (List.mem_append_left _ (List.mem_append_left _ (List.mem_append_left _ (List.mem_append_left _ (List.mem_append_left _ (List.mem_append_left _ (List.mem_append_left _ (List.mem_append_left _ (List.mem_append_left _ (List.mem_append_right _ (List.mem_append_right _ (List.mem_append_right _ (List.mem_append_right _ (List.mem_append_right _ (List.mem_append_right _ (List.mem_append_right _ (List.mem_append_right _ (List.mem_append_right _ (List.mem_append_right _ (List.mem_append_right _ (List.mem_append_right _ (List.mem_append_right _ (List.mem_append_right _ (List.mem_append_right _ (List.mem_append_right _ (List.mem_append_right _ (List.mem_append_right _ (List.mem_append_right _ (List.mem_append_right _ (List.mem_append_right _ (List.mem_append_right _ (List.mem_append_right _ (List.mem_append_left _ h))))))))))))))))))))))))))))))))))
theorem mr_25 : ∀ w ∈ wsL_law_r25, w ∈ wsL_law := fun w h => List.mem_append_left _ (List.mem_append_left _ (List.mem_append_left _ (List.mem_append_left _ (List.mem_append_left _ (List.mem_append_left _ (List.mem_append_left _ (List.mem_append_left _ (List.mem_append_left _ (List.mem_append_left _ (List.mem_append_left _ (List.mem_append_right _ (List.mem_append_right _ (List.mem_append_right _ (List.mem_append_right _ (List.mem_append_right _ (List.mem_append_right _ (List.mem_append_right _ (List.mem_append_right _ (List.mem_append_right _ (List.mem_append_right _ (List.mem_append_right _ (List.mem_append_right _ (List.mem_append_right _ (List.mem_append_right _ (List.mem_append_right _ (List.mem_append_right _ (List.mem_append_right _ (List.mem_append_right _ (List.mem_append_right _ (List.mem_append_right _ (List.mem_append_right _ (List.mem_append_right _ (List.mem_append_right _ (List.mem_append_right _ (List.mem_append_left _ h)))))))))))))))))))))))))))))))))))
theorem mr_26 : ∀ w ∈ wsL_law_r26, w ∈ wsL_law := fun w h => List.mem_append_left _ (List.mem_append_left _ (List.mem_append_left _ (List.mem_append_left _ (List.mem_append_left _ (List.mem_append_left _ (List.mem_append_left _ (List.mem_append_left _ (List.mem_append_left _ (List.mem_append_left _ (List.mem_append_left _ (List.mem_append_right _ (List.mem_append_right _ (List.mem_append_right _ (List.mem_append_right _ (List.mem_append_right _ (List.mem_append_right _ (List.mem_append_right _ (List.mem_append_right _ (List.mem_append_right _ (List.mem_append_right _ (List.mem_append_right _ (List.mem_append_right _ (List.mem_append_right _ (List.mem_append_right _ (List.mem_append_right _ (List.mem_append_right _ (List.mem_append_right _ (List.mem_append_right _ (List.mem_append_right _ (List.mem_append_right _ (List.mem_append_right _ (List.mem_append_right _ (List.mem_append_right _ (List.mem_append_right _ (List.mem_append_right _ (List.mem_append_left _ h))))))))))))))))))))))))))))))))))))
theorem mr_27 : ∀ w ∈ wsL_law_r27, w ∈ wsL_law := fun w h => List.mem_append_left _ (List.mem_append_left _ (List.mem_append_left _ (List.mem_append_left _ (List.mem_append_left _ (List.mem_append_left _ (List.mem_append_left _ (List.mem_append_left _ (List.mem_append_left _ (List.mem_append_left _ (List.mem_append_left _ (List.mem_append_right _ (List.mem_append_right _ (List.mem_append_right _ (List.mem_append_right _ (List.mem_append_right _ (List.mem_append_right _ (List.mem_append_right _ (List.mem_append_right _ (List.mem_append_right _ (List.mem_append_right _ (List.mem_append_right _ (List.mem_append_right _ (List.mem_append_right _ (List.mem_append_right _ (List.mem_append_right _ (List.mem_append_right _ (List.mem_append_right _ (List.mem_append_right _ (List.mem_append_right _ (List.mem_append_right _ (List.mem_append_right _ (List.mem_append_right _ (List.mem_append_right _ (List.mem_append_right _ (List.mem_append_right _ (List.mem_append_right _ (List.mem_append_left _ h)))))))))))))))))))))))))))))))))))))
theorem mr_28 : ∀ w ∈ wsL_law_r28, w ∈ wsL_law := fun w h => List.mem_append_left _ (List.mem_append_left _ (List.mem_append_left _ (List.mem_append_left _ (List.mem_append_left _ (List.mem_append_left _ (List.mem_append_left _ (List.mem_append_left _ (List.mem_append_left _ (List.mem_append_left _ (List.mem_append_left _ (List.mem_append_right _ (List.mem_append_right _ (List.mem_append_right _ (List.mem_append_right _ (List.mem_append_right _ (List.mem_append_right _ (List.mem_append_right _ (List.mem_append_right _ (List.mem_append_right _ (List.mem_append_right _ (List.mem_append_right _ (List.mem_append_right _ (List.mem_append_right _ (List.mem_append_right _ (List.mem_append_right _ (List.mem_append_right _ (List.mem_append_right _ (List.mem_append_right _ (List.mem_append_right _ (List.mem_append_right _ (List.mem_append_right _ (List.mem_append_right _ (List.mem_append_right _ (List.mem_append_right _ (List.mem_append_right _ (List.mem_append_right _ (List.mem_append_right _ (List.mem_append_left _ h))))))))))))))))))))))))))))))))))))))
theorem mr_29 : ∀ w ∈ wsL_law_r29, w ∈ wsL_law := fun w h => List.mem_append_left _ (List.mem_append_left _ (List.mem_append_left _ (List.mem_append_left _ (List.mem_append_left _ (List.mem_append_left _ (List.mem_append_left _ (List.mem_append_left _ (List.mem_append_left _ (List.mem_append_left _ (List.mem_append_left _ (List.mem_append_right _ (List.mem_append_right _ (List.mem_append_right _ (List.mem_append_right _ (List.mem_append_right _ (List.mem_append_right _ (List.mem_append_right _ (List.mem_append_right _ (List.mem_append_right _ (List.mem_append_right _ (List.mem_append_right _ (List.mem_append_right _ (List.mem_append_right _ (List.mem_append_right _ (List.mem_append_right _ (List.mem_append_right _ (List.mem_append_right _ (List.mem_append_right _ (List.mem_append_right _ (List.mem_append_right _ (List.mem_append_right _ (List.mem_append_right _ (List.mem_append_right _ (List.mem_append_right _ (List.mem_append_right _ (List.mem_append_right _ (List.mem_append_right _ (List.mem_append_right _ (List.mem_append_left _ h)))))))))))))))))))))))))))))))))))))))
theorem mr_30 : ∀ w ∈ wsL_law_r30, w ∈ wsL_law := fun w h => List.mem_append_left _ (List.mem_append_left _ (List.mem_append_left _ (List.mem_append_left _ (List.mem_append_left _ (List.mem_append_left _ (List.mem_append_left _ (List.mem_append_left _ (List.mem_append_left _ (List.mem_append_left _ (List.mem_append_left _ (List.mem_append_right _ (List.mem_append_right _ (List.mem_append_right _ (List.mem_append_right _ (List.mem_append_right _ (List.mem_append_right _ (List.mem_append_right _ (List.mem_append_right _ (List.mem_append_right _ (List.mem_append_right _ (List.mem_append_right _ (List.mem_append_right _ (List.mem_append_right _ (List.mem_append_right _ (List.mem_append_right _ (List.mem_append_right _ (List.mem_append_right _ (List.mem_append_right _ (List.mem_append_right _ (List.mem_append_right _ (List.mem_append_right _ (List.mem_append_right _ (List.mem_append_right _ (List.mem_append_right _ (List.mem_append_right _ (List.mem_append_right _ (List.mem_append_right _ (List.mem_append_right _ (List.mem_append_right _ (List.mem_append_left _ h))))))))))))))))))))))))))))))))))))))))
theorem mr_31 : ∀ w ∈ wsL_law_r31, w ∈ wsL_law := fun w h => List.mem_append_left _ (List.mem_append_left _ (List.mem_append_left _ (List.mem_append_left _ (List.mem_append_left _ (List.mem_append_left _ (List.mem_append_left _ (List.mem_append_left _ (List.mem_append_left _ (List.mem_append_left _ (List.mem_append_left _ (List.mem_append_right _ (List.mem_append_right _ (List.mem_append_right _ (List.mem_append_right _ (List.mem_append_right _ (List.mem_append_right _ (List.mem_append_right _ (List.mem_append_right _ (List.mem_append_right _ (List.mem_append_right _ (List.mem_append_right _ (List.mem_append_right _ (List.mem_append_right _ (List.mem_append_right _ (List.mem_append_right _ (List.mem_append_right _ (List.mem_append_right _ (List.mem_append_right _ (List.mem_append_right _ (List.mem_append_right _ (List.mem_append_right _ (List.mem_append_right _ (List.mem_append_right _ (List.mem_append_right _ (List.mem_append_right _ (List.mem_append_right _ (List.mem_append_right _ (List.mem_append_right _ (List.mem_append_right _ (List.mem_append_right _ (List.mem_append_left _ h)))))))))))))))))))))))))))))))))))))))))
theorem mr_32 : ∀ w ∈ wsL_law_r32, w ∈ wsL_law := fun w h => List.mem_append_left _ (List.mem_append_left _ (List.mem_append_left _ (List.mem_append_left _ (List.mem_append_left _ (List.mem_append_left _ (List.mem_append_left _ (List.mem_append_left _ (List.mem_append_left _ (List.mem_append_left _ (List.mem_append_left _ (List.mem_append_right _ (List.mem_append_right _ (List.mem_append_right _ (List.mem_append_right _ (List.mem_append_right _ (List.mem_append_right _ (List.mem_append_right _ (List.mem_append_right _ (List.mem_append_right _ (List.mem_append_right _ (List.mem_append_right _ (List.mem_append_right _ (List.mem_append_right _ (List.mem_append_right _ (List.mem_append_right _ (List.mem_append_right _ (List.mem_append_right _ (List.mem_append_right _ (List.mem_append_right _ (List.mem_append_right _ (List.mem_append_right _ (List.mem_append_right _ (List.mem_append_right _ (List.mem_append_right _ (List.mem_append_right _ (List.mem_append_right _ (List.mem_append_right _ (List.mem_append_right _ (List.mem_append_right _ (List.mem_append_right _ (List.mem_append_right _ (List.mem_append_left _ h))))))))))))))))))))))))))))))))))))))))))
theorem mr_33 : ∀ w ∈ wsL_law_r33, w ∈ wsL_law := fun w h => List.mem_append_left _ (List.mem_append_left _ (List.mem_append_left _ (List.mem_append_left _ (List.mem_append_left _ (List.mem_append_left _ (List.mem_append_left _ (List.mem_append_left _ (List.mem_append_left _ (List.mem_append_left _ (List.mem_append_left _ (List.mem_append_right _ (List.mem_append_right _ (List.mem_append_right _ (List.mem_append_right _ (List.mem_append_right _ (List.mem_append_right _ (List.mem_append_right _ (List.mem_append_right _ (List.mem_append_right _ (List.mem_append_right _ (List.mem_append_right _ (List.mem_append_right _ (List.mem_append_right _ (List.mem_append_right _ (List.mem_append_right _ (List.mem_append_right _ (List.mem_append_right _ (List.mem_append_right _ (List.mem_append_right _ (List.mem_append_right _ (List.mem_append_right _ (List.mem_append_right _ (List.mem_append_right _ (List.mem_append_right _ (List.mem_append_right _ (List.mem_append_right _ (List.mem_append_right _ (List.mem_append_right _ (List.mem_append_right _ (List.mem_append_right _ (List.mem_append_right _ (List.mem_append_right _ (List.mem_append_left _ h)))))))))))))))))))))))))))))))))))))))))))
theorem mr_34 : ∀ w ∈ wsL_law_r34, w ∈ wsL_law := fun w h => List.mem_append_left _ (List.mem_append_left _ (List.mem_append_left _ (List.mem_append_left _ (List.mem_append_left _ (List.mem_append_left _ (List.mem_append_left _ (List.mem_append_left _ (List.mem_append_left _ (List.mem_append_left _ (List.mem_append_left _ (List.mem_append_right _ (List.mem_append_right _ (List.mem_append_right _ (List.mem_append_right _ (List.mem_append_right _ (List.mem_append_right _ (List.mem_append_right _ (List.mem_append_right _ (List.mem_append_right _ (List.mem_append_right _ (List.mem_append_right _ (List.mem_append_right _ (List.mem_append_right _ (List.mem_append_right _ (List.mem_append_right _ (List.mem_append_right _ (List.mem_append_right _ (List.mem_append_right _ (List.mem_append_right _ (List.mem_append_right _ (List.mem_append_right _ (List.mem_append_right _ (List.mem_append_right _ (List.mem_append_right _ (List.mem_append_right _ (List.mem_append_right _ (List.mem_append_right _ (List.mem_append_right _ (List.mem_append_right _ (List.mem_append_right _ (List.mem_append_right _ (List.mem_append_right _ (List.mem_append_right _ (List.mem_append_left _ h))))))))))))))))))))))))))))))))))))))))))))
theorem mr_35 : ∀ w ∈ wsL_law_r35, w ∈ wsL_law := fun w h => List.mem_append_left _ (List.mem_append_left _ (List.mem_append_left _ (List.mem_append_left _ (List.mem_append_left _ (List.mem_append_left _ (List.mem_append_left _ (List.mem_append_left _ (List.mem_append_left _ (List.mem_append_left _ (List.mem_append_left _ (List.mem_append_right _ (List.mem_append_right _ (List.mem_append_right _ (List.mem_append_right _ (List.mem_append_right _ (List.mem_append_right _ (List.mem_append_right _ (List.mem_append_right _ (List.mem_append_right _ (List.mem_append_right _ (List.mem_append_right _ (List.mem_append_right _ (List.mem_append_right _ (List.mem_append_right _ (List.mem_append_right _ (List.mem_append_right _ (List.mem_append_right _ (List.mem_append_right _ (List.mem_append_right _ (List.mem_append_right _ (List.mem_append_right _ (List.mem_append_right _ (List.mem_append_right _ (List.mem_append_right _ (List.mem_append_right _ (List.mem_append_right _ (List.mem_append_right _ (List.mem_append_right _ (List.mem_append_right _ (List.mem_append_right _ (List.mem_append_right _ (List.mem_append_right _ (List.mem_append_right _ (List.mem_append_right _ (List.mem_append_left _ h)))))))))))))))))))))))))))))))))))))))))))))
theorem mr_36 : ∀ w ∈ wsL_law_r36, w ∈ wsL_law := fun w h => List.mem_append_left _ (List.mem_append_left _ (List.mem_append_left _ (List.mem_append_left _ (List.mem_append_left _ (List.mem_append_left _ (List.mem_append_left _ (List.mem_append_left _ (List.mem_append_left _ (List.mem_append_left _ (List.mem_append_left _ (List.mem_append_right _ (List.mem_append_right _ (List.mem_append_right _ (List.mem_append_right _ (List.mem_append_right _ (List.mem_append_right _ (List.mem_append_right _ (List.mem_append_right _ (List.mem_append_right _ (List.mem_append_right _ (List.mem_append_right _ (List.mem_append_right _ (List.mem_append_right _ (List.mem_append_right _ (List.mem_append_right _ (List.mem_append_right _ (List.mem_append_right _ (List.mem_append_right _ (List.mem_append_right _ (List.mem_append_right _ (List.mem_append_right _ (List.mem_append_right _ (List.mem_append_right _ (List.mem_append_right _ (List.mem_append_right _ (List.mem_append_right _ (List.mem_append_right _ (List.mem_append_right _ (List.mem_append_right _ (List.mem_append_right _ (List.mem_append_right _ (List.mem_append_right _ (List.mem_append_right _ (List.mem_append_right _ (List.mem_append_right _ (List.mem_append_left _ h))))))))))))))))))))))))))))))))))))))))))))))
theorem mr_37 : ∀ w ∈ wsL_law_r37, w ∈ wsL_law := fun w h => List.mem_append_left _ (List.mem_append_left _ (List.mem_append_left _ (List.mem_append_left _ (List.mem_append_left _ (List.mem_append_left _ (List.mem_append_left _ (List.mem_append_left _ (List.mem_append_left _ (List.mem_append_left _ (List.mem_append_left _ (List.mem_append_right _ (List.mem_append_right _ (List.mem_append_right _ (List.mem_append_right _ (List.mem_append_right _ (List.mem_append_right _ (List.mem_append_right _ (List.mem_append_right _ (List.mem_append_right _ (List.mem_append_right _ (List.mem_append_right _ (List.mem_append_right _ (List.mem_append_right _ (List.mem_append_right _ (List.mem_append_right _ (List.mem_append_right _ (List.mem_append_right _ (List.mem_append_right _ (List.mem_append_right _ (List.mem_append_right _ (List.mem_append_right _ (List.mem_append_right _ (List.mem_append_right _ (List.mem_append_right _ (List.mem_append_right _ (List.mem_append_right _ (List.mem_append_right _ (List.mem_append_right _ (List.mem_append_right _ (List.mem_append_right _ (List.mem_append_right _ (List.mem_append_right _ (List.mem_append_right _ (List.mem_append_right _ (List.mem_append_right _ (List.mem_append_right _ (List.mem_append_left _ h)))))))))))))))))))))))))))))))))))))))))))))))
theorem mr_38 : ∀ w ∈ wsL_law_r38, w ∈ wsL_law := fun w h => List.mem_append_left _ (List.mem_append_left _ (List.mem_append_left _ (List.mem_append_left _ (List.mem_append_left _ (List.mem_append_left _ (List.mem_append_left _ (List.mem_append_left _ (List.mem_append_left _ (List.mem_append_left _ (List.mem_append_left _ (List.mem_append_right _ (List.mem_append_right _ (List.mem_append_right _ (List.mem_append_right _ (List.mem_append_right _ (List.mem_append_right _ (List.mem_append_right _ (List.mem_append_right _ (List.mem_append_right _ (List.mem_append_right _ (List.mem_append_right _ (List.mem_append_right _ (List.mem_append_right _ (List.mem_append_right _ (List.mem_append_right _ (List.mem_append_right _ (List.mem_append_right _ (List.mem_append_right _ (List.mem_append_right _ (List.mem_append_right _ (List.mem_append_right _ (List.mem_append_right _ (List.mem_append_right _ (List.mem_append_right _ (List.mem_append_right _ (List.mem_append_right _ (List.mem_append_right _ (List.mem_append_right _ (List.mem_append_right _ (List.mem_append_right _ (List.mem_append_right _ (List.mem_append_right _ (List.mem_append_right _ (List.mem_append_right _ (List.mem_append_right _ (List.mem_append_right _ (List.mem_append_right _ (List.mem_append_left _ h))))))))))))))))))))))))))))))))))))))))))))))))
theorem mr_39 : ∀ w ∈ wsL_law_r39, w ∈ wsL_law := fun w h => List.mem_append_left _ (List.mem_append_left _ (List.mem_append_left _ (List.mem_append_left _ (List.mem_append_left _ (List.mem_append_left _ (List.mem_append_left _ (List.mem_append_left _ (List.mem_append_left _ (List.mem_append_left _ (List.mem_append_left _ (List.mem_append_right _ (List.mem_append_right _ (List.mem_append_right _ (List.mem_append_right _ (List.mem_append_right _ (List.mem_append_right _ (List.mem_append_right _ (List.mem_append_right _ (List.mem_append_right _ (List.mem_append_right _ (List.mem_append_right _ (List.mem_append_right _ (List.mem_append_right _ (List.mem_append_right _ (List.mem_append_right _ (List.mem_append_right _ (List.mem_append_right _ (List.mem_append_right _ (List.mem_append_right _ (List.mem_append_right _ (List.mem_append_right _ (List.mem_append_right _ (List.mem_append_right _ (List.mem_append_right _ (List.mem_append_right _ (List.mem_append_right _ (List.mem_append_right _ (List.mem_append_right _ (List.mem_append_right _ (List.mem_append_right _ (List.mem_append_right _ (List.mem_append_right _ (List.mem_append_right _ (List.mem_append_right _ (List.mem_append_right _ (List.mem_append_right _ (List.mem_append_right _ (List.mem_append_right _ (h)))))))))))))))))))))))))))))))))))))))))))))))))
theorem k_1_0 : Cond.classLink RL 7 RX8 ∈ wsL_law := mr_1 _ (List.mem_of_getElem? (i := 0) rfl)
theorem k_1_1 : Cond.instantiable RX8 13 ∈ wsL_law := mr_1 _ (List.mem_of_getElem? (i := 1) rfl)
theorem k_1_2 : Cond.initialized RX8 ∈ wsL_law := mr_1 _ (List.mem_of_getElem? (i := 2) rfl)
theorem k_1_3 : Cond.classLink RL 10 RX9 ∈ wsL_law := mr_1 _ (List.mem_of_getElem? (i := 3) rfl)
theorem k_1_4 : Cond.instantiable RX9 32 ∈ wsL_law := mr_1 _ (List.mem_of_getElem? (i := 4) rfl)
theorem k_1_5 : Cond.initialized RX9 ∈ wsL_law := mr_1 _ (List.mem_of_getElem? (i := 5) rfl)
theorem k_1_6 : Cond.constantLong RL 13 (4294967295) ∈ wsL_law := mr_1 _ (List.mem_of_getElem? (i := 6) rfl)
theorem k_1_7 : Cond.methodLink RL 9 yX8_init ∈ wsL_law := mr_1 _ (List.mem_of_getElem? (i := 7) rfl)
theorem k_1_8 : Cond.instanceMethod yX8_init ∈ wsL_law := mr_1 _ (List.mem_of_getElem? (i := 8) rfl)
theorem k_1_9 : Cond.code yX8_init cX8_init 1 none ∈ wsL_law := mr_1 _ (List.mem_of_getElem? (i := 9) rfl)
theorem k_1_10 : Cond.methodLink RX8 3 objectInit ∈ wsL_law := mr_1 _ (List.mem_of_getElem? (i := 10) rfl)
theorem k_1_11 : Cond.instanceMethod objectInit ∈ wsL_law := mr_1 _ (List.mem_of_getElem? (i := 11) rfl)
theorem k_1_12 : Cond.code objectInit ⟨#[0xb1]⟩ 1 none ∈ wsL_law := mr_1 _ (List.mem_of_getElem? (i := 12) rfl)
theorem k_1_13 : Cond.classLink RX8 9 RX4 ∈ wsL_law := mr_1 _ (List.mem_of_getElem? (i := 13) rfl)
theorem k_1_14 : Cond.instantiable RX4 4 ∈ wsL_law := mr_1 _ (List.mem_of_getElem? (i := 14) rfl)
theorem k_1_15 : Cond.initialized RX4 ∈ wsL_law := mr_1 _ (List.mem_of_getElem? (i := 15) rfl)
theorem k_1_16 : Cond.fieldLink RX8 12 "SaidWoven" "script" "LSaidWoven$Script;" ∈ wsL_law := mr_1 _ (List.mem_of_getElem? (i := 16) rfl)
theorem k_1_17 : Cond.classLink RX8 16 RX6 ∈ wsL_law := mr_1 _ (List.mem_of_getElem? (i := 17) rfl)
theorem k_1_18 : Cond.instantiable RX6 8 ∈ wsL_law := mr_1 _ (List.mem_of_getElem? (i := 18) rfl)
theorem k_1_19 : Cond.initialized RX6 ∈ wsL_law := mr_1 _ (List.mem_of_getElem? (i := 19) rfl)
theorem k_1_20 : Cond.fieldLink RX8 19 "SaidWoven" "tongue" "LSaidWoven$Tongue;" ∈ wsL_law := mr_1 _ (List.mem_of_getElem? (i := 20) rfl)
theorem k_1_21 : Cond.fieldLink RX8 23 "SaidWoven" "draft" "LSaidWoven$Tongue;" ∈ wsL_law := mr_1 _ (List.mem_of_getElem? (i := 21) rfl)
theorem k_1_22 : Cond.classLink RX8 26 RX0 ∈ wsL_law := mr_1 _ (List.mem_of_getElem? (i := 22) rfl)
theorem k_1_23 : Cond.instantiable RX0 6 ∈ wsL_law := mr_1 _ (List.mem_of_getElem? (i := 23) rfl)
theorem k_2_0 : Cond.initialized RX0 ∈ wsL_law := mr_2 _ (List.mem_of_getElem? (i := 0) rfl)
theorem k_2_1 : Cond.fieldLink RX8 29 "SaidWoven" "book" "LSaidWoven$Book;" ∈ wsL_law := mr_2 _ (List.mem_of_getElem? (i := 1) rfl)
theorem k_2_2 : Cond.fieldLink RX8 33 "SaidWoven" "keptFirst" "LSaidWoven$Book;" ∈ wsL_law := mr_2 _ (List.mem_of_getElem? (i := 2) rfl)
theorem k_2_3 : Cond.fieldLink RX8 36 "SaidWoven" "keptSecond" "LSaidWoven$Book;" ∈ wsL_law := mr_2 _ (List.mem_of_getElem? (i := 3) rfl)
theorem k_2_4 : Cond.classLink RX8 39 RX1 ∈ wsL_law := mr_2 _ (List.mem_of_getElem? (i := 4) rfl)
theorem k_2_5 : Cond.instantiable RX1 3 ∈ wsL_law := mr_2 _ (List.mem_of_getElem? (i := 5) rfl)
theorem k_2_6 : Cond.initialized RX1 ∈ wsL_law := mr_2 _ (List.mem_of_getElem? (i := 6) rfl)
theorem k_2_7 : Cond.fieldLink RX8 42 "SaidWoven" "course" "LSaidWoven$Course;" ∈ wsL_law := mr_2 _ (List.mem_of_getElem? (i := 7) rfl)
theorem k_2_8 : Cond.classLink RX8 46 RX3 ∈ wsL_law := mr_2 _ (List.mem_of_getElem? (i := 8) rfl)
theorem k_2_9 : Cond.instantiable RX3 8 ∈ wsL_law := mr_2 _ (List.mem_of_getElem? (i := 9) rfl)
theorem k_2_10 : Cond.initialized RX3 ∈ wsL_law := mr_2 _ (List.mem_of_getElem? (i := 10) rfl)
theorem k_2_11 : Cond.fieldLink RX8 51 "SaidWoven" "loom" "LSaidWoven$Loom;" ∈ wsL_law := mr_2 _ (List.mem_of_getElem? (i := 11) rfl)
theorem k_2_12 : Cond.classLink RX8 55 RX5 ∈ wsL_law := mr_2 _ (List.mem_of_getElem? (i := 12) rfl)
theorem k_2_13 : Cond.instantiable RX5 5 ∈ wsL_law := mr_2 _ (List.mem_of_getElem? (i := 13) rfl)
theorem k_2_14 : Cond.initialized RX5 ∈ wsL_law := mr_2 _ (List.mem_of_getElem? (i := 14) rfl)
theorem k_2_15 : Cond.fieldLink RX8 58 "SaidWoven" "slipped" "LSaidWoven$Slips;" ∈ wsL_law := mr_2 _ (List.mem_of_getElem? (i := 15) rfl)
theorem k_2_16 : Cond.classLink RX8 62 RX2 ∈ wsL_law := mr_2 _ (List.mem_of_getElem? (i := 16) rfl)
theorem k_2_17 : Cond.instantiable RX2 5 ∈ wsL_law := mr_2 _ (List.mem_of_getElem? (i := 17) rfl)
theorem k_2_18 : Cond.initialized RX2 ∈ wsL_law := mr_2 _ (List.mem_of_getElem? (i := 18) rfl)
theorem k_2_19 : Cond.fieldLink RX8 65 "SaidWoven" "heads" "LSaidWoven$Heads;" ∈ wsL_law := mr_2 _ (List.mem_of_getElem? (i := 19) rfl)
theorem k_2_20 : Cond.arrayClass .int ∈ wsL_law := mr_2 _ (List.mem_of_getElem? (i := 20) rfl)
theorem k_2_21 : Cond.fieldLink RX8 69 "SaidWoven" "slippedRow" "[I" ∈ wsL_law := mr_2 _ (List.mem_of_getElem? (i := 21) rfl)
theorem k_2_22 : Cond.fieldLink RX8 73 "SaidWoven" "farBySet" "[I" ∈ wsL_law := mr_2 _ (List.mem_of_getElem? (i := 22) rfl)
theorem k_2_23 : Cond.instanceMethod yX4_init ∈ wsL_law := mr_2 _ (List.mem_of_getElem? (i := 23) rfl)
theorem k_3_0 : Cond.code yX4_init cX4_init 1 none ∈ wsL_law := mr_3 _ (List.mem_of_getElem? (i := 0) rfl)
theorem k_3_1 : Cond.methodLink RX4 3 objectInit ∈ wsL_law := mr_3 _ (List.mem_of_getElem? (i := 1) rfl)
theorem k_3_2 : Cond.arrayClass .byte ∈ wsL_law := mr_3 _ (List.mem_of_getElem? (i := 2) rfl)
theorem k_3_3 : Cond.fieldLink RX4 9 "SaidWoven$Script" "bytes" "[B" ∈ wsL_law := mr_3 _ (List.mem_of_getElem? (i := 3) rfl)
theorem k_3_4 : Cond.fieldLink RX4 15 "SaidWoven$Script" "numbers" "[I" ∈ wsL_law := mr_3 _ (List.mem_of_getElem? (i := 4) rfl)
theorem k_3_5 : Cond.methodLink RX8 18 yX6_init ∈ wsL_law := mr_3 _ (List.mem_of_getElem? (i := 5) rfl)
theorem k_3_6 : Cond.instanceMethod yX6_init ∈ wsL_law := mr_3 _ (List.mem_of_getElem? (i := 6) rfl)
theorem k_3_7 : Cond.code yX6_init cX6_init 1 none ∈ wsL_law := mr_3 _ (List.mem_of_getElem? (i := 7) rfl)
theorem k_3_8 : Cond.methodLink RX6 3 objectInit ∈ wsL_law := mr_3 _ (List.mem_of_getElem? (i := 8) rfl)
theorem k_3_9 : Cond.fieldLink RX6 9 "SaidWoven$Tongue" "first" "[I" ∈ wsL_law := mr_3 _ (List.mem_of_getElem? (i := 9) rfl)
theorem k_3_10 : Cond.fieldLink RX6 15 "SaidWoven$Tongue" "body" "[I" ∈ wsL_law := mr_3 _ (List.mem_of_getElem? (i := 10) rfl)
theorem k_3_11 : Cond.fieldLink RX6 18 "SaidWoven$Tongue" "last" "[I" ∈ wsL_law := mr_3 _ (List.mem_of_getElem? (i := 11) rfl)
theorem k_3_12 : Cond.fieldLink RX6 21 "SaidWoven$Tongue" "joining" "[I" ∈ wsL_law := mr_3 _ (List.mem_of_getElem? (i := 12) rfl)
theorem k_3_13 : Cond.fieldLink RX6 24 "SaidWoven$Tongue" "hours" "[I" ∈ wsL_law := mr_3 _ (List.mem_of_getElem? (i := 13) rfl)
theorem k_3_14 : Cond.fieldLink RX6 27 "SaidWoven$Tongue" "front" "[I" ∈ wsL_law := mr_3 _ (List.mem_of_getElem? (i := 14) rfl)
theorem k_3_15 : Cond.fieldLink RX6 30 "SaidWoven$Tongue" "rear" "[I" ∈ wsL_law := mr_3 _ (List.mem_of_getElem? (i := 15) rfl)
theorem k_3_16 : Cond.methodLink RX6 33 yX6_forget ∈ wsL_law := mr_3 _ (List.mem_of_getElem? (i := 16) rfl)
theorem k_3_17 : Cond.instanceMethod yX6_forget ∈ wsL_law := mr_3 _ (List.mem_of_getElem? (i := 17) rfl)
theorem k_3_18 : Cond.selects RX6 yX6_forget yX6_forget ∈ wsL_law := mr_3 _ (List.mem_of_getElem? (i := 18) rfl)
theorem k_3_19 : Cond.code yX6_forget cX6_forget 2 none ∈ wsL_law := mr_3 _ (List.mem_of_getElem? (i := 19) rfl)
theorem k_3_20 : Cond.fieldLink RX6 36 "SaidWoven$Tongue" "words" "I" ∈ wsL_law := mr_3 _ (List.mem_of_getElem? (i := 20) rfl)
theorem k_3_21 : Cond.instanceMethod yX0_init ∈ wsL_law := mr_3 _ (List.mem_of_getElem? (i := 21) rfl)
theorem k_3_22 : Cond.code yX0_init cX0_init 1 none ∈ wsL_law := mr_3 _ (List.mem_of_getElem? (i := 22) rfl)
theorem k_3_23 : Cond.methodLink RX0 3 objectInit ∈ wsL_law := mr_3 _ (List.mem_of_getElem? (i := 23) rfl)
theorem k_4_0 : Cond.classLink RX0 9 "[[I" ∈ wsL_law := mr_4 _ (List.mem_of_getElem? (i := 0) rfl)
theorem k_4_1 : Cond.fieldLink RX0 11 "SaidWoven$Book" "words" "[[I" ∈ wsL_law := mr_4 _ (List.mem_of_getElem? (i := 1) rfl)
theorem k_4_2 : Cond.fieldLink RX0 16 "SaidWoven$Book" "sizes" "[I" ∈ wsL_law := mr_4 _ (List.mem_of_getElem? (i := 2) rfl)
theorem k_4_3 : Cond.fieldLink RX0 20 "SaidWoven$Book" "tokens" "[I" ∈ wsL_law := mr_4 _ (List.mem_of_getElem? (i := 3) rfl)
theorem k_4_4 : Cond.instanceMethod yX1_init ∈ wsL_law := mr_4 _ (List.mem_of_getElem? (i := 4) rfl)
theorem k_4_5 : Cond.code yX1_init cX1_init 1 none ∈ wsL_law := mr_4 _ (List.mem_of_getElem? (i := 5) rfl)
theorem k_4_6 : Cond.methodLink RX1 3 objectInit ∈ wsL_law := mr_4 _ (List.mem_of_getElem? (i := 6) rfl)
theorem k_4_7 : Cond.fieldLink RX1 9 "SaidWoven$Course" "places" "[I" ∈ wsL_law := mr_4 _ (List.mem_of_getElem? (i := 7) rfl)
theorem k_4_8 : Cond.arrayClass .boolean ∈ wsL_law := mr_4 _ (List.mem_of_getElem? (i := 8) rfl)
theorem k_4_9 : Cond.fieldLink RX1 15 "SaidWoven$Course" "opens" "[Z" ∈ wsL_law := mr_4 _ (List.mem_of_getElem? (i := 9) rfl)
theorem k_4_10 : Cond.methodLink RX8 48 yX3_init ∈ wsL_law := mr_4 _ (List.mem_of_getElem? (i := 10) rfl)
theorem k_4_11 : Cond.instanceMethod yX3_init ∈ wsL_law := mr_4 _ (List.mem_of_getElem? (i := 11) rfl)
theorem k_4_12 : Cond.code yX3_init cX3_init 2 none ∈ wsL_law := mr_4 _ (List.mem_of_getElem? (i := 12) rfl)
theorem k_4_13 : Cond.methodLink RX3 5 objectInit ∈ wsL_law := mr_4 _ (List.mem_of_getElem? (i := 13) rfl)
theorem k_4_14 : Cond.classLink RX3 11 "[[I" ∈ wsL_law := mr_4 _ (List.mem_of_getElem? (i := 14) rfl)
theorem k_4_15 : Cond.fieldLink RX3 13 "SaidWoven$Loom" "least" "[[I" ∈ wsL_law := mr_4 _ (List.mem_of_getElem? (i := 15) rfl)
theorem k_4_16 : Cond.classLink RX3 16 "[[J" ∈ wsL_law := mr_4 _ (List.mem_of_getElem? (i := 16) rfl)
theorem k_4_17 : Cond.arrayClass .long ∈ wsL_law := mr_4 _ (List.mem_of_getElem? (i := 17) rfl)
theorem k_4_18 : Cond.fieldLink RX3 18 "SaidWoven$Loom" "rows" "[[J" ∈ wsL_law := mr_4 _ (List.mem_of_getElem? (i := 18) rfl)
theorem k_4_19 : Cond.fieldLink RX3 21 "SaidWoven$Loom" "unlikeSpans" "[I" ∈ wsL_law := mr_4 _ (List.mem_of_getElem? (i := 19) rfl)
theorem k_4_20 : Cond.classLink RX3 25 RX7 ∈ wsL_law := mr_4 _ (List.mem_of_getElem? (i := 20) rfl)
theorem k_4_21 : Cond.instantiable RX7 12 ∈ wsL_law := mr_4 _ (List.mem_of_getElem? (i := 21) rfl)
theorem k_4_22 : Cond.initialized RX7 ∈ wsL_law := mr_4 _ (List.mem_of_getElem? (i := 22) rfl)
theorem k_4_23 : Cond.fieldLink RX3 30 "SaidWoven$Loom" "wants" "LSaidWoven$Wants;" ∈ wsL_law := mr_4 _ (List.mem_of_getElem? (i := 23) rfl)
theorem k_5_0 : Cond.methodLink RX3 27 yX7_init ∈ wsL_law := mr_5 _ (List.mem_of_getElem? (i := 0) rfl)
theorem k_5_1 : Cond.instanceMethod yX7_init ∈ wsL_law := mr_5 _ (List.mem_of_getElem? (i := 1) rfl)
theorem k_5_2 : Cond.code yX7_init cX7_init 2 none ∈ wsL_law := mr_5 _ (List.mem_of_getElem? (i := 2) rfl)
theorem k_5_3 : Cond.methodLink RX7 3 objectInit ∈ wsL_law := mr_5 _ (List.mem_of_getElem? (i := 3) rfl)
theorem k_5_4 : Cond.fieldLink RX7 9 "SaidWoven$Wants" "ties" "[I" ∈ wsL_law := mr_5 _ (List.mem_of_getElem? (i := 4) rfl)
theorem k_5_5 : Cond.classLink RX7 15 "[[I" ∈ wsL_law := mr_5 _ (List.mem_of_getElem? (i := 5) rfl)
theorem k_5_6 : Cond.fieldLink RX7 17 "SaidWoven$Wants" "tieBefore" "[[I" ∈ wsL_law := mr_5 _ (List.mem_of_getElem? (i := 6) rfl)
theorem k_5_7 : Cond.fieldLink RX7 20 "SaidWoven$Wants" "tieHere" "[[I" ∈ wsL_law := mr_5 _ (List.mem_of_getElem? (i := 7) rfl)
theorem k_5_8 : Cond.fieldLink RX7 23 "SaidWoven$Wants" "tieBehind" "[[I" ∈ wsL_law := mr_5 _ (List.mem_of_getElem? (i := 8) rfl)
theorem k_5_9 : Cond.fieldLink RX7 26 "SaidWoven$Wants" "tieToken" "[[I" ∈ wsL_law := mr_5 _ (List.mem_of_getElem? (i := 9) rfl)
theorem k_5_10 : Cond.fieldLink RX7 29 "SaidWoven$Wants" "tieWeight" "[[I" ∈ wsL_law := mr_5 _ (List.mem_of_getElem? (i := 10) rfl)
theorem k_5_11 : Cond.fieldLink RX7 32 "SaidWoven$Wants" "spans" "[I" ∈ wsL_law := mr_5 _ (List.mem_of_getElem? (i := 11) rfl)
theorem k_5_12 : Cond.fieldLink RX7 35 "SaidWoven$Wants" "spanFront" "[[I" ∈ wsL_law := mr_5 _ (List.mem_of_getElem? (i := 12) rfl)
theorem k_5_13 : Cond.fieldLink RX7 38 "SaidWoven$Wants" "spanToken" "[[I" ∈ wsL_law := mr_5 _ (List.mem_of_getElem? (i := 13) rfl)
theorem k_5_14 : Cond.fieldLink RX7 41 "SaidWoven$Wants" "spanWeight" "[[I" ∈ wsL_law := mr_5 _ (List.mem_of_getElem? (i := 14) rfl)
theorem k_5_15 : Cond.fieldLink RX7 44 "SaidWoven$Wants" "seat" "[I" ∈ wsL_law := mr_5 _ (List.mem_of_getElem? (i := 15) rfl)
theorem k_5_16 : Cond.fieldLink RX7 47 "SaidWoven$Wants" "tongue" "LSaidWoven$Tongue;" ∈ wsL_law := mr_5 _ (List.mem_of_getElem? (i := 16) rfl)
theorem k_5_17 : Cond.instanceMethod yX5_init ∈ wsL_law := mr_5 _ (List.mem_of_getElem? (i := 17) rfl)
theorem k_5_18 : Cond.code yX5_init cX5_init 1 none ∈ wsL_law := mr_5 _ (List.mem_of_getElem? (i := 18) rfl)
theorem k_5_19 : Cond.methodLink RX5 3 objectInit ∈ wsL_law := mr_5 _ (List.mem_of_getElem? (i := 19) rfl)
theorem k_5_20 : Cond.fieldLink RX5 9 "SaidWoven$Slips" "verses" "[I" ∈ wsL_law := mr_5 _ (List.mem_of_getElem? (i := 20) rfl)
theorem k_5_21 : Cond.fieldLink RX5 15 "SaidWoven$Slips" "places" "[I" ∈ wsL_law := mr_5 _ (List.mem_of_getElem? (i := 21) rfl)
theorem k_5_22 : Cond.fieldLink RX5 18 "SaidWoven$Slips" "words" "[I" ∈ wsL_law := mr_5 _ (List.mem_of_getElem? (i := 22) rfl)
theorem k_5_23 : Cond.fieldLink RX5 21 "SaidWoven$Slips" "ways" "[I" ∈ wsL_law := mr_5 _ (List.mem_of_getElem? (i := 23) rfl)
theorem k_6_0 : Cond.instanceMethod yX2_init ∈ wsL_law := mr_6 _ (List.mem_of_getElem? (i := 0) rfl)
theorem k_6_1 : Cond.code yX2_init cX2_init 1 none ∈ wsL_law := mr_6 _ (List.mem_of_getElem? (i := 1) rfl)
theorem k_6_2 : Cond.methodLink RX2 3 objectInit ∈ wsL_law := mr_6 _ (List.mem_of_getElem? (i := 2) rfl)
theorem k_6_3 : Cond.fieldLink RX2 9 "SaidWoven$Heads" "living" "[Z" ∈ wsL_law := mr_6 _ (List.mem_of_getElem? (i := 3) rfl)
theorem k_6_4 : Cond.fieldLink RX2 15 "SaidWoven$Heads" "years" "[I" ∈ wsL_law := mr_6 _ (List.mem_of_getElem? (i := 4) rfl)
theorem k_6_5 : Cond.fieldLink RX2 19 "SaidWoven$Heads" "verses" "[I" ∈ wsL_law := mr_6 _ (List.mem_of_getElem? (i := 5) rfl)
theorem k_6_6 : Cond.fieldLink RX2 22 "SaidWoven$Heads" "lines" "[I" ∈ wsL_law := mr_6 _ (List.mem_of_getElem? (i := 6) rfl)
theorem k_6_7 : Cond.methodLink RL 12 yX9_init ∈ wsL_law := mr_6 _ (List.mem_of_getElem? (i := 7) rfl)
theorem k_6_8 : Cond.instanceMethod yX9_init ∈ wsL_law := mr_6 _ (List.mem_of_getElem? (i := 8) rfl)
theorem k_6_9 : Cond.code yX9_init cX9_init 1 none ∈ wsL_law := mr_6 _ (List.mem_of_getElem? (i := 9) rfl)
theorem k_6_10 : Cond.methodLink RX9 1 objectInit ∈ wsL_law := mr_6 _ (List.mem_of_getElem? (i := 10) rfl)
theorem k_6_11 : Cond.fieldLink RX9 7 "SaidWovenModel" "text" "[I" ∈ wsL_law := mr_6 _ (List.mem_of_getElem? (i := 11) rfl)
theorem k_6_12 : Cond.fieldLink RX9 13 "SaidWovenModel" "wordMany" "[I" ∈ wsL_law := mr_6 _ (List.mem_of_getElem? (i := 12) rfl)
theorem k_6_13 : Cond.fieldLink RX9 16 "SaidWovenModel" "words" "[I" ∈ wsL_law := mr_6 _ (List.mem_of_getElem? (i := 13) rfl)
theorem k_6_14 : Cond.fieldLink RX9 19 "SaidWovenModel" "joins" "[I" ∈ wsL_law := mr_6 _ (List.mem_of_getElem? (i := 14) rfl)
theorem k_6_15 : Cond.fieldLink RX9 22 "SaidWovenModel" "hours" "[I" ∈ wsL_law := mr_6 _ (List.mem_of_getElem? (i := 15) rfl)
theorem k_6_16 : Cond.fieldLink RX9 25 "SaidWovenModel" "longs" "[I" ∈ wsL_law := mr_6 _ (List.mem_of_getElem? (i := 16) rfl)
theorem k_6_17 : Cond.fieldLink RX9 28 "SaidWovenModel" "verses" "[I" ∈ wsL_law := mr_6 _ (List.mem_of_getElem? (i := 17) rfl)
theorem k_6_18 : Cond.fieldLink RX9 31 "SaidWovenModel" "sayMany" "[I" ∈ wsL_law := mr_6 _ (List.mem_of_getElem? (i := 18) rfl)
theorem k_6_19 : Cond.fieldLink RX9 34 "SaidWovenModel" "sayWay" "[I" ∈ wsL_law := mr_6 _ (List.mem_of_getElem? (i := 19) rfl)
theorem k_6_20 : Cond.fieldLink RX9 37 "SaidWovenModel" "sayWords" "[I" ∈ wsL_law := mr_6 _ (List.mem_of_getElem? (i := 20) rfl)
theorem k_6_21 : Cond.fieldLink RX9 40 "SaidWovenModel" "saying" "[I" ∈ wsL_law := mr_6 _ (List.mem_of_getElem? (i := 21) rfl)
theorem k_6_22 : Cond.fieldLink RX9 43 "SaidWovenModel" "slipRows" "[I" ∈ wsL_law := mr_6 _ (List.mem_of_getElem? (i := 22) rfl)
theorem k_6_23 : Cond.fieldLink RX9 46 "SaidWovenModel" "heads" "[I" ∈ wsL_law := mr_6 _ (List.mem_of_getElem? (i := 23) rfl)
theorem k_7_0 : Cond.fieldLink RX9 49 "SaidWovenModel" "numbers" "[I" ∈ wsL_law := mr_7 _ (List.mem_of_getElem? (i := 0) rfl)
theorem k_7_1 : Cond.fieldLink RX9 52 "SaidWovenModel" "before" "[I" ∈ wsL_law := mr_7 _ (List.mem_of_getElem? (i := 1) rfl)
theorem k_7_2 : Cond.fieldLink RX9 55 "SaidWovenModel" "own" "[I" ∈ wsL_law := mr_7 _ (List.mem_of_getElem? (i := 2) rfl)
theorem k_7_3 : Cond.fieldLink RX9 58 "SaidWovenModel" "after" "[I" ∈ wsL_law := mr_7 _ (List.mem_of_getElem? (i := 3) rfl)
theorem k_7_4 : Cond.fieldLink RX9 61 "SaidWovenModel" "headAt" "[I" ∈ wsL_law := mr_7 _ (List.mem_of_getElem? (i := 4) rfl)
theorem k_7_5 : Cond.fieldLink RX9 64 "SaidWovenModel" "nextOf" "[I" ∈ wsL_law := mr_7 _ (List.mem_of_getElem? (i := 5) rfl)
theorem k_7_6 : Cond.fieldLink RX9 67 "SaidWovenModel" "row" "[I" ∈ wsL_law := mr_7 _ (List.mem_of_getElem? (i := 6) rfl)
theorem k_7_7 : Cond.fieldLink RX9 70 "SaidWovenModel" "goals" "[I" ∈ wsL_law := mr_7 _ (List.mem_of_getElem? (i := 7) rfl)
theorem k_7_8 : Cond.fieldLink RX9 73 "SaidWovenModel" "least" "[I" ∈ wsL_law := mr_7 _ (List.mem_of_getElem? (i := 8) rfl)
theorem k_7_9 : Cond.fieldLink RX9 76 "SaidWovenModel" "many" "[J" ∈ wsL_law := mr_7 _ (List.mem_of_getElem? (i := 9) rfl)
theorem k_7_10 : Cond.fieldLink RX9 80 "SaidWovenModel" "alike" "[J" ∈ wsL_law := mr_7 _ (List.mem_of_getElem? (i := 10) rfl)
theorem k_7_11 : Cond.fieldLink RX9 83 "SaidWovenModel" "shown" "[I" ∈ wsL_law := mr_7 _ (List.mem_of_getElem? (i := 11) rfl)
theorem k_7_12 : Cond.methodLink RX9 86 yX9_noItems ∈ wsL_law := mr_7 _ (List.mem_of_getElem? (i := 12) rfl)
theorem k_7_13 : Cond.instanceMethod yX9_noItems ∈ wsL_law := mr_7 _ (List.mem_of_getElem? (i := 13) rfl)
theorem k_7_14 : Cond.selects RX9 yX9_noItems yX9_noItems ∈ wsL_law := mr_7 _ (List.mem_of_getElem? (i := 14) rfl)
theorem k_7_15 : Cond.code yX9_noItems cX9_noItems 3 none ∈ wsL_law := mr_7 _ (List.mem_of_getElem? (i := 15) rfl)
theorem k_7_16 : Cond.methodLink RL 15 yX8_write ∈ wsL_law := mr_7 _ (List.mem_of_getElem? (i := 16) rfl)
theorem k_7_17 : Cond.instanceMethod yX8_write ∈ wsL_law := mr_7 _ (List.mem_of_getElem? (i := 17) rfl)
theorem k_7_18 : Cond.selects RX8 yX8_write yX8_write ∈ wsL_law := mr_7 _ (List.mem_of_getElem? (i := 18) rfl)
theorem k_7_19 : Cond.code yX8_write cX8_write 4 (some .int) ∈ wsL_law := mr_7 _ (List.mem_of_getElem? (i := 19) rfl)
theorem k_7_20 : Cond.methodLink RX8 76 yX4_append ∈ wsL_law := mr_7 _ (List.mem_of_getElem? (i := 20) rfl)
theorem k_7_21 : Cond.instanceMethod yX4_append ∈ wsL_law := mr_7 _ (List.mem_of_getElem? (i := 21) rfl)
theorem k_7_22 : Cond.selects RX4 yX4_append yX4_append ∈ wsL_law := mr_7 _ (List.mem_of_getElem? (i := 22) rfl)
theorem k_7_23 : Cond.code yX4_append cX4_append 5 (some .int) ∈ wsL_law := mr_7 _ (List.mem_of_getElem? (i := 23) rfl)
theorem k_8_0 : Cond.fieldLink RX4 19 "SaidWoven$Script" "length" "I" ∈ wsL_law := mr_8 _ (List.mem_of_getElem? (i := 0) rfl)
theorem k_8_1 : Cond.methodLink RL 19 yX9_write ∈ wsL_law := mr_8 _ (List.mem_of_getElem? (i := 1) rfl)
theorem k_8_2 : Cond.instanceMethod yX9_write ∈ wsL_law := mr_8 _ (List.mem_of_getElem? (i := 2) rfl)
theorem k_8_3 : Cond.selects RX9 yX9_write yX9_write ∈ wsL_law := mr_8 _ (List.mem_of_getElem? (i := 3) rfl)
theorem k_8_4 : Cond.code yX9_write cX9_write 5 (some .int) ∈ wsL_law := mr_8 _ (List.mem_of_getElem? (i := 4) rfl)
theorem k_8_5 : Cond.constantLong RX9 90 (8) ∈ wsL_law := mr_8 _ (List.mem_of_getElem? (i := 5) rfl)
theorem k_8_6 : Cond.fieldLink RX9 96 "SaidWovenModel" "length" "I" ∈ wsL_law := mr_8 _ (List.mem_of_getElem? (i := 6) rfl)
theorem k_8_7 : Cond.constantLong RX9 100 (255) ∈ wsL_law := mr_8 _ (List.mem_of_getElem? (i := 7) rfl)
theorem k_8_8 : Cond.methodLink RX9 92 yX9_in ∈ wsL_law := mr_8 _ (List.mem_of_getElem? (i := 8) rfl)
theorem k_8_9 : Cond.static yX9_in ∈ wsL_law := mr_8 _ (List.mem_of_getElem? (i := 9) rfl)
theorem k_8_10 : Cond.code yX9_in cX9_in 6 (some .boolean) ∈ wsL_law := mr_8 _ (List.mem_of_getElem? (i := 10) rfl)
theorem k_8_11 : Cond.methodLink RL 20 yX8_wipe ∈ wsL_law := mr_8 _ (List.mem_of_getElem? (i := 11) rfl)
theorem k_8_12 : Cond.instanceMethod yX8_wipe ∈ wsL_law := mr_8 _ (List.mem_of_getElem? (i := 12) rfl)
theorem k_8_13 : Cond.selects RX8 yX8_wipe yX8_wipe ∈ wsL_law := mr_8 _ (List.mem_of_getElem? (i := 13) rfl)
theorem k_8_14 : Cond.code yX8_wipe cX8_wipe 2 (some .int) ∈ wsL_law := mr_8 _ (List.mem_of_getElem? (i := 14) rfl)
theorem k_8_15 : Cond.fieldLink RX8 80 "SaidWoven$Script" "length" "I" ∈ wsL_law := mr_8 _ (List.mem_of_getElem? (i := 15) rfl)
theorem k_8_16 : Cond.methodLink RL 24 yX9_wipe ∈ wsL_law := mr_8 _ (List.mem_of_getElem? (i := 16) rfl)
theorem k_8_17 : Cond.instanceMethod yX9_wipe ∈ wsL_law := mr_8 _ (List.mem_of_getElem? (i := 17) rfl)
theorem k_8_18 : Cond.selects RX9 yX9_wipe yX9_wipe ∈ wsL_law := mr_8 _ (List.mem_of_getElem? (i := 18) rfl)
theorem k_8_19 : Cond.code yX9_wipe cX9_wipe 2 (some .int) ∈ wsL_law := mr_8 _ (List.mem_of_getElem? (i := 19) rfl)
theorem k_8_20 : Cond.methodLink RL 25 yX8_fault ∈ wsL_law := mr_8 _ (List.mem_of_getElem? (i := 20) rfl)
theorem k_8_21 : Cond.instanceMethod yX8_fault ∈ wsL_law := mr_8 _ (List.mem_of_getElem? (i := 21) rfl)
theorem k_8_22 : Cond.selects RX8 yX8_fault yX8_fault ∈ wsL_law := mr_8 _ (List.mem_of_getElem? (i := 22) rfl)
theorem k_8_23 : Cond.code yX8_fault cX8_fault 1 (some .int) ∈ wsL_law := mr_8 _ (List.mem_of_getElem? (i := 23) rfl)
theorem k_9_0 : Cond.methodLink RX8 84 yX4_readInto ∈ wsL_law := mr_9 _ (List.mem_of_getElem? (i := 0) rfl)
theorem k_9_1 : Cond.instanceMethod yX4_readInto ∈ wsL_law := mr_9 _ (List.mem_of_getElem? (i := 1) rfl)
theorem k_9_2 : Cond.selects RX4 yX4_readInto yX4_readInto ∈ wsL_law := mr_9 _ (List.mem_of_getElem? (i := 2) rfl)
theorem k_9_3 : Cond.code yX4_readInto cX4_readInto 4 (some .int) ∈ wsL_law := mr_9 _ (List.mem_of_getElem? (i := 3) rfl)
theorem k_9_4 : Cond.fieldLink RX4 28 "SaidWoven$Script" "at" "I" ∈ wsL_law := mr_9 _ (List.mem_of_getElem? (i := 4) rfl)
theorem k_9_5 : Cond.methodLink RX4 23 yX6_forget ∈ wsL_law := mr_9 _ (List.mem_of_getElem? (i := 5) rfl)
theorem k_9_6 : Cond.methodLink RX4 31 yX4_readItem ∈ wsL_law := mr_9 _ (List.mem_of_getElem? (i := 6) rfl)
theorem k_9_7 : Cond.instanceMethod yX4_readItem ∈ wsL_law := mr_9 _ (List.mem_of_getElem? (i := 7) rfl)
theorem k_9_8 : Cond.selects RX4 yX4_readItem yX4_readItem ∈ wsL_law := mr_9 _ (List.mem_of_getElem? (i := 8) rfl)
theorem k_9_9 : Cond.code yX4_readItem cX4_readItem 3 (some .boolean) ∈ wsL_law := mr_9 _ (List.mem_of_getElem? (i := 9) rfl)
theorem k_9_10 : Cond.methodLink RX4 35 yX4_readNumbers ∈ wsL_law := mr_9 _ (List.mem_of_getElem? (i := 10) rfl)
theorem k_9_11 : Cond.instanceMethod yX4_readNumbers ∈ wsL_law := mr_9 _ (List.mem_of_getElem? (i := 11) rfl)
theorem k_9_12 : Cond.selects RX4 yX4_readNumbers yX4_readNumbers ∈ wsL_law := mr_9 _ (List.mem_of_getElem? (i := 12) rfl)
theorem k_9_13 : Cond.code yX4_readNumbers cX4_readNumbers 6 (some .boolean) ∈ wsL_law := mr_9 _ (List.mem_of_getElem? (i := 13) rfl)
theorem k_9_14 : Cond.methodLink RX4 49 yX4_isFigure ∈ wsL_law := mr_9 _ (List.mem_of_getElem? (i := 14) rfl)
theorem k_9_15 : Cond.static yX4_isFigure ∈ wsL_law := mr_9 _ (List.mem_of_getElem? (i := 15) rfl)
theorem k_9_16 : Cond.code yX4_isFigure cX4_isFigure 1 (some .boolean) ∈ wsL_law := mr_9 _ (List.mem_of_getElem? (i := 16) rfl)
theorem k_9_17 : Cond.methodLink RX4 39 yX6_learnWord ∈ wsL_law := mr_9 _ (List.mem_of_getElem? (i := 17) rfl)
theorem k_9_18 : Cond.instanceMethod yX6_learnWord ∈ wsL_law := mr_9 _ (List.mem_of_getElem? (i := 18) rfl)
theorem k_9_19 : Cond.selects RX6 yX6_learnWord yX6_learnWord ∈ wsL_law := mr_9 _ (List.mem_of_getElem? (i := 19) rfl)
theorem k_9_20 : Cond.code yX6_learnWord cX6_learnWord 3 (some .boolean) ∈ wsL_law := mr_9 _ (List.mem_of_getElem? (i := 20) rfl)
theorem k_9_21 : Cond.methodLink RX4 43 yX6_learnJoining ∈ wsL_law := mr_9 _ (List.mem_of_getElem? (i := 21) rfl)
theorem k_9_22 : Cond.instanceMethod yX6_learnJoining ∈ wsL_law := mr_9 _ (List.mem_of_getElem? (i := 22) rfl)
theorem k_9_23 : Cond.selects RX6 yX6_learnJoining yX6_learnJoining ∈ wsL_law := mr_9 _ (List.mem_of_getElem? (i := 23) rfl)
theorem k_10_0 : Cond.code yX6_learnJoining cX6_learnJoining 3 (some .boolean) ∈ wsL_law := mr_10 _ (List.mem_of_getElem? (i := 0) rfl)
theorem k_10_1 : Cond.methodLink RX4 46 yX6_learnHours ∈ wsL_law := mr_10 _ (List.mem_of_getElem? (i := 1) rfl)
theorem k_10_2 : Cond.instanceMethod yX6_learnHours ∈ wsL_law := mr_10 _ (List.mem_of_getElem? (i := 2) rfl)
theorem k_10_3 : Cond.selects RX6 yX6_learnHours yX6_learnHours ∈ wsL_law := mr_10 _ (List.mem_of_getElem? (i := 3) rfl)
theorem k_10_4 : Cond.code yX6_learnHours cX6_learnHours 2 (some .boolean) ∈ wsL_law := mr_10 _ (List.mem_of_getElem? (i := 4) rfl)
theorem k_10_5 : Cond.methodLink RL 28 yX9_fault ∈ wsL_law := mr_10 _ (List.mem_of_getElem? (i := 5) rfl)
theorem k_10_6 : Cond.instanceMethod yX9_fault ∈ wsL_law := mr_10 _ (List.mem_of_getElem? (i := 6) rfl)
theorem k_10_7 : Cond.selects RX9 yX9_fault yX9_fault ∈ wsL_law := mr_10 _ (List.mem_of_getElem? (i := 7) rfl)
theorem k_10_8 : Cond.code yX9_fault cX9_fault 1 (some .int) ∈ wsL_law := mr_10 _ (List.mem_of_getElem? (i := 8) rfl)
theorem k_10_9 : Cond.methodLink RX9 133 yX9_readAll ∈ wsL_law := mr_10 _ (List.mem_of_getElem? (i := 9) rfl)
theorem k_10_10 : Cond.instanceMethod yX9_readAll ∈ wsL_law := mr_10 _ (List.mem_of_getElem? (i := 10) rfl)
theorem k_10_11 : Cond.selects RX9 yX9_readAll yX9_readAll ∈ wsL_law := mr_10 _ (List.mem_of_getElem? (i := 11) rfl)
theorem k_10_12 : Cond.code yX9_readAll cX9_readAll 2 (some .int) ∈ wsL_law := mr_10 _ (List.mem_of_getElem? (i := 12) rfl)
theorem k_10_13 : Cond.fieldLink RX9 102 "SaidWovenModel" "place" "I" ∈ wsL_law := mr_10 _ (List.mem_of_getElem? (i := 13) rfl)
theorem k_10_14 : Cond.methodLink RX9 130 yX9_item ∈ wsL_law := mr_10 _ (List.mem_of_getElem? (i := 14) rfl)
theorem k_10_15 : Cond.instanceMethod yX9_item ∈ wsL_law := mr_10 _ (List.mem_of_getElem? (i := 15) rfl)
theorem k_10_16 : Cond.selects RX9 yX9_item yX9_item ∈ wsL_law := mr_10 _ (List.mem_of_getElem? (i := 16) rfl)
theorem k_10_17 : Cond.code yX9_item cX9_item 2 (some .boolean) ∈ wsL_law := mr_10 _ (List.mem_of_getElem? (i := 17) rfl)
theorem k_10_18 : Cond.constantLong RX9 128 (4) ∈ wsL_law := mr_10 _ (List.mem_of_getElem? (i := 18) rfl)
theorem k_10_19 : Cond.methodLink RX9 105 yX9_byteAt ∈ wsL_law := mr_10 _ (List.mem_of_getElem? (i := 19) rfl)
theorem k_10_20 : Cond.instanceMethod yX9_byteAt ∈ wsL_law := mr_10 _ (List.mem_of_getElem? (i := 20) rfl)
theorem k_10_21 : Cond.selects RX9 yX9_byteAt yX9_byteAt ∈ wsL_law := mr_10 _ (List.mem_of_getElem? (i := 21) rfl)
theorem k_10_22 : Cond.code yX9_byteAt cX9_byteAt 2 (some .int) ∈ wsL_law := mr_10 _ (List.mem_of_getElem? (i := 22) rfl)
theorem k_10_23 : Cond.methodLink RX9 124 yX9_wordItem ∈ wsL_law := mr_10 _ (List.mem_of_getElem? (i := 23) rfl)
theorem k_11_0 : Cond.instanceMethod yX9_wordItem ∈ wsL_law := mr_11 _ (List.mem_of_getElem? (i := 0) rfl)
theorem k_11_1 : Cond.selects RX9 yX9_wordItem yX9_wordItem ∈ wsL_law := mr_11 _ (List.mem_of_getElem? (i := 1) rfl)
theorem k_11_2 : Cond.code yX9_wordItem cX9_wordItem 3 (some .boolean) ∈ wsL_law := mr_11 _ (List.mem_of_getElem? (i := 2) rfl)
theorem k_11_3 : Cond.methodLink RX9 117 yX9_figures ∈ wsL_law := mr_11 _ (List.mem_of_getElem? (i := 3) rfl)
theorem k_11_4 : Cond.instanceMethod yX9_figures ∈ wsL_law := mr_11 _ (List.mem_of_getElem? (i := 4) rfl)
theorem k_11_5 : Cond.selects RX9 yX9_figures yX9_figures ∈ wsL_law := mr_11 _ (List.mem_of_getElem? (i := 5) rfl)
theorem k_11_6 : Cond.code yX9_figures cX9_figures 5 (some .boolean) ∈ wsL_law := mr_11 _ (List.mem_of_getElem? (i := 6) rfl)
theorem k_11_7 : Cond.constantLong RX9 109 (48) ∈ wsL_law := mr_11 _ (List.mem_of_getElem? (i := 7) rfl)
theorem k_11_8 : Cond.constantLong RX9 111 (57) ∈ wsL_law := mr_11 _ (List.mem_of_getElem? (i := 8) rfl)
theorem k_11_9 : Cond.constantLong RX9 113 (2) ∈ wsL_law := mr_11 _ (List.mem_of_getElem? (i := 9) rfl)
theorem k_11_10 : Cond.methodLink RX9 121 yX9_isEdge ∈ wsL_law := mr_11 _ (List.mem_of_getElem? (i := 10) rfl)
theorem k_11_11 : Cond.static yX9_isEdge ∈ wsL_law := mr_11 _ (List.mem_of_getElem? (i := 11) rfl)
theorem k_11_12 : Cond.code yX9_isEdge cX9_isEdge 1 (some .boolean) ∈ wsL_law := mr_11 _ (List.mem_of_getElem? (i := 12) rfl)
theorem k_11_13 : Cond.constantLong RX9 115 (7) ∈ wsL_law := mr_11 _ (List.mem_of_getElem? (i := 13) rfl)
theorem k_11_14 : Cond.methodLink RL 29 yX8_lay ∈ wsL_law := mr_11 _ (List.mem_of_getElem? (i := 14) rfl)
theorem k_11_15 : Cond.instanceMethod yX8_lay ∈ wsL_law := mr_11 _ (List.mem_of_getElem? (i := 15) rfl)
theorem k_11_16 : Cond.selects RX8 yX8_lay yX8_lay ∈ wsL_law := mr_11 _ (List.mem_of_getElem? (i := 16) rfl)
theorem k_11_17 : Cond.code yX8_lay cX8_lay 2 (some .int) ∈ wsL_law := mr_11 _ (List.mem_of_getElem? (i := 17) rfl)
theorem k_11_18 : Cond.fieldLink RX8 94 "SaidWoven$Slips" "count" "I" ∈ wsL_law := mr_11 _ (List.mem_of_getElem? (i := 18) rfl)
theorem k_11_19 : Cond.fieldLink RX8 97 "SaidWoven$Heads" "count" "I" ∈ wsL_law := mr_11 _ (List.mem_of_getElem? (i := 19) rfl)
theorem k_11_20 : Cond.fieldLink RX8 98 "SaidWoven" "keptCount" "I" ∈ wsL_law := mr_11 _ (List.mem_of_getElem? (i := 20) rfl)
theorem k_11_21 : Cond.fieldLink RX8 101 "SaidWoven$Tongue" "words" "I" ∈ wsL_law := mr_11 _ (List.mem_of_getElem? (i := 21) rfl)
theorem k_11_22 : Cond.methodLink RX8 88 yX6_joinAll ∈ wsL_law := mr_11 _ (List.mem_of_getElem? (i := 22) rfl)
theorem k_11_23 : Cond.instanceMethod yX6_joinAll ∈ wsL_law := mr_11 _ (List.mem_of_getElem? (i := 23) rfl)
theorem k_12_0 : Cond.selects RX6 yX6_joinAll yX6_joinAll ∈ wsL_law := mr_12 _ (List.mem_of_getElem? (i := 0) rfl)
theorem k_12_1 : Cond.code yX6_joinAll cX6_joinAll 5 none ∈ wsL_law := mr_12 _ (List.mem_of_getElem? (i := 1) rfl)
theorem k_12_2 : Cond.methodLink RX8 91 yX0_empty ∈ wsL_law := mr_12 _ (List.mem_of_getElem? (i := 2) rfl)
theorem k_12_3 : Cond.instanceMethod yX0_empty ∈ wsL_law := mr_12 _ (List.mem_of_getElem? (i := 3) rfl)
theorem k_12_4 : Cond.selects RX0 yX0_empty yX0_empty ∈ wsL_law := mr_12 _ (List.mem_of_getElem? (i := 4) rfl)
theorem k_12_5 : Cond.code yX0_empty cX0_empty 2 none ∈ wsL_law := mr_12 _ (List.mem_of_getElem? (i := 5) rfl)
theorem k_12_6 : Cond.fieldLink RX0 23 "SaidWoven$Book" "tokenCount" "I" ∈ wsL_law := mr_12 _ (List.mem_of_getElem? (i := 6) rfl)
theorem k_12_7 : Cond.methodLink RL 32 yX9_lay ∈ wsL_law := mr_12 _ (List.mem_of_getElem? (i := 7) rfl)
theorem k_12_8 : Cond.instanceMethod yX9_lay ∈ wsL_law := mr_12 _ (List.mem_of_getElem? (i := 8) rfl)
theorem k_12_9 : Cond.selects RX9 yX9_lay yX9_lay ∈ wsL_law := mr_12 _ (List.mem_of_getElem? (i := 9) rfl)
theorem k_12_10 : Cond.code yX9_lay cX9_lay 2 (some .int) ∈ wsL_law := mr_12 _ (List.mem_of_getElem? (i := 10) rfl)
theorem k_12_11 : Cond.fieldLink RX9 137 "SaidWovenModel" "keptMany" "I" ∈ wsL_law := mr_12 _ (List.mem_of_getElem? (i := 11) rfl)
theorem k_12_12 : Cond.fieldLink RX9 140 "SaidWovenModel" "slipMany" "I" ∈ wsL_law := mr_12 _ (List.mem_of_getElem? (i := 12) rfl)
theorem k_12_13 : Cond.fieldLink RX9 143 "SaidWovenModel" "headMany" "I" ∈ wsL_law := mr_12 _ (List.mem_of_getElem? (i := 13) rfl)
theorem k_12_14 : Cond.methodLink RL 33 yX8_joined ∈ wsL_law := mr_12 _ (List.mem_of_getElem? (i := 14) rfl)
theorem k_12_15 : Cond.instanceMethod yX8_joined ∈ wsL_law := mr_12 _ (List.mem_of_getElem? (i := 15) rfl)
theorem k_12_16 : Cond.selects RX8 yX8_joined yX8_joined ∈ wsL_law := mr_12 _ (List.mem_of_getElem? (i := 16) rfl)
theorem k_12_17 : Cond.code yX8_joined cX8_joined 3 (some .int) ∈ wsL_law := mr_12 _ (List.mem_of_getElem? (i := 17) rfl)
theorem k_12_18 : Cond.fieldLink RX8 108 "SaidWoven$Tongue" "joining" "[I" ∈ wsL_law := mr_12 _ (List.mem_of_getElem? (i := 18) rfl)
theorem k_12_19 : Cond.methodLink RX8 104 yX8_isBelow ∈ wsL_law := mr_12 _ (List.mem_of_getElem? (i := 19) rfl)
theorem k_12_20 : Cond.static yX8_isBelow ∈ wsL_law := mr_12 _ (List.mem_of_getElem? (i := 20) rfl)
theorem k_12_21 : Cond.code yX8_isBelow cX8_isBelow 2 (some .boolean) ∈ wsL_law := mr_12 _ (List.mem_of_getElem? (i := 21) rfl)
theorem k_12_22 : Cond.methodLink RL 37 yX9_joined ∈ wsL_law := mr_12 _ (List.mem_of_getElem? (i := 22) rfl)
theorem k_12_23 : Cond.instanceMethod yX9_joined ∈ wsL_law := mr_12 _ (List.mem_of_getElem? (i := 23) rfl)
theorem k_13_0 : Cond.selects RX9 yX9_joined yX9_joined ∈ wsL_law := mr_13 _ (List.mem_of_getElem? (i := 0) rfl)
theorem k_13_1 : Cond.code yX9_joined cX9_joined 3 (some .int) ∈ wsL_law := mr_13 _ (List.mem_of_getElem? (i := 1) rfl)
theorem k_13_2 : Cond.methodLink RL 38 yX8_add ∈ wsL_law := mr_13 _ (List.mem_of_getElem? (i := 2) rfl)
theorem k_13_3 : Cond.instanceMethod yX8_add ∈ wsL_law := mr_13 _ (List.mem_of_getElem? (i := 3) rfl)
theorem k_13_4 : Cond.selects RX8 yX8_add yX8_add ∈ wsL_law := mr_13 _ (List.mem_of_getElem? (i := 4) rfl)
theorem k_13_5 : Cond.code yX8_add cX8_add 4 (some .int) ∈ wsL_law := mr_13 _ (List.mem_of_getElem? (i := 5) rfl)
theorem k_13_6 : Cond.fieldLink RX8 111 "SaidWoven$Book" "sizes" "[I" ∈ wsL_law := mr_13 _ (List.mem_of_getElem? (i := 6) rfl)
theorem k_13_7 : Cond.fieldLink RX8 114 "SaidWoven$Book" "words" "[[I" ∈ wsL_law := mr_13 _ (List.mem_of_getElem? (i := 7) rfl)
theorem k_13_8 : Cond.methodLink RL 41 yX9_add ∈ wsL_law := mr_13 _ (List.mem_of_getElem? (i := 8) rfl)
theorem k_13_9 : Cond.instanceMethod yX9_add ∈ wsL_law := mr_13 _ (List.mem_of_getElem? (i := 9) rfl)
theorem k_13_10 : Cond.selects RX9 yX9_add yX9_add ∈ wsL_law := mr_13 _ (List.mem_of_getElem? (i := 10) rfl)
theorem k_13_11 : Cond.code yX9_add cX9_add 3 (some .int) ∈ wsL_law := mr_13 _ (List.mem_of_getElem? (i := 11) rfl)
theorem k_13_12 : Cond.methodLink RX9 148 yX9_isVerse ∈ wsL_law := mr_13 _ (List.mem_of_getElem? (i := 12) rfl)
theorem k_13_13 : Cond.static yX9_isVerse ∈ wsL_law := mr_13 _ (List.mem_of_getElem? (i := 13) rfl)
theorem k_13_14 : Cond.code yX9_isVerse cX9_isVerse 1 (some .boolean) ∈ wsL_law := mr_13 _ (List.mem_of_getElem? (i := 14) rfl)
theorem k_13_15 : Cond.constantLong RX9 146 (5) ∈ wsL_law := mr_13 _ (List.mem_of_getElem? (i := 15) rfl)
theorem k_13_16 : Cond.methodLink RX9 151 yX9_isWord ∈ wsL_law := mr_13 _ (List.mem_of_getElem? (i := 16) rfl)
theorem k_13_17 : Cond.instanceMethod yX9_isWord ∈ wsL_law := mr_13 _ (List.mem_of_getElem? (i := 17) rfl)
theorem k_13_18 : Cond.selects RX9 yX9_isWord yX9_isWord ∈ wsL_law := mr_13 _ (List.mem_of_getElem? (i := 18) rfl)
theorem k_13_19 : Cond.code yX9_isWord cX9_isWord 2 (some .boolean) ∈ wsL_law := mr_13 _ (List.mem_of_getElem? (i := 19) rfl)
theorem k_13_20 : Cond.methodLink RL 42 yX8_clear ∈ wsL_law := mr_13 _ (List.mem_of_getElem? (i := 20) rfl)
theorem k_13_21 : Cond.instanceMethod yX8_clear ∈ wsL_law := mr_13 _ (List.mem_of_getElem? (i := 21) rfl)
theorem k_13_22 : Cond.selects RX8 yX8_clear yX8_clear ∈ wsL_law := mr_13 _ (List.mem_of_getElem? (i := 22) rfl)
theorem k_13_23 : Cond.code yX8_clear cX8_clear 3 (some .int) ∈ wsL_law := mr_13 _ (List.mem_of_getElem? (i := 23) rfl)
theorem k_14_0 : Cond.methodLink RL 46 yX9_clear ∈ wsL_law := mr_14 _ (List.mem_of_getElem? (i := 0) rfl)
theorem k_14_1 : Cond.instanceMethod yX9_clear ∈ wsL_law := mr_14 _ (List.mem_of_getElem? (i := 1) rfl)
theorem k_14_2 : Cond.selects RX9 yX9_clear yX9_clear ∈ wsL_law := mr_14 _ (List.mem_of_getElem? (i := 2) rfl)
theorem k_14_3 : Cond.code yX9_clear cX9_clear 3 (some .int) ∈ wsL_law := mr_14 _ (List.mem_of_getElem? (i := 3) rfl)
theorem k_14_4 : Cond.methodLink RL 47 yX8_word ∈ wsL_law := mr_14 _ (List.mem_of_getElem? (i := 4) rfl)
theorem k_14_5 : Cond.instanceMethod yX8_word ∈ wsL_law := mr_14 _ (List.mem_of_getElem? (i := 5) rfl)
theorem k_14_6 : Cond.selects RX8 yX8_word yX8_word ∈ wsL_law := mr_14 _ (List.mem_of_getElem? (i := 6) rfl)
theorem k_14_7 : Cond.code yX8_word cX8_word 3 (some .int) ∈ wsL_law := mr_14 _ (List.mem_of_getElem? (i := 7) rfl)
theorem k_14_8 : Cond.methodLink RL 50 yX9_word ∈ wsL_law := mr_14 _ (List.mem_of_getElem? (i := 8) rfl)
theorem k_14_9 : Cond.instanceMethod yX9_word ∈ wsL_law := mr_14 _ (List.mem_of_getElem? (i := 9) rfl)
theorem k_14_10 : Cond.selects RX9 yX9_word yX9_word ∈ wsL_law := mr_14 _ (List.mem_of_getElem? (i := 10) rfl)
theorem k_14_11 : Cond.code yX9_word cX9_word 3 (some .int) ∈ wsL_law := mr_14 _ (List.mem_of_getElem? (i := 11) rfl)
theorem k_14_12 : Cond.methodLink RX9 154 yX9_isPlace ∈ wsL_law := mr_14 _ (List.mem_of_getElem? (i := 12) rfl)
theorem k_14_13 : Cond.static yX9_isPlace ∈ wsL_law := mr_14 _ (List.mem_of_getElem? (i := 13) rfl)
theorem k_14_14 : Cond.code yX9_isPlace cX9_isPlace 1 (some .boolean) ∈ wsL_law := mr_14 _ (List.mem_of_getElem? (i := 14) rfl)
theorem k_14_15 : Cond.methodLink RL 51 yX8_said ∈ wsL_law := mr_14 _ (List.mem_of_getElem? (i := 15) rfl)
theorem k_14_16 : Cond.instanceMethod yX8_said ∈ wsL_law := mr_14 _ (List.mem_of_getElem? (i := 16) rfl)
theorem k_14_17 : Cond.selects RX8 yX8_said yX8_said ∈ wsL_law := mr_14 _ (List.mem_of_getElem? (i := 17) rfl)
theorem k_14_18 : Cond.code yX8_said cX8_said 4 (some .int) ∈ wsL_law := mr_14 _ (List.mem_of_getElem? (i := 18) rfl)
theorem k_14_19 : Cond.fieldLink RX8 121 "SaidWoven$Course" "count" "I" ∈ wsL_law := mr_14 _ (List.mem_of_getElem? (i := 19) rfl)
theorem k_14_20 : Cond.methodLink RX8 117 yX1_follow ∈ wsL_law := mr_14 _ (List.mem_of_getElem? (i := 20) rfl)
theorem k_14_21 : Cond.instanceMethod yX1_follow ∈ wsL_law := mr_14 _ (List.mem_of_getElem? (i := 21) rfl)
theorem k_14_22 : Cond.selects RX1 yX1_follow yX1_follow ∈ wsL_law := mr_14 _ (List.mem_of_getElem? (i := 22) rfl)
theorem k_14_23 : Cond.code yX1_follow cX1_follow 3 none ∈ wsL_law := mr_14 _ (List.mem_of_getElem? (i := 23) rfl)
theorem k_15_0 : Cond.fieldLink RX1 19 "SaidWoven$Course" "count" "I" ∈ wsL_law := mr_15 _ (List.mem_of_getElem? (i := 0) rfl)
theorem k_15_1 : Cond.fieldLink RX1 23 "SaidWoven$Course" "ROW" "[I" ∈ wsL_law := mr_15 _ (List.mem_of_getElem? (i := 1) rfl)
theorem k_15_2 : Cond.fieldLink RX1 33 "SaidWoven$Course" "BRAID" "[I" ∈ wsL_law := mr_15 _ (List.mem_of_getElem? (i := 2) rfl)
theorem k_15_3 : Cond.fieldLink RX1 36 "SaidWoven$Course" "THREES" "[I" ∈ wsL_law := mr_15 _ (List.mem_of_getElem? (i := 3) rfl)
theorem k_15_4 : Cond.methodLink RX1 26 yX1_group ∈ wsL_law := mr_15 _ (List.mem_of_getElem? (i := 4) rfl)
theorem k_15_5 : Cond.instanceMethod yX1_group ∈ wsL_law := mr_15 _ (List.mem_of_getElem? (i := 5) rfl)
theorem k_15_6 : Cond.selects RX1 yX1_group yX1_group ∈ wsL_law := mr_15 _ (List.mem_of_getElem? (i := 6) rfl)
theorem k_15_7 : Cond.code yX1_group cX1_group 5 none ∈ wsL_law := mr_15 _ (List.mem_of_getElem? (i := 7) rfl)
theorem k_15_8 : Cond.methodLink RX1 30 yX1_groups ∈ wsL_law := mr_15 _ (List.mem_of_getElem? (i := 8) rfl)
theorem k_15_9 : Cond.instanceMethod yX1_groups ∈ wsL_law := mr_15 _ (List.mem_of_getElem? (i := 9) rfl)
theorem k_15_10 : Cond.selects RX1 yX1_groups yX1_groups ∈ wsL_law := mr_15 _ (List.mem_of_getElem? (i := 10) rfl)
theorem k_15_11 : Cond.code yX1_groups cX1_groups 5 none ∈ wsL_law := mr_15 _ (List.mem_of_getElem? (i := 11) rfl)
theorem k_15_12 : Cond.methodLink RX8 122 yX1_token ∈ wsL_law := mr_15 _ (List.mem_of_getElem? (i := 12) rfl)
theorem k_15_13 : Cond.instanceMethod yX1_token ∈ wsL_law := mr_15 _ (List.mem_of_getElem? (i := 13) rfl)
theorem k_15_14 : Cond.selects RX1 yX1_token yX1_token ∈ wsL_law := mr_15 _ (List.mem_of_getElem? (i := 14) rfl)
theorem k_15_15 : Cond.code yX1_token cX1_token 6 (some .int) ∈ wsL_law := mr_15 _ (List.mem_of_getElem? (i := 15) rfl)
theorem k_15_16 : Cond.methodLink RX1 39 yX1_before ∈ wsL_law := mr_15 _ (List.mem_of_getElem? (i := 16) rfl)
theorem k_15_17 : Cond.instanceMethod yX1_before ∈ wsL_law := mr_15 _ (List.mem_of_getElem? (i := 17) rfl)
theorem k_15_18 : Cond.selects RX1 yX1_before yX1_before ∈ wsL_law := mr_15 _ (List.mem_of_getElem? (i := 18) rfl)
theorem k_15_19 : Cond.code yX1_before cX1_before 2 (some .int) ∈ wsL_law := mr_15 _ (List.mem_of_getElem? (i := 19) rfl)
theorem k_15_20 : Cond.methodLink RX1 43 yX1_behind ∈ wsL_law := mr_15 _ (List.mem_of_getElem? (i := 20) rfl)
theorem k_15_21 : Cond.instanceMethod yX1_behind ∈ wsL_law := mr_15 _ (List.mem_of_getElem? (i := 21) rfl)
theorem k_15_22 : Cond.selects RX1 yX1_behind yX1_behind ∈ wsL_law := mr_15 _ (List.mem_of_getElem? (i := 22) rfl)
theorem k_15_23 : Cond.code yX1_behind cX1_behind 2 (some .int) ∈ wsL_law := mr_15 _ (List.mem_of_getElem? (i := 23) rfl)
theorem k_16_0 : Cond.methodLink RX1 46 yX6_token ∈ wsL_law := mr_16 _ (List.mem_of_getElem? (i := 0) rfl)
theorem k_16_1 : Cond.instanceMethod yX6_token ∈ wsL_law := mr_16 _ (List.mem_of_getElem? (i := 1) rfl)
theorem k_16_2 : Cond.selects RX6 yX6_token yX6_token ∈ wsL_law := mr_16 _ (List.mem_of_getElem? (i := 2) rfl)
theorem k_16_3 : Cond.code yX6_token cX6_token 4 (some .int) ∈ wsL_law := mr_16 _ (List.mem_of_getElem? (i := 3) rfl)
theorem k_16_4 : Cond.methodLink RL 55 yX9_said ∈ wsL_law := mr_16 _ (List.mem_of_getElem? (i := 4) rfl)
theorem k_16_5 : Cond.instanceMethod yX9_said ∈ wsL_law := mr_16 _ (List.mem_of_getElem? (i := 5) rfl)
theorem k_16_6 : Cond.selects RX9 yX9_said yX9_said ∈ wsL_law := mr_16 _ (List.mem_of_getElem? (i := 6) rfl)
theorem k_16_7 : Cond.code yX9_said cX9_said 4 (some .int) ∈ wsL_law := mr_16 _ (List.mem_of_getElem? (i := 7) rfl)
theorem k_16_8 : Cond.fieldLink RX9 157 "SaidWovenModel" "tokenMany" "I" ∈ wsL_law := mr_16 _ (List.mem_of_getElem? (i := 8) rfl)
theorem k_16_9 : Cond.methodLink RX9 195 yX9_isWay ∈ wsL_law := mr_16 _ (List.mem_of_getElem? (i := 9) rfl)
theorem k_16_10 : Cond.static yX9_isWay ∈ wsL_law := mr_16 _ (List.mem_of_getElem? (i := 10) rfl)
theorem k_16_11 : Cond.code yX9_isWay cX9_isWay 1 (some .boolean) ∈ wsL_law := mr_16 _ (List.mem_of_getElem? (i := 11) rfl)
theorem k_16_12 : Cond.methodLink RX9 198 yX9_layWays ∈ wsL_law := mr_16 _ (List.mem_of_getElem? (i := 12) rfl)
theorem k_16_13 : Cond.instanceMethod yX9_layWays ∈ wsL_law := mr_16 _ (List.mem_of_getElem? (i := 13) rfl)
theorem k_16_14 : Cond.selects RX9 yX9_layWays yX9_layWays ∈ wsL_law := mr_16 _ (List.mem_of_getElem? (i := 14) rfl)
theorem k_16_15 : Cond.code yX9_layWays cX9_layWays 5 none ∈ wsL_law := mr_16 _ (List.mem_of_getElem? (i := 15) rfl)
theorem k_16_16 : Cond.methodLink RX9 176 yX9_has ∈ wsL_law := mr_16 _ (List.mem_of_getElem? (i := 16) rfl)
theorem k_16_17 : Cond.static yX9_has ∈ wsL_law := mr_16 _ (List.mem_of_getElem? (i := 17) rfl)
theorem k_16_18 : Cond.code yX9_has cX9_has 2 (some .boolean) ∈ wsL_law := mr_16 _ (List.mem_of_getElem? (i := 18) rfl)
theorem k_16_19 : Cond.methodLink RX9 180 yX9_layWay ∈ wsL_law := mr_16 _ (List.mem_of_getElem? (i := 19) rfl)
theorem k_16_20 : Cond.instanceMethod yX9_layWay ∈ wsL_law := mr_16 _ (List.mem_of_getElem? (i := 20) rfl)
theorem k_16_21 : Cond.selects RX9 yX9_layWay yX9_layWay ∈ wsL_law := mr_16 _ (List.mem_of_getElem? (i := 21) rfl)
theorem k_16_22 : Cond.code yX9_layWay cX9_layWay 5 none ∈ wsL_law := mr_16 _ (List.mem_of_getElem? (i := 22) rfl)
theorem k_16_23 : Cond.fieldLink RX9 160 "SaidWovenModel" "groupBegins" "Z" ∈ wsL_law := mr_16 _ (List.mem_of_getElem? (i := 23) rfl)
theorem k_17_0 : Cond.methodLink RX9 164 yX9_sayPlace ∈ wsL_law := mr_17 _ (List.mem_of_getElem? (i := 0) rfl)
theorem k_17_1 : Cond.instanceMethod yX9_sayPlace ∈ wsL_law := mr_17 _ (List.mem_of_getElem? (i := 1) rfl)
theorem k_17_2 : Cond.selects RX9 yX9_sayPlace yX9_sayPlace ∈ wsL_law := mr_17 _ (List.mem_of_getElem? (i := 2) rfl)
theorem k_17_3 : Cond.code yX9_sayPlace cX9_sayPlace 2 none ∈ wsL_law := mr_17 _ (List.mem_of_getElem? (i := 3) rfl)
theorem k_17_4 : Cond.methodLink RX9 167 yX9_sayPair ∈ wsL_law := mr_17 _ (List.mem_of_getElem? (i := 4) rfl)
theorem k_17_5 : Cond.instanceMethod yX9_sayPair ∈ wsL_law := mr_17 _ (List.mem_of_getElem? (i := 5) rfl)
theorem k_17_6 : Cond.selects RX9 yX9_sayPair yX9_sayPair ∈ wsL_law := mr_17 _ (List.mem_of_getElem? (i := 6) rfl)
theorem k_17_7 : Cond.code yX9_sayPair cX9_sayPair 2 none ∈ wsL_law := mr_17 _ (List.mem_of_getElem? (i := 7) rfl)
theorem k_17_8 : Cond.methodLink RX9 173 yX9_braid ∈ wsL_law := mr_17 _ (List.mem_of_getElem? (i := 8) rfl)
theorem k_17_9 : Cond.instanceMethod yX9_braid ∈ wsL_law := mr_17 _ (List.mem_of_getElem? (i := 9) rfl)
theorem k_17_10 : Cond.selects RX9 yX9_braid yX9_braid ∈ wsL_law := mr_17 _ (List.mem_of_getElem? (i := 10) rfl)
theorem k_17_11 : Cond.code yX9_braid cX9_braid 2 none ∈ wsL_law := mr_17 _ (List.mem_of_getElem? (i := 11) rfl)
theorem k_17_12 : Cond.methodLink RX9 170 yX9_sayBack ∈ wsL_law := mr_17 _ (List.mem_of_getElem? (i := 12) rfl)
theorem k_17_13 : Cond.instanceMethod yX9_sayBack ∈ wsL_law := mr_17 _ (List.mem_of_getElem? (i := 13) rfl)
theorem k_17_14 : Cond.selects RX9 yX9_sayBack yX9_sayBack ∈ wsL_law := mr_17 _ (List.mem_of_getElem? (i := 14) rfl)
theorem k_17_15 : Cond.code yX9_sayBack cX9_sayBack 2 none ∈ wsL_law := mr_17 _ (List.mem_of_getElem? (i := 15) rfl)
theorem k_17_16 : Cond.methodLink RX9 184 yX9_later ∈ wsL_law := mr_17 _ (List.mem_of_getElem? (i := 16) rfl)
theorem k_17_17 : Cond.static yX9_later ∈ wsL_law := mr_17 _ (List.mem_of_getElem? (i := 17) rfl)
theorem k_17_18 : Cond.code yX9_later cX9_later 2 (some .int) ∈ wsL_law := mr_17 _ (List.mem_of_getElem? (i := 18) rfl)
theorem k_17_19 : Cond.methodLink RX9 201 yX9_layRow ∈ wsL_law := mr_17 _ (List.mem_of_getElem? (i := 19) rfl)
theorem k_17_20 : Cond.instanceMethod yX9_layRow ∈ wsL_law := mr_17 _ (List.mem_of_getElem? (i := 20) rfl)
theorem k_17_21 : Cond.selects RX9 yX9_layRow yX9_layRow ∈ wsL_law := mr_17 _ (List.mem_of_getElem? (i := 21) rfl)
theorem k_17_22 : Cond.code yX9_layRow cX9_layRow 3 none ∈ wsL_law := mr_17 _ (List.mem_of_getElem? (i := 22) rfl)
theorem k_17_23 : Cond.methodLink RX9 204 yX9_tokenAt ∈ wsL_law := mr_17 _ (List.mem_of_getElem? (i := 23) rfl)
theorem k_18_0 : Cond.instanceMethod yX9_tokenAt ∈ wsL_law := mr_18 _ (List.mem_of_getElem? (i := 0) rfl)
theorem k_18_1 : Cond.selects RX9 yX9_tokenAt yX9_tokenAt ∈ wsL_law := mr_18 _ (List.mem_of_getElem? (i := 1) rfl)
theorem k_18_2 : Cond.code yX9_tokenAt cX9_tokenAt 2 (some .int) ∈ wsL_law := mr_18 _ (List.mem_of_getElem? (i := 2) rfl)
theorem k_18_3 : Cond.methodLink RX9 188 yX9_rowAt ∈ wsL_law := mr_18 _ (List.mem_of_getElem? (i := 3) rfl)
theorem k_18_4 : Cond.instanceMethod yX9_rowAt ∈ wsL_law := mr_18 _ (List.mem_of_getElem? (i := 4) rfl)
theorem k_18_5 : Cond.selects RX9 yX9_rowAt yX9_rowAt ∈ wsL_law := mr_18 _ (List.mem_of_getElem? (i := 5) rfl)
theorem k_18_6 : Cond.code yX9_rowAt cX9_rowAt 2 (some .int) ∈ wsL_law := mr_18 _ (List.mem_of_getElem? (i := 6) rfl)
theorem k_18_7 : Cond.methodLink RX9 191 yX9_tokenOf ∈ wsL_law := mr_18 _ (List.mem_of_getElem? (i := 7) rfl)
theorem k_18_8 : Cond.instanceMethod yX9_tokenOf ∈ wsL_law := mr_18 _ (List.mem_of_getElem? (i := 8) rfl)
theorem k_18_9 : Cond.selects RX9 yX9_tokenOf yX9_tokenOf ∈ wsL_law := mr_18 _ (List.mem_of_getElem? (i := 9) rfl)
theorem k_18_10 : Cond.code yX9_tokenOf cX9_tokenOf 8 (some .int) ∈ wsL_law := mr_18 _ (List.mem_of_getElem? (i := 10) rfl)
theorem k_18_11 : Cond.methodLink RL 56 yX8_say ∈ wsL_law := mr_18 _ (List.mem_of_getElem? (i := 11) rfl)
theorem k_18_12 : Cond.instanceMethod yX8_say ∈ wsL_law := mr_18 _ (List.mem_of_getElem? (i := 12) rfl)
theorem k_18_13 : Cond.selects RX8 yX8_say yX8_say ∈ wsL_law := mr_18 _ (List.mem_of_getElem? (i := 13) rfl)
theorem k_18_14 : Cond.code yX8_say cX8_say 4 (some .int) ∈ wsL_law := mr_18 _ (List.mem_of_getElem? (i := 14) rfl)
theorem k_18_15 : Cond.fieldLink RX8 126 "SaidWoven$Book" "tokens" "[I" ∈ wsL_law := mr_18 _ (List.mem_of_getElem? (i := 15) rfl)
theorem k_18_16 : Cond.fieldLink RX8 129 "SaidWoven$Book" "tokenCount" "I" ∈ wsL_law := mr_18 _ (List.mem_of_getElem? (i := 16) rfl)
theorem k_18_17 : Cond.fieldLink RX8 132 "SaidWoven$Book" "way" "I" ∈ wsL_law := mr_18 _ (List.mem_of_getElem? (i := 17) rfl)
theorem k_18_18 : Cond.fieldLink RX8 135 "SaidWoven$Book" "places" "I" ∈ wsL_law := mr_18 _ (List.mem_of_getElem? (i := 18) rfl)
theorem k_18_19 : Cond.methodLink RL 59 yX9_say ∈ wsL_law := mr_18 _ (List.mem_of_getElem? (i := 19) rfl)
theorem k_18_20 : Cond.instanceMethod yX9_say ∈ wsL_law := mr_18 _ (List.mem_of_getElem? (i := 20) rfl)
theorem k_18_21 : Cond.selects RX9 yX9_say yX9_say ∈ wsL_law := mr_18 _ (List.mem_of_getElem? (i := 21) rfl)
theorem k_18_22 : Cond.code yX9_say cX9_say 4 (some .int) ∈ wsL_law := mr_18 _ (List.mem_of_getElem? (i := 22) rfl)
theorem k_18_23 : Cond.methodLink RL 60 yX8_alter ∈ wsL_law := mr_18 _ (List.mem_of_getElem? (i := 23) rfl)
theorem k_19_0 : Cond.instanceMethod yX8_alter ∈ wsL_law := mr_19 _ (List.mem_of_getElem? (i := 0) rfl)
theorem k_19_1 : Cond.selects RX8 yX8_alter yX8_alter ∈ wsL_law := mr_19 _ (List.mem_of_getElem? (i := 1) rfl)
theorem k_19_2 : Cond.code yX8_alter cX8_alter 4 (some .int) ∈ wsL_law := mr_19 _ (List.mem_of_getElem? (i := 2) rfl)
theorem k_19_3 : Cond.methodLink RL 63 yX9_alter ∈ wsL_law := mr_19 _ (List.mem_of_getElem? (i := 3) rfl)
theorem k_19_4 : Cond.instanceMethod yX9_alter ∈ wsL_law := mr_19 _ (List.mem_of_getElem? (i := 4) rfl)
theorem k_19_5 : Cond.selects RX9 yX9_alter yX9_alter ∈ wsL_law := mr_19 _ (List.mem_of_getElem? (i := 5) rfl)
theorem k_19_6 : Cond.code yX9_alter cX9_alter 4 (some .int) ∈ wsL_law := mr_19 _ (List.mem_of_getElem? (i := 6) rfl)
theorem k_19_7 : Cond.constantLong RX9 207 (1023) ∈ wsL_law := mr_19 _ (List.mem_of_getElem? (i := 7) rfl)
theorem k_19_8 : Cond.methodLink RL 64 yX8_soundSo ∈ wsL_law := mr_19 _ (List.mem_of_getElem? (i := 8) rfl)
theorem k_19_9 : Cond.instanceMethod yX8_soundSo ∈ wsL_law := mr_19 _ (List.mem_of_getElem? (i := 9) rfl)
theorem k_19_10 : Cond.selects RX8 yX8_soundSo yX8_soundSo ∈ wsL_law := mr_19 _ (List.mem_of_getElem? (i := 10) rfl)
theorem k_19_11 : Cond.code yX8_soundSo cX8_soundSo 1 (some .long) ∈ wsL_law := mr_19 _ (List.mem_of_getElem? (i := 11) rfl)
theorem k_19_12 : Cond.constantLong RX8 138 (-2) ∈ wsL_law := mr_19 _ (List.mem_of_getElem? (i := 12) rfl)
theorem k_19_13 : Cond.fieldLink RX8 143 "SaidWoven$Loom" "fewest" "I" ∈ wsL_law := mr_19 _ (List.mem_of_getElem? (i := 13) rfl)
theorem k_19_14 : Cond.fieldLink RX8 146 "SaidWoven$Loom" "nearestRows" "J" ∈ wsL_law := mr_19 _ (List.mem_of_getElem? (i := 14) rfl)
theorem k_19_15 : Cond.methodLink RX8 140 yX8_weighSaying ∈ wsL_law := mr_19 _ (List.mem_of_getElem? (i := 15) rfl)
theorem k_19_16 : Cond.instanceMethod yX8_weighSaying ∈ wsL_law := mr_19 _ (List.mem_of_getElem? (i := 16) rfl)
theorem k_19_17 : Cond.selects RX8 yX8_weighSaying yX8_weighSaying ∈ wsL_law := mr_19 _ (List.mem_of_getElem? (i := 17) rfl)
theorem k_19_18 : Cond.code yX8_weighSaying cX8_weighSaying 2 none ∈ wsL_law := mr_19 _ (List.mem_of_getElem? (i := 18) rfl)
theorem k_19_19 : Cond.fieldLink RX8 248 "SaidWoven$Loom" "wants" "LSaidWoven$Wants;" ∈ wsL_law := mr_19 _ (List.mem_of_getElem? (i := 19) rfl)
theorem k_19_20 : Cond.fieldLink RX8 255 "SaidWoven$Course" "places" "[I" ∈ wsL_law := mr_19 _ (List.mem_of_getElem? (i := 20) rfl)
theorem k_19_21 : Cond.methodLink RX8 244 yX3_begin ∈ wsL_law := mr_19 _ (List.mem_of_getElem? (i := 21) rfl)
theorem k_19_22 : Cond.instanceMethod yX3_begin ∈ wsL_law := mr_19 _ (List.mem_of_getElem? (i := 22) rfl)
theorem k_19_23 : Cond.selects RX3 yX3_begin yX3_begin ∈ wsL_law := mr_19 _ (List.mem_of_getElem? (i := 23) rfl)
theorem k_20_0 : Cond.code yX3_begin cX3_begin 3 none ∈ wsL_law := mr_20 _ (List.mem_of_getElem? (i := 0) rfl)
theorem k_20_1 : Cond.fieldLink RX3 34 "SaidWoven$Loom" "places" "I" ∈ wsL_law := mr_20 _ (List.mem_of_getElem? (i := 1) rfl)
theorem k_20_2 : Cond.fieldLink RX3 38 "SaidWoven$Tongue" "words" "I" ∈ wsL_law := mr_20 _ (List.mem_of_getElem? (i := 2) rfl)
theorem k_20_3 : Cond.fieldLink RX3 43 "SaidWoven$Loom" "words" "I" ∈ wsL_law := mr_20 _ (List.mem_of_getElem? (i := 3) rfl)
theorem k_20_4 : Cond.methodLink RX3 44 yX7_begin ∈ wsL_law := mr_20 _ (List.mem_of_getElem? (i := 4) rfl)
theorem k_20_5 : Cond.instanceMethod yX7_begin ∈ wsL_law := mr_20 _ (List.mem_of_getElem? (i := 5) rfl)
theorem k_20_6 : Cond.selects RX7 yX7_begin yX7_begin ∈ wsL_law := mr_20 _ (List.mem_of_getElem? (i := 6) rfl)
theorem k_20_7 : Cond.code yX7_begin cX7_begin 3 none ∈ wsL_law := mr_20 _ (List.mem_of_getElem? (i := 7) rfl)
theorem k_20_8 : Cond.methodLink RX8 252 yX1_before ∈ wsL_law := mr_20 _ (List.mem_of_getElem? (i := 8) rfl)
theorem k_20_9 : Cond.methodLink RX8 257 yX1_behind ∈ wsL_law := mr_20 _ (List.mem_of_getElem? (i := 9) rfl)
theorem k_20_10 : Cond.methodLink RX8 260 yX7_want ∈ wsL_law := mr_20 _ (List.mem_of_getElem? (i := 10) rfl)
theorem k_20_11 : Cond.instanceMethod yX7_want ∈ wsL_law := mr_20 _ (List.mem_of_getElem? (i := 11) rfl)
theorem k_20_12 : Cond.selects RX7 yX7_want yX7_want ∈ wsL_law := mr_20 _ (List.mem_of_getElem? (i := 12) rfl)
theorem k_20_13 : Cond.code yX7_want cX7_want 5 none ∈ wsL_law := mr_20 _ (List.mem_of_getElem? (i := 13) rfl)
theorem k_20_14 : Cond.methodLink RX7 51 Lib.Math.abs.name ∈ wsL_law := mr_20 _ (List.mem_of_getElem? (i := 14) rfl)
theorem k_20_15 : Cond.static Lib.Math.abs.name ∈ wsL_law := mr_20 _ (List.mem_of_getElem? (i := 15) rfl)
theorem k_20_16 : Cond.initialized "java/lang/Math" ∈ wsL_law := mr_20 _ (List.mem_of_getElem? (i := 16) rfl)
theorem k_20_17 : Cond.code Lib.Math.abs.name Lib.Math.abs.code 1 (some .int) ∈ wsL_law := mr_20 _ (List.mem_of_getElem? (i := 17) rfl)
theorem k_20_18 : Cond.methodLink RX7 57 yX7_wantSpan ∈ wsL_law := mr_20 _ (List.mem_of_getElem? (i := 18) rfl)
theorem k_20_19 : Cond.instanceMethod yX7_wantSpan ∈ wsL_law := mr_20 _ (List.mem_of_getElem? (i := 19) rfl)
theorem k_20_20 : Cond.selects RX7 yX7_wantSpan yX7_wantSpan ∈ wsL_law := mr_20 _ (List.mem_of_getElem? (i := 20) rfl)
theorem k_20_21 : Cond.code yX7_wantSpan cX7_wantSpan 5 none ∈ wsL_law := mr_20 _ (List.mem_of_getElem? (i := 21) rfl)
theorem k_20_22 : Cond.methodLink RX7 61 yX7_wantTie ∈ wsL_law := mr_20 _ (List.mem_of_getElem? (i := 22) rfl)
theorem k_20_23 : Cond.instanceMethod yX7_wantTie ∈ wsL_law := mr_20 _ (List.mem_of_getElem? (i := 23) rfl)
theorem k_21_0 : Cond.selects RX7 yX7_wantTie yX7_wantTie ∈ wsL_law := mr_21 _ (List.mem_of_getElem? (i := 0) rfl)
theorem k_21_1 : Cond.code yX7_wantTie cX7_wantTie 10 none ∈ wsL_law := mr_21 _ (List.mem_of_getElem? (i := 1) rfl)
theorem k_21_2 : Cond.methodLink RX7 65 Lib.Math.max.name ∈ wsL_law := mr_21 _ (List.mem_of_getElem? (i := 2) rfl)
theorem k_21_3 : Cond.static Lib.Math.max.name ∈ wsL_law := mr_21 _ (List.mem_of_getElem? (i := 3) rfl)
theorem k_21_4 : Cond.code Lib.Math.max.name Lib.Math.max.code 2 (some .int) ∈ wsL_law := mr_21 _ (List.mem_of_getElem? (i := 4) rfl)
theorem k_21_5 : Cond.methodLink RX7 69 yX7_seatOf ∈ wsL_law := mr_21 _ (List.mem_of_getElem? (i := 5) rfl)
theorem k_21_6 : Cond.static yX7_seatOf ∈ wsL_law := mr_21 _ (List.mem_of_getElem? (i := 6) rfl)
theorem k_21_7 : Cond.code yX7_seatOf cX7_seatOf 2 (some .int) ∈ wsL_law := mr_21 _ (List.mem_of_getElem? (i := 7) rfl)
theorem k_21_8 : Cond.methodLink RX8 266 yX3_weigh ∈ wsL_law := mr_21 _ (List.mem_of_getElem? (i := 8) rfl)
theorem k_21_9 : Cond.instanceMethod yX3_weigh ∈ wsL_law := mr_21 _ (List.mem_of_getElem? (i := 9) rfl)
theorem k_21_10 : Cond.selects RX3 yX3_weigh yX3_weigh ∈ wsL_law := mr_21 _ (List.mem_of_getElem? (i := 10) rfl)
theorem k_21_11 : Cond.code yX3_weigh cX3_weigh 3 none ∈ wsL_law := mr_21 _ (List.mem_of_getElem? (i := 11) rfl)
theorem k_21_12 : Cond.constant RX3 54 (1000000) ∈ wsL_law := mr_21 _ (List.mem_of_getElem? (i := 12) rfl)
theorem k_21_13 : Cond.fieldLink RX3 55 "SaidWoven$Loom" "fewest" "I" ∈ wsL_law := mr_21 _ (List.mem_of_getElem? (i := 13) rfl)
theorem k_21_14 : Cond.fieldLink RX3 58 "SaidWoven$Loom" "nearestRows" "J" ∈ wsL_law := mr_21 _ (List.mem_of_getElem? (i := 14) rfl)
theorem k_21_15 : Cond.methodLink RX3 47 yX7_unlikeSpans ∈ wsL_law := mr_21 _ (List.mem_of_getElem? (i := 15) rfl)
theorem k_21_16 : Cond.instanceMethod yX7_unlikeSpans ∈ wsL_law := mr_21 _ (List.mem_of_getElem? (i := 16) rfl)
theorem k_21_17 : Cond.selects RX7 yX7_unlikeSpans yX7_unlikeSpans ∈ wsL_law := mr_21 _ (List.mem_of_getElem? (i := 17) rfl)
theorem k_21_18 : Cond.code yX7_unlikeSpans cX7_unlikeSpans 5 (some .int) ∈ wsL_law := mr_21 _ (List.mem_of_getElem? (i := 18) rfl)
theorem k_21_19 : Cond.methodLink RX3 50 yX3_weighWord ∈ wsL_law := mr_21 _ (List.mem_of_getElem? (i := 19) rfl)
theorem k_21_20 : Cond.instanceMethod yX3_weighWord ∈ wsL_law := mr_21 _ (List.mem_of_getElem? (i := 20) rfl)
theorem k_21_21 : Cond.selects RX3 yX3_weighWord yX3_weighWord ∈ wsL_law := mr_21 _ (List.mem_of_getElem? (i := 21) rfl)
theorem k_21_22 : Cond.code yX3_weighWord cX3_weighWord 10 none ∈ wsL_law := mr_21 _ (List.mem_of_getElem? (i := 22) rfl)
theorem k_21_23 : Cond.methodLink RX3 66 yX7_spansAt ∈ wsL_law := mr_21 _ (List.mem_of_getElem? (i := 23) rfl)
theorem k_22_0 : Cond.instanceMethod yX7_spansAt ∈ wsL_law := mr_22 _ (List.mem_of_getElem? (i := 0) rfl)
theorem k_22_1 : Cond.selects RX7 yX7_spansAt yX7_spansAt ∈ wsL_law := mr_22 _ (List.mem_of_getElem? (i := 1) rfl)
theorem k_22_2 : Cond.code yX7_spansAt cX7_spansAt 2 (some .int) ∈ wsL_law := mr_22 _ (List.mem_of_getElem? (i := 2) rfl)
theorem k_22_3 : Cond.methodLink RX3 70 yX3_stateOf ∈ wsL_law := mr_22 _ (List.mem_of_getElem? (i := 3) rfl)
theorem k_22_4 : Cond.instanceMethod yX3_stateOf ∈ wsL_law := mr_22 _ (List.mem_of_getElem? (i := 4) rfl)
theorem k_22_5 : Cond.selects RX3 yX3_stateOf yX3_stateOf ∈ wsL_law := mr_22 _ (List.mem_of_getElem? (i := 5) rfl)
theorem k_22_6 : Cond.code yX3_stateOf cX3_stateOf 4 (some .int) ∈ wsL_law := mr_22 _ (List.mem_of_getElem? (i := 6) rfl)
theorem k_22_7 : Cond.methodLink RX3 77 yX7_rightHalves ∈ wsL_law := mr_22 _ (List.mem_of_getElem? (i := 7) rfl)
theorem k_22_8 : Cond.instanceMethod yX7_rightHalves ∈ wsL_law := mr_22 _ (List.mem_of_getElem? (i := 8) rfl)
theorem k_22_9 : Cond.selects RX7 yX7_rightHalves yX7_rightHalves ∈ wsL_law := mr_22 _ (List.mem_of_getElem? (i := 9) rfl)
theorem k_22_10 : Cond.code yX7_rightHalves cX7_rightHalves 10 (some .int) ∈ wsL_law := mr_22 _ (List.mem_of_getElem? (i := 10) rfl)
theorem k_22_11 : Cond.fieldLink RX7 78 "SaidWoven$Tongue" "front" "[I" ∈ wsL_law := mr_22 _ (List.mem_of_getElem? (i := 11) rfl)
theorem k_22_12 : Cond.fieldLink RX7 81 "SaidWoven$Tongue" "rear" "[I" ∈ wsL_law := mr_22 _ (List.mem_of_getElem? (i := 12) rfl)
theorem k_22_13 : Cond.methodLink RX3 74 yX7_unlikeTies ∈ wsL_law := mr_22 _ (List.mem_of_getElem? (i := 13) rfl)
theorem k_22_14 : Cond.instanceMethod yX7_unlikeTies ∈ wsL_law := mr_22 _ (List.mem_of_getElem? (i := 14) rfl)
theorem k_22_15 : Cond.selects RX7 yX7_unlikeTies yX7_unlikeTies ∈ wsL_law := mr_22 _ (List.mem_of_getElem? (i := 15) rfl)
theorem k_22_16 : Cond.code yX7_unlikeTies cX7_unlikeTies 7 (some .int) ∈ wsL_law := mr_22 _ (List.mem_of_getElem? (i := 16) rfl)
theorem k_22_17 : Cond.methodLink RX7 72 yX6_token ∈ wsL_law := mr_22 _ (List.mem_of_getElem? (i := 17) rfl)
theorem k_22_18 : Cond.methodLink RX3 81 yX3_take ∈ wsL_law := mr_22 _ (List.mem_of_getElem? (i := 18) rfl)
theorem k_22_19 : Cond.instanceMethod yX3_take ∈ wsL_law := mr_22 _ (List.mem_of_getElem? (i := 19) rfl)
theorem k_22_20 : Cond.selects RX3 yX3_take yX3_take ∈ wsL_law := mr_22 _ (List.mem_of_getElem? (i := 20) rfl)
theorem k_22_21 : Cond.code yX3_take cX3_take 6 none ∈ wsL_law := mr_22 _ (List.mem_of_getElem? (i := 21) rfl)
theorem k_22_22 : Cond.methodLink RX3 62 yX3_weighStart ∈ wsL_law := mr_22 _ (List.mem_of_getElem? (i := 22) rfl)
theorem k_22_23 : Cond.instanceMethod yX3_weighStart ∈ wsL_law := mr_22 _ (List.mem_of_getElem? (i := 23) rfl)
theorem k_23_0 : Cond.selects RX3 yX3_weighStart yX3_weighStart ∈ wsL_law := mr_23 _ (List.mem_of_getElem? (i := 0) rfl)
theorem k_23_1 : Cond.code yX3_weighStart cX3_weighStart 4 none ∈ wsL_law := mr_23 _ (List.mem_of_getElem? (i := 1) rfl)
theorem k_23_2 : Cond.methodLink RL 68 yX9_soundSo ∈ wsL_law := mr_23 _ (List.mem_of_getElem? (i := 2) rfl)
theorem k_23_3 : Cond.instanceMethod yX9_soundSo ∈ wsL_law := mr_23 _ (List.mem_of_getElem? (i := 3) rfl)
theorem k_23_4 : Cond.selects RX9 yX9_soundSo yX9_soundSo ∈ wsL_law := mr_23 _ (List.mem_of_getElem? (i := 4) rfl)
theorem k_23_5 : Cond.code yX9_soundSo cX9_soundSo 1 (some .long) ∈ wsL_law := mr_23 _ (List.mem_of_getElem? (i := 5) rfl)
theorem k_23_6 : Cond.constantLong RX9 223 (-2) ∈ wsL_law := mr_23 _ (List.mem_of_getElem? (i := 6) rfl)
theorem k_23_7 : Cond.methodLink RX9 225 yX9_laySaying ∈ wsL_law := mr_23 _ (List.mem_of_getElem? (i := 7) rfl)
theorem k_23_8 : Cond.instanceMethod yX9_laySaying ∈ wsL_law := mr_23 _ (List.mem_of_getElem? (i := 8) rfl)
theorem k_23_9 : Cond.selects RX9 yX9_laySaying yX9_laySaying ∈ wsL_law := mr_23 _ (List.mem_of_getElem? (i := 9) rfl)
theorem k_23_10 : Cond.code yX9_laySaying cX9_laySaying 2 none ∈ wsL_law := mr_23 _ (List.mem_of_getElem? (i := 10) rfl)
theorem k_23_11 : Cond.methodLink RX9 220 yX9_layLeast ∈ wsL_law := mr_23 _ (List.mem_of_getElem? (i := 11) rfl)
theorem k_23_12 : Cond.instanceMethod yX9_layLeast ∈ wsL_law := mr_23 _ (List.mem_of_getElem? (i := 12) rfl)
theorem k_23_13 : Cond.selects RX9 yX9_layLeast yX9_layLeast ∈ wsL_law := mr_23 _ (List.mem_of_getElem? (i := 13) rfl)
theorem k_23_14 : Cond.code yX9_layLeast cX9_layLeast 5 none ∈ wsL_law := mr_23 _ (List.mem_of_getElem? (i := 14) rfl)
theorem k_23_15 : Cond.methodLink RX9 209 yX9_layState ∈ wsL_law := mr_23 _ (List.mem_of_getElem? (i := 15) rfl)
theorem k_23_16 : Cond.instanceMethod yX9_layState ∈ wsL_law := mr_23 _ (List.mem_of_getElem? (i := 16) rfl)
theorem k_23_17 : Cond.selects RX9 yX9_layState yX9_layState ∈ wsL_law := mr_23 _ (List.mem_of_getElem? (i := 17) rfl)
theorem k_23_18 : Cond.code yX9_layState cX9_layState 9 none ∈ wsL_law := mr_23 _ (List.mem_of_getElem? (i := 18) rfl)
theorem k_23_19 : Cond.constant RX9 216 (100000) ∈ wsL_law := mr_23 _ (List.mem_of_getElem? (i := 19) rfl)
theorem k_23_20 : Cond.methodLink RX9 213 yX9_at ∈ wsL_law := mr_23 _ (List.mem_of_getElem? (i := 20) rfl)
theorem k_23_21 : Cond.static yX9_at ∈ wsL_law := mr_23 _ (List.mem_of_getElem? (i := 21) rfl)
theorem k_23_22 : Cond.code yX9_at cX9_at 3 (some .int) ∈ wsL_law := mr_23 _ (List.mem_of_getElem? (i := 22) rfl)
theorem k_23_23 : Cond.methodLink RX9 217 yX9_unlikeAt ∈ wsL_law := mr_23 _ (List.mem_of_getElem? (i := 23) rfl)
theorem k_24_0 : Cond.instanceMethod yX9_unlikeAt ∈ wsL_law := mr_24 _ (List.mem_of_getElem? (i := 0) rfl)
theorem k_24_1 : Cond.selects RX9 yX9_unlikeAt yX9_unlikeAt ∈ wsL_law := mr_24 _ (List.mem_of_getElem? (i := 1) rfl)
theorem k_24_2 : Cond.code yX9_unlikeAt cX9_unlikeAt 4 (some .int) ∈ wsL_law := mr_24 _ (List.mem_of_getElem? (i := 2) rfl)
theorem k_24_3 : Cond.methodLink RL 69 yX8_nearest ∈ wsL_law := mr_24 _ (List.mem_of_getElem? (i := 3) rfl)
theorem k_24_4 : Cond.instanceMethod yX8_nearest ∈ wsL_law := mr_24 _ (List.mem_of_getElem? (i := 4) rfl)
theorem k_24_5 : Cond.selects RX8 yX8_nearest yX8_nearest ∈ wsL_law := mr_24 _ (List.mem_of_getElem? (i := 5) rfl)
theorem k_24_6 : Cond.code yX8_nearest cX8_nearest 2 (some .int) ∈ wsL_law := mr_24 _ (List.mem_of_getElem? (i := 6) rfl)
theorem k_24_7 : Cond.methodLink RX8 150 yX3_lowestRow ∈ wsL_law := mr_24 _ (List.mem_of_getElem? (i := 7) rfl)
theorem k_24_8 : Cond.instanceMethod yX3_lowestRow ∈ wsL_law := mr_24 _ (List.mem_of_getElem? (i := 8) rfl)
theorem k_24_9 : Cond.selects RX3 yX3_lowestRow yX3_lowestRow ∈ wsL_law := mr_24 _ (List.mem_of_getElem? (i := 9) rfl)
theorem k_24_10 : Cond.code yX3_lowestRow cX3_lowestRow 9 none ∈ wsL_law := mr_24 _ (List.mem_of_getElem? (i := 10) rfl)
theorem k_24_11 : Cond.methodLink RX3 85 yX3_unlikeWith ∈ wsL_law := mr_24 _ (List.mem_of_getElem? (i := 11) rfl)
theorem k_24_12 : Cond.instanceMethod yX3_unlikeWith ∈ wsL_law := mr_24 _ (List.mem_of_getElem? (i := 12) rfl)
theorem k_24_13 : Cond.selects RX3 yX3_unlikeWith yX3_unlikeWith ∈ wsL_law := mr_24 _ (List.mem_of_getElem? (i := 13) rfl)
theorem k_24_14 : Cond.code yX3_unlikeWith cX3_unlikeWith 7 (some .int) ∈ wsL_law := mr_24 _ (List.mem_of_getElem? (i := 14) rfl)
theorem k_24_15 : Cond.methodLink RL 72 yX9_nearest ∈ wsL_law := mr_24 _ (List.mem_of_getElem? (i := 15) rfl)
theorem k_24_16 : Cond.instanceMethod yX9_nearest ∈ wsL_law := mr_24 _ (List.mem_of_getElem? (i := 16) rfl)
theorem k_24_17 : Cond.selects RX9 yX9_nearest yX9_nearest ∈ wsL_law := mr_24 _ (List.mem_of_getElem? (i := 17) rfl)
theorem k_24_18 : Cond.code yX9_nearest cX9_nearest 7 (some .int) ∈ wsL_law := mr_24 _ (List.mem_of_getElem? (i := 18) rfl)
theorem k_24_19 : Cond.methodLink RL 73 yX8_rivals ∈ wsL_law := mr_24 _ (List.mem_of_getElem? (i := 19) rfl)
theorem k_24_20 : Cond.instanceMethod yX8_rivals ∈ wsL_law := mr_24 _ (List.mem_of_getElem? (i := 20) rfl)
theorem k_24_21 : Cond.selects RX8 yX8_rivals yX8_rivals ∈ wsL_law := mr_24 _ (List.mem_of_getElem? (i := 21) rfl)
theorem k_24_22 : Cond.code yX8_rivals cX8_rivals 1 (some .long) ∈ wsL_law := mr_24 _ (List.mem_of_getElem? (i := 22) rfl)
theorem k_24_23 : Cond.methodLink RL 76 yX9_rivals ∈ wsL_law := mr_24 _ (List.mem_of_getElem? (i := 23) rfl)
theorem k_25_0 : Cond.instanceMethod yX9_rivals ∈ wsL_law := mr_25 _ (List.mem_of_getElem? (i := 0) rfl)
theorem k_25_1 : Cond.selects RX9 yX9_rivals yX9_rivals ∈ wsL_law := mr_25 _ (List.mem_of_getElem? (i := 1) rfl)
theorem k_25_2 : Cond.code yX9_rivals cX9_rivals 1 (some .long) ∈ wsL_law := mr_25 _ (List.mem_of_getElem? (i := 2) rfl)
theorem k_25_3 : Cond.methodLink RL 77 yX8_far ∈ wsL_law := mr_25 _ (List.mem_of_getElem? (i := 3) rfl)
theorem k_25_4 : Cond.instanceMethod yX8_far ∈ wsL_law := mr_25 _ (List.mem_of_getElem? (i := 4) rfl)
theorem k_25_5 : Cond.selects RX8 yX8_far yX8_far ∈ wsL_law := mr_25 _ (List.mem_of_getElem? (i := 5) rfl)
theorem k_25_6 : Cond.code yX8_far cX8_far 7 (some .int) ∈ wsL_law := mr_25 _ (List.mem_of_getElem? (i := 6) rfl)
theorem k_25_7 : Cond.methodLink RX8 162 Lib.Math.max.name ∈ wsL_law := mr_25 _ (List.mem_of_getElem? (i := 7) rfl)
theorem k_25_8 : Cond.methodLink RX8 154 yX8_refusalToCompare ∈ wsL_law := mr_25 _ (List.mem_of_getElem? (i := 8) rfl)
theorem k_25_9 : Cond.instanceMethod yX8_refusalToCompare ∈ wsL_law := mr_25 _ (List.mem_of_getElem? (i := 9) rfl)
theorem k_25_10 : Cond.selects RX8 yX8_refusalToCompare yX8_refusalToCompare ∈ wsL_law := mr_25 _ (List.mem_of_getElem? (i := 10) rfl)
theorem k_25_11 : Cond.code yX8_refusalToCompare cX8_refusalToCompare 2 (some .int) ∈ wsL_law := mr_25 _ (List.mem_of_getElem? (i := 11) rfl)
theorem k_25_12 : Cond.methodLink RX8 158 yX8_farBy ∈ wsL_law := mr_25 _ (List.mem_of_getElem? (i := 12) rfl)
theorem k_25_13 : Cond.instanceMethod yX8_farBy ∈ wsL_law := mr_25 _ (List.mem_of_getElem? (i := 13) rfl)
theorem k_25_14 : Cond.selects RX8 yX8_farBy yX8_farBy ∈ wsL_law := mr_25 _ (List.mem_of_getElem? (i := 14) rfl)
theorem k_25_15 : Cond.code yX8_farBy cX8_farBy 5 (some .int) ∈ wsL_law := mr_25 _ (List.mem_of_getElem? (i := 15) rfl)
theorem k_25_16 : Cond.methodLink RX8 269 yX8_wantAsSaid ∈ wsL_law := mr_25 _ (List.mem_of_getElem? (i := 16) rfl)
theorem k_25_17 : Cond.instanceMethod yX8_wantAsSaid ∈ wsL_law := mr_25 _ (List.mem_of_getElem? (i := 17) rfl)
theorem k_25_18 : Cond.selects RX8 yX8_wantAsSaid yX8_wantAsSaid ∈ wsL_law := mr_25 _ (List.mem_of_getElem? (i := 18) rfl)
theorem k_25_19 : Cond.code yX8_wantAsSaid cX8_wantAsSaid 5 none ∈ wsL_law := mr_25 _ (List.mem_of_getElem? (i := 19) rfl)
theorem k_25_20 : Cond.methodLink RX8 273 yX3_farFrom ∈ wsL_law := mr_25 _ (List.mem_of_getElem? (i := 20) rfl)
theorem k_25_21 : Cond.instanceMethod yX3_farFrom ∈ wsL_law := mr_25 _ (List.mem_of_getElem? (i := 21) rfl)
theorem k_25_22 : Cond.selects RX3 yX3_farFrom yX3_farFrom ∈ wsL_law := mr_25 _ (List.mem_of_getElem? (i := 22) rfl)
theorem k_25_23 : Cond.code yX3_farFrom cX3_farFrom 7 (some .int) ∈ wsL_law := mr_25 _ (List.mem_of_getElem? (i := 23) rfl)
theorem k_26_0 : Cond.methodLink RX3 88 Lib.Math.min.name ∈ wsL_law := mr_26 _ (List.mem_of_getElem? (i := 0) rfl)
theorem k_26_1 : Cond.static Lib.Math.min.name ∈ wsL_law := mr_26 _ (List.mem_of_getElem? (i := 1) rfl)
theorem k_26_2 : Cond.code Lib.Math.min.name Lib.Math.min.code 2 (some .int) ∈ wsL_law := mr_26 _ (List.mem_of_getElem? (i := 2) rfl)
theorem k_26_3 : Cond.methodLink RL 80 yX9_far ∈ wsL_law := mr_26 _ (List.mem_of_getElem? (i := 3) rfl)
theorem k_26_4 : Cond.instanceMethod yX9_far ∈ wsL_law := mr_26 _ (List.mem_of_getElem? (i := 4) rfl)
theorem k_26_5 : Cond.selects RX9 yX9_far yX9_far ∈ wsL_law := mr_26 _ (List.mem_of_getElem? (i := 5) rfl)
theorem k_26_6 : Cond.code yX9_far cX9_far 5 (some .int) ∈ wsL_law := mr_26 _ (List.mem_of_getElem? (i := 6) rfl)
theorem k_26_7 : Cond.constantLong RX9 228 (31) ∈ wsL_law := mr_26 _ (List.mem_of_getElem? (i := 7) rfl)
theorem k_26_8 : Cond.methodLink RX9 230 yX9_farOf ∈ wsL_law := mr_26 _ (List.mem_of_getElem? (i := 8) rfl)
theorem k_26_9 : Cond.instanceMethod yX9_farOf ∈ wsL_law := mr_26 _ (List.mem_of_getElem? (i := 9) rfl)
theorem k_26_10 : Cond.selects RX9 yX9_farOf yX9_farOf ∈ wsL_law := mr_26 _ (List.mem_of_getElem? (i := 10) rfl)
theorem k_26_11 : Cond.code yX9_farOf cX9_farOf 9 (some .int) ∈ wsL_law := mr_26 _ (List.mem_of_getElem? (i := 11) rfl)
theorem k_26_12 : Cond.methodLink RL 81 yX8_best ∈ wsL_law := mr_26 _ (List.mem_of_getElem? (i := 12) rfl)
theorem k_26_13 : Cond.instanceMethod yX8_best ∈ wsL_law := mr_26 _ (List.mem_of_getElem? (i := 13) rfl)
theorem k_26_14 : Cond.selects RX8 yX8_best yX8_best ∈ wsL_law := mr_26 _ (List.mem_of_getElem? (i := 14) rfl)
theorem k_26_15 : Cond.code yX8_best cX8_best 6 (some .int) ∈ wsL_law := mr_26 _ (List.mem_of_getElem? (i := 15) rfl)
theorem k_26_16 : Cond.methodLink RX8 167 yX8_farthestWays ∈ wsL_law := mr_26 _ (List.mem_of_getElem? (i := 16) rfl)
theorem k_26_17 : Cond.instanceMethod yX8_farthestWays ∈ wsL_law := mr_26 _ (List.mem_of_getElem? (i := 17) rfl)
theorem k_26_18 : Cond.selects RX8 yX8_farthestWays yX8_farthestWays ∈ wsL_law := mr_26 _ (List.mem_of_getElem? (i := 18) rfl)
theorem k_26_19 : Cond.code yX8_farthestWays cX8_farthestWays 7 (some .int) ∈ wsL_law := mr_26 _ (List.mem_of_getElem? (i := 19) rfl)
theorem k_26_20 : Cond.constant RX8 277 (1000000) ∈ wsL_law := mr_26 _ (List.mem_of_getElem? (i := 20) rfl)
theorem k_26_21 : Cond.methodLink RX8 278 yX6_hoursOf ∈ wsL_law := mr_26 _ (List.mem_of_getElem? (i := 21) rfl)
theorem k_26_22 : Cond.instanceMethod yX6_hoursOf ∈ wsL_law := mr_26 _ (List.mem_of_getElem? (i := 22) rfl)
theorem k_26_23 : Cond.selects RX6 yX6_hoursOf yX6_hoursOf ∈ wsL_law := mr_26 _ (List.mem_of_getElem? (i := 23) rfl)
theorem k_27_0 : Cond.code yX6_hoursOf cX6_hoursOf 4 (some .int) ∈ wsL_law := mr_27 _ (List.mem_of_getElem? (i := 0) rfl)
theorem k_27_1 : Cond.methodLink RX8 281 yX8_ceilingOf ∈ wsL_law := mr_27 _ (List.mem_of_getElem? (i := 1) rfl)
theorem k_27_2 : Cond.instanceMethod yX8_ceilingOf ∈ wsL_law := mr_27 _ (List.mem_of_getElem? (i := 2) rfl)
theorem k_27_3 : Cond.selects RX8 yX8_ceilingOf yX8_ceilingOf ∈ wsL_law := mr_27 _ (List.mem_of_getElem? (i := 3) rfl)
theorem k_27_4 : Cond.code yX8_ceilingOf cX8_ceilingOf 4 (some .int) ∈ wsL_law := mr_27 _ (List.mem_of_getElem? (i := 4) rfl)
theorem k_27_5 : Cond.methodLink RX8 284 Lib.Math.min.name ∈ wsL_law := mr_27 _ (List.mem_of_getElem? (i := 5) rfl)
theorem k_27_6 : Cond.methodLink RL 84 yX9_best ∈ wsL_law := mr_27 _ (List.mem_of_getElem? (i := 6) rfl)
theorem k_27_7 : Cond.instanceMethod yX9_best ∈ wsL_law := mr_27 _ (List.mem_of_getElem? (i := 7) rfl)
theorem k_27_8 : Cond.selects RX9 yX9_best yX9_best ∈ wsL_law := mr_27 _ (List.mem_of_getElem? (i := 8) rfl)
theorem k_27_9 : Cond.code yX9_best cX9_best 8 (some .int) ∈ wsL_law := mr_27 _ (List.mem_of_getElem? (i := 9) rfl)
theorem k_27_10 : Cond.constantLong RX9 233 (495) ∈ wsL_law := mr_27 _ (List.mem_of_getElem? (i := 10) rfl)
theorem k_27_11 : Cond.methodLink RX9 235 yX9_hoursOf ∈ wsL_law := mr_27 _ (List.mem_of_getElem? (i := 11) rfl)
theorem k_27_12 : Cond.instanceMethod yX9_hoursOf ∈ wsL_law := mr_27 _ (List.mem_of_getElem? (i := 12) rfl)
theorem k_27_13 : Cond.selects RX9 yX9_hoursOf yX9_hoursOf ∈ wsL_law := mr_27 _ (List.mem_of_getElem? (i := 13) rfl)
theorem k_27_14 : Cond.code yX9_hoursOf cX9_hoursOf 4 (some .int) ∈ wsL_law := mr_27 _ (List.mem_of_getElem? (i := 14) rfl)
theorem k_27_15 : Cond.methodLink RL 85 yX8_learnt ∈ wsL_law := mr_27 _ (List.mem_of_getElem? (i := 15) rfl)
theorem k_27_16 : Cond.instanceMethod yX8_learnt ∈ wsL_law := mr_27 _ (List.mem_of_getElem? (i := 16) rfl)
theorem k_27_17 : Cond.selects RX8 yX8_learnt yX8_learnt ∈ wsL_law := mr_27 _ (List.mem_of_getElem? (i := 17) rfl)
theorem k_27_18 : Cond.code yX8_learnt cX8_learnt 4 (some .int) ∈ wsL_law := mr_27 _ (List.mem_of_getElem? (i := 18) rfl)
theorem k_27_19 : Cond.methodLink RX8 170 yX8_isSuch ∈ wsL_law := mr_27 _ (List.mem_of_getElem? (i := 19) rfl)
theorem k_27_20 : Cond.instanceMethod yX8_isSuch ∈ wsL_law := mr_27 _ (List.mem_of_getElem? (i := 20) rfl)
theorem k_27_21 : Cond.selects RX8 yX8_isSuch yX8_isSuch ∈ wsL_law := mr_27 _ (List.mem_of_getElem? (i := 21) rfl)
theorem k_27_22 : Cond.code yX8_isSuch cX8_isSuch 4 (some .boolean) ∈ wsL_law := mr_27 _ (List.mem_of_getElem? (i := 22) rfl)
theorem k_27_23 : Cond.methodLink RX8 174 yX8_waysThatShow ∈ wsL_law := mr_27 _ (List.mem_of_getElem? (i := 23) rfl)
theorem k_28_0 : Cond.instanceMethod yX8_waysThatShow ∈ wsL_law := mr_28 _ (List.mem_of_getElem? (i := 0) rfl)
theorem k_28_1 : Cond.selects RX8 yX8_waysThatShow yX8_waysThatShow ∈ wsL_law := mr_28 _ (List.mem_of_getElem? (i := 1) rfl)
theorem k_28_2 : Cond.code yX8_waysThatShow cX8_waysThatShow 6 (some .int) ∈ wsL_law := mr_28 _ (List.mem_of_getElem? (i := 2) rfl)
theorem k_28_3 : Cond.methodLink RX8 287 arraycopyName ∈ wsL_law := mr_28 _ (List.mem_of_getElem? (i := 3) rfl)
theorem k_28_4 : Cond.native arraycopyName ∈ wsL_law := mr_28 _ (List.mem_of_getElem? (i := 4) rfl)
theorem k_28_5 : Cond.static arraycopyName ∈ wsL_law := mr_28 _ (List.mem_of_getElem? (i := 5) rfl)
theorem k_28_6 : Cond.initialized "java/lang/System" ∈ wsL_law := mr_28 _ (List.mem_of_getElem? (i := 6) rfl)
theorem k_28_7 : Cond.methodLink RX8 293 yX1_tells ∈ wsL_law := mr_28 _ (List.mem_of_getElem? (i := 7) rfl)
theorem k_28_8 : Cond.instanceMethod yX1_tells ∈ wsL_law := mr_28 _ (List.mem_of_getElem? (i := 8) rfl)
theorem k_28_9 : Cond.selects RX1 yX1_tells yX1_tells ∈ wsL_law := mr_28 _ (List.mem_of_getElem? (i := 9) rfl)
theorem k_28_10 : Cond.code yX1_tells cX1_tells 5 (some .boolean) ∈ wsL_law := mr_28 _ (List.mem_of_getElem? (i := 10) rfl)
theorem k_28_11 : Cond.methodLink RX1 52 yX1_token ∈ wsL_law := mr_28 _ (List.mem_of_getElem? (i := 11) rfl)
theorem k_28_12 : Cond.methodLink RL 88 yX9_learnt ∈ wsL_law := mr_28 _ (List.mem_of_getElem? (i := 12) rfl)
theorem k_28_13 : Cond.instanceMethod yX9_learnt ∈ wsL_law := mr_28 _ (List.mem_of_getElem? (i := 13) rfl)
theorem k_28_14 : Cond.selects RX9 yX9_learnt yX9_learnt ∈ wsL_law := mr_28 _ (List.mem_of_getElem? (i := 14) rfl)
theorem k_28_15 : Cond.code yX9_learnt cX9_learnt 4 (some .int) ∈ wsL_law := mr_28 _ (List.mem_of_getElem? (i := 15) rfl)
theorem k_28_16 : Cond.methodLink RX9 238 yX9_isSlip ∈ wsL_law := mr_28 _ (List.mem_of_getElem? (i := 16) rfl)
theorem k_28_17 : Cond.instanceMethod yX9_isSlip ∈ wsL_law := mr_28 _ (List.mem_of_getElem? (i := 17) rfl)
theorem k_28_18 : Cond.selects RX9 yX9_isSlip yX9_isSlip ∈ wsL_law := mr_28 _ (List.mem_of_getElem? (i := 18) rfl)
theorem k_28_19 : Cond.code yX9_isSlip cX9_isSlip 4 (some .boolean) ∈ wsL_law := mr_28 _ (List.mem_of_getElem? (i := 19) rfl)
theorem k_28_20 : Cond.methodLink RX9 242 yX9_showsBy ∈ wsL_law := mr_28 _ (List.mem_of_getElem? (i := 20) rfl)
theorem k_28_21 : Cond.instanceMethod yX9_showsBy ∈ wsL_law := mr_28 _ (List.mem_of_getElem? (i := 21) rfl)
theorem k_28_22 : Cond.selects RX9 yX9_showsBy yX9_showsBy ∈ wsL_law := mr_28 _ (List.mem_of_getElem? (i := 22) rfl)
theorem k_28_23 : Cond.code yX9_showsBy cX9_showsBy 9 (some .int) ∈ wsL_law := mr_28 _ (List.mem_of_getElem? (i := 23) rfl)
theorem k_29_0 : Cond.methodLink RL 89 yX8_slip ∈ wsL_law := mr_29 _ (List.mem_of_getElem? (i := 0) rfl)
theorem k_29_1 : Cond.instanceMethod yX8_slip ∈ wsL_law := mr_29 _ (List.mem_of_getElem? (i := 1) rfl)
theorem k_29_2 : Cond.selects RX8 yX8_slip yX8_slip ∈ wsL_law := mr_29 _ (List.mem_of_getElem? (i := 2) rfl)
theorem k_29_3 : Cond.code yX8_slip cX8_slip 4 (some .int) ∈ wsL_law := mr_29 _ (List.mem_of_getElem? (i := 3) rfl)
theorem k_29_4 : Cond.methodLink RX8 178 yX5_append ∈ wsL_law := mr_29 _ (List.mem_of_getElem? (i := 4) rfl)
theorem k_29_5 : Cond.instanceMethod yX5_append ∈ wsL_law := mr_29 _ (List.mem_of_getElem? (i := 5) rfl)
theorem k_29_6 : Cond.selects RX5 yX5_append yX5_append ∈ wsL_law := mr_29 _ (List.mem_of_getElem? (i := 6) rfl)
theorem k_29_7 : Cond.code yX5_append cX5_append 4 (some .int) ∈ wsL_law := mr_29 _ (List.mem_of_getElem? (i := 7) rfl)
theorem k_29_8 : Cond.fieldLink RX5 24 "SaidWoven$Slips" "count" "I" ∈ wsL_law := mr_29 _ (List.mem_of_getElem? (i := 8) rfl)
theorem k_29_9 : Cond.methodLink RL 92 yX9_slip ∈ wsL_law := mr_29 _ (List.mem_of_getElem? (i := 9) rfl)
theorem k_29_10 : Cond.instanceMethod yX9_slip ∈ wsL_law := mr_29 _ (List.mem_of_getElem? (i := 10) rfl)
theorem k_29_11 : Cond.selects RX9 yX9_slip yX9_slip ∈ wsL_law := mr_29 _ (List.mem_of_getElem? (i := 11) rfl)
theorem k_29_12 : Cond.code yX9_slip cX9_slip 4 (some .int) ∈ wsL_law := mr_29 _ (List.mem_of_getElem? (i := 12) rfl)
theorem k_29_13 : Cond.methodLink RL 93 yX8_noSlips ∈ wsL_law := mr_29 _ (List.mem_of_getElem? (i := 13) rfl)
theorem k_29_14 : Cond.instanceMethod yX8_noSlips ∈ wsL_law := mr_29 _ (List.mem_of_getElem? (i := 14) rfl)
theorem k_29_15 : Cond.selects RX8 yX8_noSlips yX8_noSlips ∈ wsL_law := mr_29 _ (List.mem_of_getElem? (i := 15) rfl)
theorem k_29_16 : Cond.code yX8_noSlips cX8_noSlips 2 (some .int) ∈ wsL_law := mr_29 _ (List.mem_of_getElem? (i := 16) rfl)
theorem k_29_17 : Cond.methodLink RL 96 yX9_noSlips ∈ wsL_law := mr_29 _ (List.mem_of_getElem? (i := 17) rfl)
theorem k_29_18 : Cond.instanceMethod yX9_noSlips ∈ wsL_law := mr_29 _ (List.mem_of_getElem? (i := 18) rfl)
theorem k_29_19 : Cond.selects RX9 yX9_noSlips yX9_noSlips ∈ wsL_law := mr_29 _ (List.mem_of_getElem? (i := 19) rfl)
theorem k_29_20 : Cond.code yX9_noSlips cX9_noSlips 2 (some .int) ∈ wsL_law := mr_29 _ (List.mem_of_getElem? (i := 20) rfl)
theorem k_29_21 : Cond.methodLink RL 97 yX8_slips ∈ wsL_law := mr_29 _ (List.mem_of_getElem? (i := 21) rfl)
theorem k_29_22 : Cond.instanceMethod yX8_slips ∈ wsL_law := mr_29 _ (List.mem_of_getElem? (i := 22) rfl)
theorem k_29_23 : Cond.selects RX8 yX8_slips yX8_slips ∈ wsL_law := mr_29 _ (List.mem_of_getElem? (i := 23) rfl)
theorem k_30_0 : Cond.code yX8_slips cX8_slips 2 (some .int) ∈ wsL_law := mr_30 _ (List.mem_of_getElem? (i := 0) rfl)
theorem k_30_1 : Cond.methodLink RX8 180 yX8_hiddenSlips ∈ wsL_law := mr_30 _ (List.mem_of_getElem? (i := 1) rfl)
theorem k_30_2 : Cond.instanceMethod yX8_hiddenSlips ∈ wsL_law := mr_30 _ (List.mem_of_getElem? (i := 2) rfl)
theorem k_30_3 : Cond.selects RX8 yX8_hiddenSlips yX8_hiddenSlips ∈ wsL_law := mr_30 _ (List.mem_of_getElem? (i := 3) rfl)
theorem k_30_4 : Cond.code yX8_hiddenSlips cX8_hiddenSlips 4 (some .int) ∈ wsL_law := mr_30 _ (List.mem_of_getElem? (i := 4) rfl)
theorem k_30_5 : Cond.methodLink RX8 303 yX8_isSuchSlip ∈ wsL_law := mr_30 _ (List.mem_of_getElem? (i := 5) rfl)
theorem k_30_6 : Cond.instanceMethod yX8_isSuchSlip ∈ wsL_law := mr_30 _ (List.mem_of_getElem? (i := 6) rfl)
theorem k_30_7 : Cond.selects RX8 yX8_isSuchSlip yX8_isSuchSlip ∈ wsL_law := mr_30 _ (List.mem_of_getElem? (i := 7) rfl)
theorem k_30_8 : Cond.code yX8_isSuchSlip cX8_isSuchSlip 2 (some .boolean) ∈ wsL_law := mr_30 _ (List.mem_of_getElem? (i := 8) rfl)
theorem k_30_9 : Cond.fieldLink RX8 297 "SaidWoven$Slips" "verses" "[I" ∈ wsL_law := mr_30 _ (List.mem_of_getElem? (i := 9) rfl)
theorem k_30_10 : Cond.fieldLink RX8 300 "SaidWoven$Slips" "places" "[I" ∈ wsL_law := mr_30 _ (List.mem_of_getElem? (i := 10) rfl)
theorem k_30_11 : Cond.fieldLink RX8 301 "SaidWoven$Slips" "words" "[I" ∈ wsL_law := mr_30 _ (List.mem_of_getElem? (i := 11) rfl)
theorem k_30_12 : Cond.methodLink RX8 306 yX8_waysThatShowSlip ∈ wsL_law := mr_30 _ (List.mem_of_getElem? (i := 12) rfl)
theorem k_30_13 : Cond.instanceMethod yX8_waysThatShowSlip ∈ wsL_law := mr_30 _ (List.mem_of_getElem? (i := 13) rfl)
theorem k_30_14 : Cond.selects RX8 yX8_waysThatShowSlip yX8_waysThatShowSlip ∈ wsL_law := mr_30 _ (List.mem_of_getElem? (i := 14) rfl)
theorem k_30_15 : Cond.code yX8_waysThatShowSlip cX8_waysThatShowSlip 2 (some .int) ∈ wsL_law := mr_30 _ (List.mem_of_getElem? (i := 15) rfl)
theorem k_30_16 : Cond.methodLink RX8 184 yX8_fewestWays ∈ wsL_law := mr_30 _ (List.mem_of_getElem? (i := 16) rfl)
theorem k_30_17 : Cond.instanceMethod yX8_fewestWays ∈ wsL_law := mr_30 _ (List.mem_of_getElem? (i := 17) rfl)
theorem k_30_18 : Cond.selects RX8 yX8_fewestWays yX8_fewestWays ∈ wsL_law := mr_30 _ (List.mem_of_getElem? (i := 18) rfl)
theorem k_30_19 : Cond.code yX8_fewestWays cX8_fewestWays 3 (some .int) ∈ wsL_law := mr_30 _ (List.mem_of_getElem? (i := 19) rfl)
theorem k_30_20 : Cond.fieldLink RX8 312 "SaidWoven$Slips" "ways" "[I" ∈ wsL_law := mr_30 _ (List.mem_of_getElem? (i := 20) rfl)
theorem k_30_21 : Cond.methodLink RX8 315 yX5_allShownBy ∈ wsL_law := mr_30 _ (List.mem_of_getElem? (i := 21) rfl)
theorem k_30_22 : Cond.instanceMethod yX5_allShownBy ∈ wsL_law := mr_30 _ (List.mem_of_getElem? (i := 22) rfl)
theorem k_30_23 : Cond.selects RX5 yX5_allShownBy yX5_allShownBy ∈ wsL_law := mr_30 _ (List.mem_of_getElem? (i := 23) rfl)
theorem k_31_0 : Cond.code yX5_allShownBy cX5_allShownBy 3 (some .boolean) ∈ wsL_law := mr_31 _ (List.mem_of_getElem? (i := 0) rfl)
theorem k_31_1 : Cond.methodLink RX8 318 yJ6_bitCount_0f7a4 ∈ wsL_law := mr_31 _ (List.mem_of_getElem? (i := 1) rfl)
theorem k_31_2 : Cond.static yJ6_bitCount_0f7a4 ∈ wsL_law := mr_31 _ (List.mem_of_getElem? (i := 2) rfl)
theorem k_31_3 : Cond.initialized RJ6 ∈ wsL_law := mr_31 _ (List.mem_of_getElem? (i := 3) rfl)
theorem k_31_4 : Cond.code yJ6_bitCount_0f7a4 cJ6_bitCount_0f7a4 1 (some .int) ∈ wsL_law := mr_31 _ (List.mem_of_getElem? (i := 4) rfl)
theorem k_31_5 : Cond.constant RJ6 265 (1431655765) ∈ wsL_law := mr_31 _ (List.mem_of_getElem? (i := 5) rfl)
theorem k_31_6 : Cond.constant RJ6 266 (858993459) ∈ wsL_law := mr_31 _ (List.mem_of_getElem? (i := 6) rfl)
theorem k_31_7 : Cond.constant RJ6 267 (252645135) ∈ wsL_law := mr_31 _ (List.mem_of_getElem? (i := 7) rfl)
theorem k_31_8 : Cond.methodLink RX8 187 yX8_listedSlips ∈ wsL_law := mr_31 _ (List.mem_of_getElem? (i := 8) rfl)
theorem k_31_9 : Cond.instanceMethod yX8_listedSlips ∈ wsL_law := mr_31 _ (List.mem_of_getElem? (i := 9) rfl)
theorem k_31_10 : Cond.selects RX8 yX8_listedSlips yX8_listedSlips ∈ wsL_law := mr_31 _ (List.mem_of_getElem? (i := 10) rfl)
theorem k_31_11 : Cond.code yX8_listedSlips cX8_listedSlips 4 (some .int) ∈ wsL_law := mr_31 _ (List.mem_of_getElem? (i := 11) rfl)
theorem k_31_12 : Cond.methodLink RX8 309 yX6_isListedAlike ∈ wsL_law := mr_31 _ (List.mem_of_getElem? (i := 12) rfl)
theorem k_31_13 : Cond.instanceMethod yX6_isListedAlike ∈ wsL_law := mr_31 _ (List.mem_of_getElem? (i := 13) rfl)
theorem k_31_14 : Cond.selects RX6 yX6_isListedAlike yX6_isListedAlike ∈ wsL_law := mr_31 _ (List.mem_of_getElem? (i := 14) rfl)
theorem k_31_15 : Cond.code yX6_isListedAlike cX6_isListedAlike 3 (some .boolean) ∈ wsL_law := mr_31 _ (List.mem_of_getElem? (i := 15) rfl)
theorem k_31_16 : Cond.methodLink RX8 190 yX8_suchSlips ∈ wsL_law := mr_31 _ (List.mem_of_getElem? (i := 16) rfl)
theorem k_31_17 : Cond.instanceMethod yX8_suchSlips ∈ wsL_law := mr_31 _ (List.mem_of_getElem? (i := 17) rfl)
theorem k_31_18 : Cond.selects RX8 yX8_suchSlips yX8_suchSlips ∈ wsL_law := mr_31 _ (List.mem_of_getElem? (i := 18) rfl)
theorem k_31_19 : Cond.code yX8_suchSlips cX8_suchSlips 3 (some .int) ∈ wsL_law := mr_31 _ (List.mem_of_getElem? (i := 19) rfl)
theorem k_31_20 : Cond.methodLink RL 100 yX9_slips ∈ wsL_law := mr_31 _ (List.mem_of_getElem? (i := 20) rfl)
theorem k_31_21 : Cond.instanceMethod yX9_slips ∈ wsL_law := mr_31 _ (List.mem_of_getElem? (i := 21) rfl)
theorem k_31_22 : Cond.selects RX9 yX9_slips yX9_slips ∈ wsL_law := mr_31 _ (List.mem_of_getElem? (i := 22) rfl)
theorem k_31_23 : Cond.code yX9_slips cX9_slips 10 (some .int) ∈ wsL_law := mr_31 _ (List.mem_of_getElem? (i := 23) rfl)
theorem k_32_0 : Cond.constantLong RX9 248 (3) ∈ wsL_law := mr_32 _ (List.mem_of_getElem? (i := 0) rfl)
theorem k_32_1 : Cond.methodLink RX9 250 yX9_isListed ∈ wsL_law := mr_32 _ (List.mem_of_getElem? (i := 1) rfl)
theorem k_32_2 : Cond.instanceMethod yX9_isListed ∈ wsL_law := mr_32 _ (List.mem_of_getElem? (i := 2) rfl)
theorem k_32_3 : Cond.selects RX9 yX9_isListed yX9_isListed ∈ wsL_law := mr_32 _ (List.mem_of_getElem? (i := 3) rfl)
theorem k_32_4 : Cond.code yX9_isListed cX9_isListed 3 (some .boolean) ∈ wsL_law := mr_32 _ (List.mem_of_getElem? (i := 4) rfl)
theorem k_32_5 : Cond.methodLink RX9 253 yX9_fewestWays ∈ wsL_law := mr_32 _ (List.mem_of_getElem? (i := 5) rfl)
theorem k_32_6 : Cond.instanceMethod yX9_fewestWays ∈ wsL_law := mr_32 _ (List.mem_of_getElem? (i := 6) rfl)
theorem k_32_7 : Cond.selects RX9 yX9_fewestWays yX9_fewestWays ∈ wsL_law := mr_32 _ (List.mem_of_getElem? (i := 7) rfl)
theorem k_32_8 : Cond.code yX9_fewestWays cX9_fewestWays 5 (some .int) ∈ wsL_law := mr_32 _ (List.mem_of_getElem? (i := 8) rfl)
theorem k_32_9 : Cond.methodLink RX9 245 yX9_bits ∈ wsL_law := mr_32 _ (List.mem_of_getElem? (i := 9) rfl)
theorem k_32_10 : Cond.static yX9_bits ∈ wsL_law := mr_32 _ (List.mem_of_getElem? (i := 10) rfl)
theorem k_32_11 : Cond.code yX9_bits cX9_bits 3 (some .int) ∈ wsL_law := mr_32 _ (List.mem_of_getElem? (i := 11) rfl)
theorem k_32_12 : Cond.methodLink RL 101 yX8_list ∈ wsL_law := mr_32 _ (List.mem_of_getElem? (i := 12) rfl)
theorem k_32_13 : Cond.instanceMethod yX8_list ∈ wsL_law := mr_32 _ (List.mem_of_getElem? (i := 13) rfl)
theorem k_32_14 : Cond.selects RX8 yX8_list yX8_list ∈ wsL_law := mr_32 _ (List.mem_of_getElem? (i := 14) rfl)
theorem k_32_15 : Cond.code yX8_list cX8_list 7 (some .int) ∈ wsL_law := mr_32 _ (List.mem_of_getElem? (i := 15) rfl)
theorem k_32_16 : Cond.fieldLink RX8 193 "SaidWoven$Tongue" "first" "[I" ∈ wsL_law := mr_32 _ (List.mem_of_getElem? (i := 16) rfl)
theorem k_32_17 : Cond.fieldLink RX8 196 "SaidWoven$Tongue" "body" "[I" ∈ wsL_law := mr_32 _ (List.mem_of_getElem? (i := 17) rfl)
theorem k_32_18 : Cond.methodLink RL 104 yX9_list ∈ wsL_law := mr_32 _ (List.mem_of_getElem? (i := 18) rfl)
theorem k_32_19 : Cond.instanceMethod yX9_list ∈ wsL_law := mr_32 _ (List.mem_of_getElem? (i := 19) rfl)
theorem k_32_20 : Cond.selects RX9 yX9_list yX9_list ∈ wsL_law := mr_32 _ (List.mem_of_getElem? (i := 20) rfl)
theorem k_32_21 : Cond.code yX9_list cX9_list 6 (some .int) ∈ wsL_law := mr_32 _ (List.mem_of_getElem? (i := 21) rfl)
theorem k_32_22 : Cond.methodLink RL 105 yX8_head ∈ wsL_law := mr_32 _ (List.mem_of_getElem? (i := 22) rfl)
theorem k_32_23 : Cond.instanceMethod yX8_head ∈ wsL_law := mr_32 _ (List.mem_of_getElem? (i := 23) rfl)
theorem k_33_0 : Cond.selects RX8 yX8_head yX8_head ∈ wsL_law := mr_33 _ (List.mem_of_getElem? (i := 0) rfl)
theorem k_33_1 : Cond.code yX8_head cX8_head 4 (some .int) ∈ wsL_law := mr_33 _ (List.mem_of_getElem? (i := 1) rfl)
theorem k_33_2 : Cond.methodLink RX8 199 yX2_mayTeach ∈ wsL_law := mr_33 _ (List.mem_of_getElem? (i := 2) rfl)
theorem k_33_3 : Cond.instanceMethod yX2_mayTeach ∈ wsL_law := mr_33 _ (List.mem_of_getElem? (i := 3) rfl)
theorem k_33_4 : Cond.selects RX2 yX2_mayTeach yX2_mayTeach ∈ wsL_law := mr_33 _ (List.mem_of_getElem? (i := 4) rfl)
theorem k_33_5 : Cond.code yX2_mayTeach cX2_mayTeach 3 (some .boolean) ∈ wsL_law := mr_33 _ (List.mem_of_getElem? (i := 5) rfl)
theorem k_33_6 : Cond.fieldLink RX2 25 "SaidWoven$Heads" "count" "I" ∈ wsL_law := mr_33 _ (List.mem_of_getElem? (i := 6) rfl)
theorem k_33_7 : Cond.methodLink RX8 202 yX2_append ∈ wsL_law := mr_33 _ (List.mem_of_getElem? (i := 7) rfl)
theorem k_33_8 : Cond.instanceMethod yX2_append ∈ wsL_law := mr_33 _ (List.mem_of_getElem? (i := 8) rfl)
theorem k_33_9 : Cond.selects RX2 yX2_append yX2_append ∈ wsL_law := mr_33 _ (List.mem_of_getElem? (i := 9) rfl)
theorem k_33_10 : Cond.code yX2_append cX2_append 4 (some .int) ∈ wsL_law := mr_33 _ (List.mem_of_getElem? (i := 10) rfl)
theorem k_33_11 : Cond.methodLink RL 108 yX9_head ∈ wsL_law := mr_33 _ (List.mem_of_getElem? (i := 11) rfl)
theorem k_33_12 : Cond.instanceMethod yX9_head ∈ wsL_law := mr_33 _ (List.mem_of_getElem? (i := 12) rfl)
theorem k_33_13 : Cond.selects RX9 yX9_head yX9_head ∈ wsL_law := mr_33 _ (List.mem_of_getElem? (i := 13) rfl)
theorem k_33_14 : Cond.code yX9_head cX9_head 5 (some .int) ∈ wsL_law := mr_33 _ (List.mem_of_getElem? (i := 14) rfl)
theorem k_33_15 : Cond.constantLong RX9 256 (3000) ∈ wsL_law := mr_33 _ (List.mem_of_getElem? (i := 15) rfl)
theorem k_33_16 : Cond.constantLong RX9 258 (-1) ∈ wsL_law := mr_33 _ (List.mem_of_getElem? (i := 16) rfl)
theorem k_33_17 : Cond.methodLink RL 109 yX8_alive ∈ wsL_law := mr_33 _ (List.mem_of_getElem? (i := 17) rfl)
theorem k_33_18 : Cond.instanceMethod yX8_alive ∈ wsL_law := mr_33 _ (List.mem_of_getElem? (i := 18) rfl)
theorem k_33_19 : Cond.selects RX8 yX8_alive yX8_alive ∈ wsL_law := mr_33 _ (List.mem_of_getElem? (i := 19) rfl)
theorem k_33_20 : Cond.code yX8_alive cX8_alive 4 (some .int) ∈ wsL_law := mr_33 _ (List.mem_of_getElem? (i := 20) rfl)
theorem k_33_21 : Cond.fieldLink RX8 203 "SaidWoven$Heads" "living" "[Z" ∈ wsL_law := mr_33 _ (List.mem_of_getElem? (i := 21) rfl)
theorem k_33_22 : Cond.methodLink RL 113 yX9_alive ∈ wsL_law := mr_33 _ (List.mem_of_getElem? (i := 22) rfl)
theorem k_33_23 : Cond.instanceMethod yX9_alive ∈ wsL_law := mr_33 _ (List.mem_of_getElem? (i := 23) rfl)
theorem k_34_0 : Cond.selects RX9 yX9_alive yX9_alive ∈ wsL_law := mr_34 _ (List.mem_of_getElem? (i := 0) rfl)
theorem k_34_1 : Cond.code yX9_alive cX9_alive 4 (some .int) ∈ wsL_law := mr_34 _ (List.mem_of_getElem? (i := 1) rfl)
theorem k_34_2 : Cond.methodLink RX9 260 yX9_isHead ∈ wsL_law := mr_34 _ (List.mem_of_getElem? (i := 2) rfl)
theorem k_34_3 : Cond.instanceMethod yX9_isHead ∈ wsL_law := mr_34 _ (List.mem_of_getElem? (i := 3) rfl)
theorem k_34_4 : Cond.selects RX9 yX9_isHead yX9_isHead ∈ wsL_law := mr_34 _ (List.mem_of_getElem? (i := 4) rfl)
theorem k_34_5 : Cond.code yX9_isHead cX9_isHead 2 (some .boolean) ∈ wsL_law := mr_34 _ (List.mem_of_getElem? (i := 5) rfl)
theorem k_34_6 : Cond.methodLink RL 114 yX8_same ∈ wsL_law := mr_34 _ (List.mem_of_getElem? (i := 6) rfl)
theorem k_34_7 : Cond.instanceMethod yX8_same ∈ wsL_law := mr_34 _ (List.mem_of_getElem? (i := 7) rfl)
theorem k_34_8 : Cond.selects RX8 yX8_same yX8_same ∈ wsL_law := mr_34 _ (List.mem_of_getElem? (i := 8) rfl)
theorem k_34_9 : Cond.code yX8_same cX8_same 2 (some .int) ∈ wsL_law := mr_34 _ (List.mem_of_getElem? (i := 9) rfl)
theorem k_34_10 : Cond.methodLink RX8 207 yX2_agree ∈ wsL_law := mr_34 _ (List.mem_of_getElem? (i := 10) rfl)
theorem k_34_11 : Cond.instanceMethod yX2_agree ∈ wsL_law := mr_34 _ (List.mem_of_getElem? (i := 11) rfl)
theorem k_34_12 : Cond.selects RX2 yX2_agree yX2_agree ∈ wsL_law := mr_34 _ (List.mem_of_getElem? (i := 12) rfl)
theorem k_34_13 : Cond.code yX2_agree cX2_agree 6 (some .boolean) ∈ wsL_law := mr_34 _ (List.mem_of_getElem? (i := 13) rfl)
theorem k_34_14 : Cond.fieldLink RX2 33 "SaidWoven$Book" "sizes" "[I" ∈ wsL_law := mr_34 _ (List.mem_of_getElem? (i := 14) rfl)
theorem k_34_15 : Cond.fieldLink RX2 38 "SaidWoven$Book" "words" "[[I" ∈ wsL_law := mr_34 _ (List.mem_of_getElem? (i := 15) rfl)
theorem k_34_16 : Cond.methodLink RL 117 yX9_same ∈ wsL_law := mr_34 _ (List.mem_of_getElem? (i := 16) rfl)
theorem k_34_17 : Cond.instanceMethod yX9_same ∈ wsL_law := mr_34 _ (List.mem_of_getElem? (i := 17) rfl)
theorem k_34_18 : Cond.selects RX9 yX9_same yX9_same ∈ wsL_law := mr_34 _ (List.mem_of_getElem? (i := 18) rfl)
theorem k_34_19 : Cond.code yX9_same cX9_same 6 (some .int) ∈ wsL_law := mr_34 _ (List.mem_of_getElem? (i := 19) rfl)
theorem k_34_20 : Cond.methodLink RX9 263 yX9_isAlive ∈ wsL_law := mr_34 _ (List.mem_of_getElem? (i := 20) rfl)
theorem k_34_21 : Cond.instanceMethod yX9_isAlive ∈ wsL_law := mr_34 _ (List.mem_of_getElem? (i := 21) rfl)
theorem k_34_22 : Cond.selects RX9 yX9_isAlive yX9_isAlive ∈ wsL_law := mr_34 _ (List.mem_of_getElem? (i := 22) rfl)
theorem k_34_23 : Cond.code yX9_isAlive cX9_isAlive 2 (some .boolean) ∈ wsL_law := mr_34 _ (List.mem_of_getElem? (i := 23) rfl)
theorem k_35_0 : Cond.methodLink RX9 266 yX9_wordOf ∈ wsL_law := mr_35 _ (List.mem_of_getElem? (i := 0) rfl)
theorem k_35_1 : Cond.instanceMethod yX9_wordOf ∈ wsL_law := mr_35 _ (List.mem_of_getElem? (i := 1) rfl)
theorem k_35_2 : Cond.selects RX9 yX9_wordOf yX9_wordOf ∈ wsL_law := mr_35 _ (List.mem_of_getElem? (i := 2) rfl)
theorem k_35_3 : Cond.code yX9_wordOf cX9_wordOf 4 (some .int) ∈ wsL_law := mr_35 _ (List.mem_of_getElem? (i := 3) rfl)
theorem k_35_4 : Cond.methodLink RL 118 yX8_since ∈ wsL_law := mr_35 _ (List.mem_of_getElem? (i := 4) rfl)
theorem k_35_5 : Cond.instanceMethod yX8_since ∈ wsL_law := mr_35 _ (List.mem_of_getElem? (i := 5) rfl)
theorem k_35_6 : Cond.selects RX8 yX8_since yX8_since ∈ wsL_law := mr_35 _ (List.mem_of_getElem? (i := 6) rfl)
theorem k_35_7 : Cond.code yX8_since cX8_since 3 (some .int) ∈ wsL_law := mr_35 _ (List.mem_of_getElem? (i := 7) rfl)
theorem k_35_8 : Cond.methodLink RX8 211 yX2_allHave ∈ wsL_law := mr_35 _ (List.mem_of_getElem? (i := 8) rfl)
theorem k_35_9 : Cond.instanceMethod yX2_allHave ∈ wsL_law := mr_35 _ (List.mem_of_getElem? (i := 9) rfl)
theorem k_35_10 : Cond.selects RX2 yX2_allHave yX2_allHave ∈ wsL_law := mr_35 _ (List.mem_of_getElem? (i := 10) rfl)
theorem k_35_11 : Cond.code yX2_allHave cX2_allHave 5 (some .boolean) ∈ wsL_law := mr_35 _ (List.mem_of_getElem? (i := 11) rfl)
theorem k_35_12 : Cond.methodLink RX2 42 yX0_has ∈ wsL_law := mr_35 _ (List.mem_of_getElem? (i := 12) rfl)
theorem k_35_13 : Cond.instanceMethod yX0_has ∈ wsL_law := mr_35 _ (List.mem_of_getElem? (i := 13) rfl)
theorem k_35_14 : Cond.selects RX0 yX0_has yX0_has ∈ wsL_law := mr_35 _ (List.mem_of_getElem? (i := 14) rfl)
theorem k_35_15 : Cond.code yX0_has cX0_has 4 (some .boolean) ∈ wsL_law := mr_35 _ (List.mem_of_getElem? (i := 15) rfl)
theorem k_35_16 : Cond.methodLink RX8 215 yX2_latestCommonYear ∈ wsL_law := mr_35 _ (List.mem_of_getElem? (i := 16) rfl)
theorem k_35_17 : Cond.instanceMethod yX2_latestCommonYear ∈ wsL_law := mr_35 _ (List.mem_of_getElem? (i := 17) rfl)
theorem k_35_18 : Cond.selects RX2 yX2_latestCommonYear yX2_latestCommonYear ∈ wsL_law := mr_35 _ (List.mem_of_getElem? (i := 18) rfl)
theorem k_35_19 : Cond.code yX2_latestCommonYear cX2_latestCommonYear 5 (some .int) ∈ wsL_law := mr_35 _ (List.mem_of_getElem? (i := 19) rfl)
theorem k_35_20 : Cond.methodLink RX2 46 Lib.Math.max.name ∈ wsL_law := mr_35 _ (List.mem_of_getElem? (i := 20) rfl)
theorem k_35_21 : Cond.methodLink RL 121 yX9_since ∈ wsL_law := mr_35 _ (List.mem_of_getElem? (i := 21) rfl)
theorem k_35_22 : Cond.instanceMethod yX9_since ∈ wsL_law := mr_35 _ (List.mem_of_getElem? (i := 22) rfl)
theorem k_35_23 : Cond.selects RX9 yX9_since yX9_since ∈ wsL_law := mr_35 _ (List.mem_of_getElem? (i := 23) rfl)
theorem k_36_0 : Cond.code yX9_since cX9_since 9 (some .int) ∈ wsL_law := mr_36 _ (List.mem_of_getElem? (i := 0) rfl)
theorem k_36_1 : Cond.methodLink RX9 269 yX9_isFrom ∈ wsL_law := mr_36 _ (List.mem_of_getElem? (i := 1) rfl)
theorem k_36_2 : Cond.instanceMethod yX9_isFrom ∈ wsL_law := mr_36 _ (List.mem_of_getElem? (i := 2) rfl)
theorem k_36_3 : Cond.selects RX9 yX9_isFrom yX9_isFrom ∈ wsL_law := mr_36 _ (List.mem_of_getElem? (i := 3) rfl)
theorem k_36_4 : Cond.code yX9_isFrom cX9_isFrom 4 (some .boolean) ∈ wsL_law := mr_36 _ (List.mem_of_getElem? (i := 4) rfl)
theorem k_36_5 : Cond.methodLink RL 122 yX8_lost ∈ wsL_law := mr_36 _ (List.mem_of_getElem? (i := 5) rfl)
theorem k_36_6 : Cond.instanceMethod yX8_lost ∈ wsL_law := mr_36 _ (List.mem_of_getElem? (i := 6) rfl)
theorem k_36_7 : Cond.selects RX8 yX8_lost yX8_lost ∈ wsL_law := mr_36 _ (List.mem_of_getElem? (i := 7) rfl)
theorem k_36_8 : Cond.code yX8_lost cX8_lost 2 (some .int) ∈ wsL_law := mr_36 _ (List.mem_of_getElem? (i := 8) rfl)
theorem k_36_9 : Cond.methodLink RX8 218 yX2_isSet ∈ wsL_law := mr_36 _ (List.mem_of_getElem? (i := 9) rfl)
theorem k_36_10 : Cond.instanceMethod yX2_isSet ∈ wsL_law := mr_36 _ (List.mem_of_getElem? (i := 10) rfl)
theorem k_36_11 : Cond.selects RX2 yX2_isSet yX2_isSet ∈ wsL_law := mr_36 _ (List.mem_of_getElem? (i := 11) rfl)
theorem k_36_12 : Cond.code yX2_isSet cX2_isSet 2 (some .boolean) ∈ wsL_law := mr_36 _ (List.mem_of_getElem? (i := 12) rfl)
theorem k_36_13 : Cond.methodLink RX8 222 yX2_versesOf ∈ wsL_law := mr_36 _ (List.mem_of_getElem? (i := 13) rfl)
theorem k_36_14 : Cond.instanceMethod yX2_versesOf ∈ wsL_law := mr_36 _ (List.mem_of_getElem? (i := 14) rfl)
theorem k_36_15 : Cond.selects RX2 yX2_versesOf yX2_versesOf ∈ wsL_law := mr_36 _ (List.mem_of_getElem? (i := 15) rfl)
theorem k_36_16 : Cond.code yX2_versesOf cX2_versesOf 4 (some .int) ∈ wsL_law := mr_36 _ (List.mem_of_getElem? (i := 16) rfl)
theorem k_36_17 : Cond.methodLink RL 125 yX9_lost ∈ wsL_law := mr_36 _ (List.mem_of_getElem? (i := 17) rfl)
theorem k_36_18 : Cond.instanceMethod yX9_lost ∈ wsL_law := mr_36 _ (List.mem_of_getElem? (i := 18) rfl)
theorem k_36_19 : Cond.selects RX9 yX9_lost yX9_lost ∈ wsL_law := mr_36 _ (List.mem_of_getElem? (i := 19) rfl)
theorem k_36_20 : Cond.code yX9_lost cX9_lost 6 (some .int) ∈ wsL_law := mr_36 _ (List.mem_of_getElem? (i := 20) rfl)
theorem k_36_21 : Cond.methodLink RX9 272 yX9_areHeads ∈ wsL_law := mr_36 _ (List.mem_of_getElem? (i := 21) rfl)
theorem k_36_22 : Cond.instanceMethod yX9_areHeads ∈ wsL_law := mr_36 _ (List.mem_of_getElem? (i := 22) rfl)
theorem k_36_23 : Cond.selects RX9 yX9_areHeads yX9_areHeads ∈ wsL_law := mr_36 _ (List.mem_of_getElem? (i := 23) rfl)
theorem k_37_0 : Cond.code yX9_areHeads cX9_areHeads 2 (some .boolean) ∈ wsL_law := mr_37 _ (List.mem_of_getElem? (i := 0) rfl)
theorem k_37_1 : Cond.methodLink RL 126 yX8_from ∈ wsL_law := mr_37 _ (List.mem_of_getElem? (i := 1) rfl)
theorem k_37_2 : Cond.instanceMethod yX8_from ∈ wsL_law := mr_37 _ (List.mem_of_getElem? (i := 2) rfl)
theorem k_37_3 : Cond.selects RX8 yX8_from yX8_from ∈ wsL_law := mr_37 _ (List.mem_of_getElem? (i := 3) rfl)
theorem k_37_4 : Cond.code yX8_from cX8_from 3 (some .int) ∈ wsL_law := mr_37 _ (List.mem_of_getElem? (i := 4) rfl)
theorem k_37_5 : Cond.methodLink RX8 225 yX2_lowestWith ∈ wsL_law := mr_37 _ (List.mem_of_getElem? (i := 5) rfl)
theorem k_37_6 : Cond.instanceMethod yX2_lowestWith ∈ wsL_law := mr_37 _ (List.mem_of_getElem? (i := 6) rfl)
theorem k_37_7 : Cond.selects RX2 yX2_lowestWith yX2_lowestWith ∈ wsL_law := mr_37 _ (List.mem_of_getElem? (i := 7) rfl)
theorem k_37_8 : Cond.code yX2_lowestWith cX2_lowestWith 4 (some .int) ∈ wsL_law := mr_37 _ (List.mem_of_getElem? (i := 8) rfl)
theorem k_37_9 : Cond.methodLink RL 129 yX9_from ∈ wsL_law := mr_37 _ (List.mem_of_getElem? (i := 9) rfl)
theorem k_37_10 : Cond.instanceMethod yX9_from ∈ wsL_law := mr_37 _ (List.mem_of_getElem? (i := 10) rfl)
theorem k_37_11 : Cond.selects RX9 yX9_from yX9_from ∈ wsL_law := mr_37 _ (List.mem_of_getElem? (i := 11) rfl)
theorem k_37_12 : Cond.code yX9_from cX9_from 4 (some .int) ∈ wsL_law := mr_37 _ (List.mem_of_getElem? (i := 12) rfl)
theorem k_37_13 : Cond.methodLink RL 130 yX8_odds ∈ wsL_law := mr_37 _ (List.mem_of_getElem? (i := 13) rfl)
theorem k_37_14 : Cond.instanceMethod yX8_odds ∈ wsL_law := mr_37 _ (List.mem_of_getElem? (i := 14) rfl)
theorem k_37_15 : Cond.selects RX8 yX8_odds yX8_odds ∈ wsL_law := mr_37 _ (List.mem_of_getElem? (i := 15) rfl)
theorem k_37_16 : Cond.code yX8_odds cX8_odds 11 (some .long) ∈ wsL_law := mr_37 _ (List.mem_of_getElem? (i := 16) rfl)
theorem k_37_17 : Cond.constantLong RX8 228 (-1) ∈ wsL_law := mr_37 _ (List.mem_of_getElem? (i := 17) rfl)
theorem k_37_18 : Cond.methodLink RX8 230 yX8_commonDivisor ∈ wsL_law := mr_37 _ (List.mem_of_getElem? (i := 18) rfl)
theorem k_37_19 : Cond.static yX8_commonDivisor ∈ wsL_law := mr_37 _ (List.mem_of_getElem? (i := 19) rfl)
theorem k_37_20 : Cond.code yX8_commonDivisor cX8_commonDivisor 6 (some .int) ∈ wsL_law := mr_37 _ (List.mem_of_getElem? (i := 20) rfl)
theorem k_37_21 : Cond.methodLink RL 134 yX9_odds ∈ wsL_law := mr_37 _ (List.mem_of_getElem? (i := 21) rfl)
theorem k_37_22 : Cond.instanceMethod yX9_odds ∈ wsL_law := mr_37 _ (List.mem_of_getElem? (i := 22) rfl)
theorem k_37_23 : Cond.selects RX9 yX9_odds yX9_odds ∈ wsL_law := mr_37 _ (List.mem_of_getElem? (i := 23) rfl)
theorem k_38_0 : Cond.code yX9_odds cX9_odds 18 (some .long) ∈ wsL_law := mr_38 _ (List.mem_of_getElem? (i := 0) rfl)
theorem k_38_1 : Cond.constantLong RX9 275 (100) ∈ wsL_law := mr_38 _ (List.mem_of_getElem? (i := 1) rfl)
theorem k_38_2 : Cond.constantLong RX9 277 (10000) ∈ wsL_law := mr_38 _ (List.mem_of_getElem? (i := 2) rfl)
theorem k_38_3 : Cond.methodLink RL 135 yX8_keep ∈ wsL_law := mr_38 _ (List.mem_of_getElem? (i := 3) rfl)
theorem k_38_4 : Cond.instanceMethod yX8_keep ∈ wsL_law := mr_38 _ (List.mem_of_getElem? (i := 4) rfl)
theorem k_38_5 : Cond.selects RX8 yX8_keep yX8_keep ∈ wsL_law := mr_38 _ (List.mem_of_getElem? (i := 5) rfl)
theorem k_38_6 : Cond.code yX8_keep cX8_keep 1 (some .int) ∈ wsL_law := mr_38 _ (List.mem_of_getElem? (i := 6) rfl)
theorem k_38_7 : Cond.methodLink RX8 233 yX8_keptAt ∈ wsL_law := mr_38 _ (List.mem_of_getElem? (i := 7) rfl)
theorem k_38_8 : Cond.instanceMethod yX8_keptAt ∈ wsL_law := mr_38 _ (List.mem_of_getElem? (i := 8) rfl)
theorem k_38_9 : Cond.selects RX8 yX8_keptAt yX8_keptAt ∈ wsL_law := mr_38 _ (List.mem_of_getElem? (i := 9) rfl)
theorem k_38_10 : Cond.code yX8_keptAt cX8_keptAt 2 (some (.object "SaidWoven$Book")) ∈ wsL_law := mr_38 _ (List.mem_of_getElem? (i := 10) rfl)
theorem k_38_11 : Cond.methodLink RX8 237 yX0_copy ∈ wsL_law := mr_38 _ (List.mem_of_getElem? (i := 11) rfl)
theorem k_38_12 : Cond.instanceMethod yX0_copy ∈ wsL_law := mr_38 _ (List.mem_of_getElem? (i := 12) rfl)
theorem k_38_13 : Cond.selects RX0 yX0_copy yX0_copy ∈ wsL_law := mr_38 _ (List.mem_of_getElem? (i := 13) rfl)
theorem k_38_14 : Cond.code yX0_copy cX0_copy 3 none ∈ wsL_law := mr_38 _ (List.mem_of_getElem? (i := 14) rfl)
theorem k_38_15 : Cond.methodLink RX0 27 arraycopyName ∈ wsL_law := mr_38 _ (List.mem_of_getElem? (i := 15) rfl)
theorem k_38_16 : Cond.fieldLink RX0 33 "SaidWoven$Book" "way" "I" ∈ wsL_law := mr_38 _ (List.mem_of_getElem? (i := 16) rfl)
theorem k_38_17 : Cond.fieldLink RX0 36 "SaidWoven$Book" "places" "I" ∈ wsL_law := mr_38 _ (List.mem_of_getElem? (i := 17) rfl)
theorem k_38_18 : Cond.methodLink RL 138 yX9_keep ∈ wsL_law := mr_38 _ (List.mem_of_getElem? (i := 18) rfl)
theorem k_38_19 : Cond.instanceMethod yX9_keep ∈ wsL_law := mr_38 _ (List.mem_of_getElem? (i := 19) rfl)
theorem k_38_20 : Cond.selects RX9 yX9_keep yX9_keep ∈ wsL_law := mr_38 _ (List.mem_of_getElem? (i := 20) rfl)
theorem k_38_21 : Cond.code yX9_keep cX9_keep 1 (some .int) ∈ wsL_law := mr_38 _ (List.mem_of_getElem? (i := 21) rfl)
theorem k_38_22 : Cond.methodLink RX9 279 yX9_copy ∈ wsL_law := mr_38 _ (List.mem_of_getElem? (i := 22) rfl)
theorem k_38_23 : Cond.instanceMethod yX9_copy ∈ wsL_law := mr_38 _ (List.mem_of_getElem? (i := 23) rfl)
theorem k_39_0 : Cond.selects RX9 yX9_copy yX9_copy ∈ wsL_law := mr_39 _ (List.mem_of_getElem? (i := 0) rfl)
theorem k_39_1 : Cond.code yX9_copy cX9_copy 4 none ∈ wsL_law := mr_39 _ (List.mem_of_getElem? (i := 1) rfl)
theorem k_39_2 : Cond.methodLink RL 139 yX8_back ∈ wsL_law := mr_39 _ (List.mem_of_getElem? (i := 2) rfl)
theorem k_39_3 : Cond.instanceMethod yX8_back ∈ wsL_law := mr_39 _ (List.mem_of_getElem? (i := 3) rfl)
theorem k_39_4 : Cond.selects RX8 yX8_back yX8_back ∈ wsL_law := mr_39 _ (List.mem_of_getElem? (i := 4) rfl)
theorem k_39_5 : Cond.code yX8_back cX8_back 1 (some .int) ∈ wsL_law := mr_39 _ (List.mem_of_getElem? (i := 5) rfl)
theorem k_39_6 : Cond.methodLink RL 142 yX9_back ∈ wsL_law := mr_39 _ (List.mem_of_getElem? (i := 6) rfl)
theorem k_39_7 : Cond.instanceMethod yX9_back ∈ wsL_law := mr_39 _ (List.mem_of_getElem? (i := 7) rfl)
theorem k_39_8 : Cond.selects RX9 yX9_back yX9_back ∈ wsL_law := mr_39 _ (List.mem_of_getElem? (i := 8) rfl)
theorem k_39_9 : Cond.code yX9_back cX9_back 1 (some .int) ∈ wsL_law := mr_39 _ (List.mem_of_getElem? (i := 9) rfl)
theorem k_39_10 : Cond.methodLink RL 143 yX8_count ∈ wsL_law := mr_39 _ (List.mem_of_getElem? (i := 10) rfl)
theorem k_39_11 : Cond.instanceMethod yX8_count ∈ wsL_law := mr_39 _ (List.mem_of_getElem? (i := 11) rfl)
theorem k_39_12 : Cond.selects RX8 yX8_count yX8_count ∈ wsL_law := mr_39 _ (List.mem_of_getElem? (i := 12) rfl)
theorem k_39_13 : Cond.code yX8_count cX8_count 2 (some .int) ∈ wsL_law := mr_39 _ (List.mem_of_getElem? (i := 13) rfl)
theorem k_39_14 : Cond.methodLink RX8 241 yX0_wordsInAll ∈ wsL_law := mr_39 _ (List.mem_of_getElem? (i := 14) rfl)
theorem k_39_15 : Cond.instanceMethod yX0_wordsInAll ∈ wsL_law := mr_39 _ (List.mem_of_getElem? (i := 15) rfl)
theorem k_39_16 : Cond.selects RX0 yX0_wordsInAll yX0_wordsInAll ∈ wsL_law := mr_39 _ (List.mem_of_getElem? (i := 16) rfl)
theorem k_39_17 : Cond.code yX0_wordsInAll cX0_wordsInAll 3 (some .int) ∈ wsL_law := mr_39 _ (List.mem_of_getElem? (i := 17) rfl)
theorem k_39_18 : Cond.methodLink RL 146 yX9_count ∈ wsL_law := mr_39 _ (List.mem_of_getElem? (i := 18) rfl)
theorem k_39_19 : Cond.instanceMethod yX9_count ∈ wsL_law := mr_39 _ (List.mem_of_getElem? (i := 19) rfl)
theorem k_39_20 : Cond.selects RX9 yX9_count yX9_count ∈ wsL_law := mr_39 _ (List.mem_of_getElem? (i := 20) rfl)
theorem k_39_21 : Cond.code yX9_count cX9_count 4 (some .int) ∈ wsL_law := mr_39 _ (List.mem_of_getElem? (i := 21) rfl)
theorem sh_0 : SH 0 = (8, 13) := rfl
theorem sh_1 : SH 1 = (4, 4) := rfl
theorem sh_2 : SH 2 = (10, 300) := rfl
theorem sh_3 : SH 3 = (11, 4) := rfl
theorem sh_4 : SH 4 = (6, 8) := rfl
theorem sh_5 : SH 5 = (11, 16) := rfl
theorem sh_6 : SH 6 = (11, 16) := rfl
theorem sh_7 : SH 7 = (11, 16) := rfl
theorem sh_8 : SH 8 = (11, 64) := rfl
theorem sh_9 : SH 9 = (11, 5) := rfl
theorem sh_10 : SH 10 = (11, 289) := rfl
theorem sh_11 : SH 11 = (11, 289) := rfl
theorem sh_12 : SH 12 = (6, 8) := rfl
theorem sh_13 : SH 13 = (11, 16) := rfl
theorem sh_14 : SH 14 = (11, 16) := rfl
theorem sh_15 : SH 15 = (11, 16) := rfl
theorem sh_16 : SH 16 = (11, 64) := rfl
theorem sh_17 : SH 17 = (11, 5) := rfl
theorem sh_18 : SH 18 = (11, 289) := rfl
theorem sh_19 : SH 19 = (11, 289) := rfl
theorem sh_20 : SH 20 = (0, 6) := rfl
theorem sh_21 : SH 21 = (14, 6) := rfl
theorem sh_22 : SH 22 = (11, 8) := rfl
theorem sh_23 : SH 23 = (11, 8) := rfl
theorem sh_24 : SH 24 = (11, 8) := rfl
theorem sh_25 : SH 25 = (11, 8) := rfl
theorem sh_26 : SH 26 = (11, 8) := rfl
theorem sh_27 : SH 27 = (11, 8) := rfl
theorem sh_28 : SH 28 = (11, 6) := rfl
theorem sh_29 : SH 29 = (11, 84) := rfl
theorem sh_30 : SH 30 = (0, 6) := rfl
theorem sh_31 : SH 31 = (14, 6) := rfl
theorem sh_32 : SH 32 = (11, 8) := rfl
theorem sh_33 : SH 33 = (11, 8) := rfl
theorem sh_34 : SH 34 = (11, 8) := rfl
theorem sh_35 : SH 35 = (11, 8) := rfl
theorem sh_36 : SH 36 = (11, 8) := rfl
theorem sh_37 : SH 37 = (11, 8) := rfl
theorem sh_38 : SH 38 = (11, 6) := rfl
theorem sh_39 : SH 39 = (11, 84) := rfl
theorem sh_40 : SH 40 = (0, 6) := rfl
theorem sh_41 : SH 41 = (14, 6) := rfl
theorem sh_42 : SH 42 = (11, 8) := rfl
theorem sh_43 : SH 43 = (11, 8) := rfl
theorem sh_44 : SH 44 = (11, 8) := rfl
theorem sh_45 : SH 45 = (11, 8) := rfl
theorem sh_46 : SH 46 = (11, 8) := rfl
theorem sh_47 : SH 47 = (11, 8) := rfl
theorem sh_48 : SH 48 = (11, 6) := rfl
theorem sh_49 : SH 49 = (11, 84) := rfl
theorem sh_50 : SH 50 = (1, 3) := rfl
theorem sh_51 : SH 51 = (11, 84) := rfl
theorem sh_52 : SH 52 = (13, 84) := rfl
theorem sh_53 : SH 53 = (3, 8) := rfl
theorem sh_54 : SH 54 = (14, 8) := rfl
theorem sh_55 : SH 55 = (11, 128) := rfl
theorem sh_56 : SH 56 = (11, 128) := rfl
theorem sh_57 : SH 57 = (11, 128) := rfl
theorem sh_58 : SH 58 = (11, 128) := rfl
theorem sh_59 : SH 59 = (11, 128) := rfl
theorem sh_60 : SH 60 = (11, 128) := rfl
theorem sh_61 : SH 61 = (11, 128) := rfl
theorem sh_62 : SH 62 = (11, 128) := rfl
theorem sh_63 : SH 63 = (15, 8) := rfl
theorem sh_64 : SH 64 = (12, 128) := rfl
theorem sh_65 : SH 65 = (12, 128) := rfl
theorem sh_66 : SH 66 = (12, 128) := rfl
theorem sh_67 : SH 67 = (12, 128) := rfl
theorem sh_68 : SH 68 = (12, 128) := rfl
theorem sh_69 : SH 69 = (12, 128) := rfl
theorem sh_70 : SH 70 = (12, 128) := rfl
theorem sh_71 : SH 71 = (12, 128) := rfl
theorem sh_72 : SH 72 = (11, 8) := rfl
theorem sh_73 : SH 73 = (7, 12) := rfl
theorem sh_74 : SH 74 = (11, 8) := rfl
theorem sh_75 : SH 75 = (14, 8) := rfl
theorem sh_76 : SH 76 = (11, 16) := rfl
theorem sh_77 : SH 77 = (11, 16) := rfl
theorem sh_78 : SH 78 = (11, 16) := rfl
theorem sh_79 : SH 79 = (11, 16) := rfl
theorem sh_80 : SH 80 = (11, 16) := rfl
theorem sh_81 : SH 81 = (11, 16) := rfl
theorem sh_82 : SH 82 = (11, 16) := rfl
theorem sh_83 : SH 83 = (11, 16) := rfl
theorem sh_84 : SH 84 = (14, 8) := rfl
theorem sh_85 : SH 85 = (11, 16) := rfl
theorem sh_86 : SH 86 = (11, 16) := rfl
theorem sh_87 : SH 87 = (11, 16) := rfl
theorem sh_88 : SH 88 = (11, 16) := rfl
theorem sh_89 : SH 89 = (11, 16) := rfl
theorem sh_90 : SH 90 = (11, 16) := rfl
theorem sh_91 : SH 91 = (11, 16) := rfl
theorem sh_92 : SH 92 = (11, 16) := rfl
theorem sh_93 : SH 93 = (14, 8) := rfl
theorem sh_94 : SH 94 = (11, 16) := rfl
theorem sh_95 : SH 95 = (11, 16) := rfl
theorem sh_96 : SH 96 = (11, 16) := rfl
theorem sh_97 : SH 97 = (11, 16) := rfl
theorem sh_98 : SH 98 = (11, 16) := rfl
theorem sh_99 : SH 99 = (11, 16) := rfl
theorem sh_100 : SH 100 = (11, 16) := rfl
theorem sh_101 : SH 101 = (11, 16) := rfl
theorem sh_102 : SH 102 = (14, 8) := rfl
theorem sh_103 : SH 103 = (11, 16) := rfl
theorem sh_104 : SH 104 = (11, 16) := rfl
theorem sh_105 : SH 105 = (11, 16) := rfl
theorem sh_106 : SH 106 = (11, 16) := rfl
theorem sh_107 : SH 107 = (11, 16) := rfl
theorem sh_108 : SH 108 = (11, 16) := rfl
theorem sh_109 : SH 109 = (11, 16) := rfl
theorem sh_110 : SH 110 = (11, 16) := rfl
theorem sh_111 : SH 111 = (14, 8) := rfl
theorem sh_112 : SH 112 = (11, 16) := rfl
theorem sh_113 : SH 113 = (11, 16) := rfl
theorem sh_114 : SH 114 = (11, 16) := rfl
theorem sh_115 : SH 115 = (11, 16) := rfl
theorem sh_116 : SH 116 = (11, 16) := rfl
theorem sh_117 : SH 117 = (11, 16) := rfl
theorem sh_118 : SH 118 = (11, 16) := rfl
theorem sh_119 : SH 119 = (11, 16) := rfl
theorem sh_120 : SH 120 = (11, 8) := rfl
theorem sh_121 : SH 121 = (14, 8) := rfl
theorem sh_122 : SH 122 = (11, 3) := rfl
theorem sh_123 : SH 123 = (11, 3) := rfl
theorem sh_124 : SH 124 = (11, 3) := rfl
theorem sh_125 : SH 125 = (11, 3) := rfl
theorem sh_126 : SH 126 = (11, 3) := rfl
theorem sh_127 : SH 127 = (11, 3) := rfl
theorem sh_128 : SH 128 = (11, 3) := rfl
theorem sh_129 : SH 129 = (11, 3) := rfl
theorem sh_130 : SH 130 = (14, 8) := rfl
theorem sh_131 : SH 131 = (11, 3) := rfl
theorem sh_132 : SH 132 = (11, 3) := rfl
theorem sh_133 : SH 133 = (11, 3) := rfl
theorem sh_134 : SH 134 = (11, 3) := rfl
theorem sh_135 : SH 135 = (11, 3) := rfl
theorem sh_136 : SH 136 = (11, 3) := rfl
theorem sh_137 : SH 137 = (11, 3) := rfl
theorem sh_138 : SH 138 = (11, 3) := rfl
theorem sh_139 : SH 139 = (14, 8) := rfl
theorem sh_140 : SH 140 = (11, 3) := rfl
theorem sh_141 : SH 141 = (11, 3) := rfl
theorem sh_142 : SH 142 = (11, 3) := rfl
theorem sh_143 : SH 143 = (11, 3) := rfl
theorem sh_144 : SH 144 = (11, 3) := rfl
theorem sh_145 : SH 145 = (11, 3) := rfl
theorem sh_146 : SH 146 = (11, 3) := rfl
theorem sh_147 : SH 147 = (11, 3) := rfl
theorem sh_148 : SH 148 = (11, 3) := rfl
theorem sh_149 : SH 149 = (5, 5) := rfl
theorem sh_150 : SH 150 = (11, 20) := rfl
theorem sh_151 : SH 151 = (11, 20) := rfl
theorem sh_152 : SH 152 = (11, 20) := rfl
theorem sh_153 : SH 153 = (11, 20) := rfl
theorem sh_154 : SH 154 = (2, 5) := rfl
theorem sh_155 : SH 155 = (13, 16) := rfl
theorem sh_156 : SH 156 = (11, 16) := rfl
theorem sh_157 : SH 157 = (11, 16) := rfl
theorem sh_158 : SH 158 = (11, 16) := rfl
theorem sh_159 : SH 159 = (11, 8) := rfl
theorem sh_160 : SH 160 = (11, 32) := rfl
theorem sh_161 : SH 161 = (9, 32) := rfl
theorem sh_162 : SH 162 = (11, 300) := rfl
theorem sh_163 : SH 163 = (11, 2) := rfl
theorem sh_164 : SH 164 = (11, 96) := rfl
theorem sh_165 : SH 165 = (11, 128) := rfl
theorem sh_166 : SH 166 = (11, 10) := rfl
theorem sh_167 : SH 167 = (11, 18) := rfl
theorem sh_168 : SH 168 = (11, 144) := rfl
theorem sh_169 : SH 169 = (11, 3) := rfl
theorem sh_170 : SH 170 = (11, 3) := rfl
theorem sh_171 : SH 171 = (11, 3) := rfl
theorem sh_172 : SH 172 = (11, 252) := rfl
theorem sh_173 : SH 173 = (11, 60) := rfl
theorem sh_174 : SH 174 = (11, 64) := rfl
theorem sh_175 : SH 175 = (11, 4) := rfl
theorem sh_176 : SH 176 = (11, 168) := rfl
theorem sh_177 : SH 177 = (11, 168) := rfl
theorem sh_178 : SH 178 = (11, 168) := rfl
theorem sh_179 : SH 179 = (11, 8) := rfl
theorem sh_180 : SH 180 = (11, 168) := rfl
theorem sh_181 : SH 181 = (11, 8) := rfl
theorem sh_182 : SH 182 = (11, 168) := rfl
theorem sh_183 : SH 183 = (11, 2304) := rfl
theorem sh_184 : SH 184 = (12, 2304) := rfl
theorem sh_185 : SH 185 = (12, 2304) := rfl
theorem sh_186 : SH 186 = (11, 20) := rfl
abbrev isI (q n : Nat) : Prop := SH q = (11, n) ∧ q ≤ 186
abbrev isJ (q n : Nat) : Prop := SH q = (12, n) ∧ q ≤ 186
theorem mq_0 : 0 ≤ mx 0 := by decide
theorem mq_1 : 1 ≤ mx 1 := by decide
theorem mq_4 : 4 ≤ mx 4 := by decide
theorem mq_12 : 12 ≤ mx 12 := by decide
theorem mq_20 : 20 ≤ mx 20 := by decide
theorem mq_30 : 30 ≤ mx 30 := by decide
theorem mq_40 : 40 ≤ mx 40 := by decide
theorem mq_50 : 50 ≤ mx 50 := by decide
theorem mq_53 : 53 ≤ mx 53 := by decide
theorem mq_73 : 73 ≤ mx 73 := by decide
theorem mq_149 : 149 ≤ mx 149 := by decide
theorem mq_154 : 154 ≤ mx 154 := by decide
theorem mq_161 : 161 ≤ mx 161 := by decide
theorem cr_0_0 : (0, 1) ∈ CR 0 := by decide
theorem cr_0_3 : (3, 20) ∈ CR 0 := by decide
theorem cr_0_4 : (4, 30) ∈ CR 0 := by decide
theorem cr_0_5 : (5, 40) ∈ CR 0 := by decide
theorem cr_0_7 : (7, 50) ∈ CR 0 := by decide
theorem cr_0_8 : (8, 53) ∈ CR 0 := by decide
theorem cr_0_9 : (9, 149) ∈ CR 0 := by decide
theorem cr_0_10 : (10, 154) ∈ CR 0 := by decide
theorem cr_0_11 : (11, 159) ∈ CR 0 := by decide
theorem cr_0_12 : (12, 160) ∈ CR 0 := by decide
theorem cr_1_0 : (0, 2) ∈ CR 1 := by decide
theorem cr_1_3 : (3, 3) ∈ CR 1 := by decide
theorem cr_4_1 : (1, 5) ∈ CR 4 := by decide
theorem cr_4_2 : (2, 6) ∈ CR 4 := by decide
theorem cr_4_3 : (3, 7) ∈ CR 4 := by decide
theorem cr_4_4 : (4, 8) ∈ CR 4 := by decide
theorem cr_4_5 : (5, 9) ∈ CR 4 := by decide
theorem cr_4_6 : (6, 10) ∈ CR 4 := by decide
theorem cr_4_7 : (7, 11) ∈ CR 4 := by decide
theorem cr_12_1 : (1, 13) ∈ CR 12 := by decide
theorem cr_12_2 : (2, 14) ∈ CR 12 := by decide
theorem cr_12_3 : (3, 15) ∈ CR 12 := by decide
theorem cr_12_4 : (4, 16) ∈ CR 12 := by decide
theorem cr_12_5 : (5, 17) ∈ CR 12 := by decide
theorem cr_12_6 : (6, 18) ∈ CR 12 := by decide
theorem cr_12_7 : (7, 19) ∈ CR 12 := by decide
theorem cr_20_0 : (0, 21) ∈ CR 20 := by decide
theorem cr_20_1 : (1, 28) ∈ CR 20 := by decide
theorem cr_20_2 : (2, 29) ∈ CR 20 := by decide
theorem cr_30_0 : (0, 31) ∈ CR 30 := by decide
theorem cr_30_1 : (1, 38) ∈ CR 30 := by decide
theorem cr_30_2 : (2, 39) ∈ CR 30 := by decide
theorem cr_40_0 : (0, 41) ∈ CR 40 := by decide
theorem cr_40_1 : (1, 48) ∈ CR 40 := by decide
theorem cr_40_2 : (2, 49) ∈ CR 40 := by decide
theorem cr_50_1 : (1, 51) ∈ CR 50 := by decide
theorem cr_50_2 : (2, 52) ∈ CR 50 := by decide
theorem cr_53_0 : (0, 73) ∈ CR 53 := by decide
theorem cr_53_5 : (5, 54) ∈ CR 53 := by decide
theorem cr_53_6 : (6, 63) ∈ CR 53 := by decide
theorem cr_53_7 : (7, 72) ∈ CR 53 := by decide
theorem cr_73_1 : (1, 74) ∈ CR 73 := by decide
theorem cr_73_2 : (2, 75) ∈ CR 73 := by decide
theorem cr_73_3 : (3, 84) ∈ CR 73 := by decide
theorem cr_73_4 : (4, 93) ∈ CR 73 := by decide
theorem cr_73_5 : (5, 102) ∈ CR 73 := by decide
theorem cr_73_6 : (6, 111) ∈ CR 73 := by decide
theorem cr_73_7 : (7, 120) ∈ CR 73 := by decide
theorem cr_73_8 : (8, 121) ∈ CR 73 := by decide
theorem cr_73_9 : (9, 130) ∈ CR 73 := by decide
theorem cr_73_10 : (10, 139) ∈ CR 73 := by decide
theorem cr_73_11 : (11, 148) ∈ CR 73 := by decide
theorem cr_149_1 : (1, 150) ∈ CR 149 := by decide
theorem cr_149_2 : (2, 151) ∈ CR 149 := by decide
theorem cr_149_3 : (3, 152) ∈ CR 149 := by decide
theorem cr_149_4 : (4, 153) ∈ CR 149 := by decide
theorem cr_154_1 : (1, 155) ∈ CR 154 := by decide
theorem cr_154_2 : (2, 156) ∈ CR 154 := by decide
theorem cr_154_3 : (3, 157) ∈ CR 154 := by decide
theorem cr_154_4 : (4, 158) ∈ CR 154 := by decide
theorem cr_161_1 : (1, 162) ∈ CR 161 := by decide
theorem cr_161_2 : (2, 163) ∈ CR 161 := by decide
theorem cr_161_3 : (3, 164) ∈ CR 161 := by decide
theorem cr_161_4 : (4, 165) ∈ CR 161 := by decide
theorem cr_161_5 : (5, 166) ∈ CR 161 := by decide
theorem cr_161_6 : (6, 167) ∈ CR 161 := by decide
theorem cr_161_7 : (7, 168) ∈ CR 161 := by decide
theorem cr_161_8 : (8, 169) ∈ CR 161 := by decide
theorem cr_161_9 : (9, 170) ∈ CR 161 := by decide
theorem cr_161_10 : (10, 171) ∈ CR 161 := by decide
theorem cr_161_11 : (11, 172) ∈ CR 161 := by decide
theorem cr_161_14 : (14, 173) ∈ CR 161 := by decide
theorem cr_161_16 : (16, 174) ∈ CR 161 := by decide
theorem cr_161_18 : (18, 175) ∈ CR 161 := by decide
theorem cr_161_20 : (20, 176) ∈ CR 161 := by decide
theorem cr_161_21 : (21, 177) ∈ CR 161 := by decide
theorem cr_161_22 : (22, 178) ∈ CR 161 := by decide
theorem cr_161_24 : (24, 179) ∈ CR 161 := by decide
theorem cr_161_25 : (25, 180) ∈ CR 161 := by decide
theorem cr_161_26 : (26, 181) ∈ CR 161 := by decide
theorem cr_161_27 : (27, 182) ∈ CR 161 := by decide
theorem cr_161_28 : (28, 183) ∈ CR 161 := by decide
theorem cr_161_29 : (29, 184) ∈ CR 161 := by decide
theorem cr_161_30 : (30, 185) ∈ CR 161 := by decide
theorem cr_161_31 : (31, 186) ∈ CR 161 := by decide
theorem shT {t : Nat} (h : isT t) : SH t = (6, 8) := by rcases h with rfl | rfl <;> rfl
theorem leT {t : Nat} (h : isT t) : t ≤ 186 := by rcases h with rfl | rfl <;> decide
theorem mqT {t : Nat} (h : isT t) : t ≤ mx t := by rcases h with rfl | rfl <;> decide
theorem crT_1 {t : Nat} (h : isT t) : (1, t + 1) ∈ CR t := by rcases h with rfl | rfl <;> decide
theorem shT_1 {t : Nat} (h : isT t) : SH (t + 1) = (11, 16) := by rcases h with rfl | rfl <;> rfl
theorem leT_1 {t : Nat} (h : isT t) : t + 1 ≤ 186 := by rcases h with rfl | rfl <;> decide
theorem crT_2 {t : Nat} (h : isT t) : (2, t + 2) ∈ CR t := by rcases h with rfl | rfl <;> decide
theorem shT_2 {t : Nat} (h : isT t) : SH (t + 2) = (11, 16) := by rcases h with rfl | rfl <;> rfl
theorem leT_2 {t : Nat} (h : isT t) : t + 2 ≤ 186 := by rcases h with rfl | rfl <;> decide
theorem crT_3 {t : Nat} (h : isT t) : (3, t + 3) ∈ CR t := by rcases h with rfl | rfl <;> decide
theorem shT_3 {t : Nat} (h : isT t) : SH (t + 3) = (11, 16) := by rcases h with rfl | rfl <;> rfl
theorem leT_3 {t : Nat} (h : isT t) : t + 3 ≤ 186 := by rcases h with rfl | rfl <;> decide
theorem crT_4 {t : Nat} (h : isT t) : (4, t + 4) ∈ CR t := by rcases h with rfl | rfl <;> decide
theorem shT_4 {t : Nat} (h : isT t) : SH (t + 4) = (11, 64) := by rcases h with rfl | rfl <;> rfl
theorem leT_4 {t : Nat} (h : isT t) : t + 4 ≤ 186 := by rcases h with rfl | rfl <;> decide
theorem crT_5 {t : Nat} (h : isT t) : (5, t + 5) ∈ CR t := by rcases h with rfl | rfl <;> decide
theorem shT_5 {t : Nat} (h : isT t) : SH (t + 5) = (11, 5) := by rcases h with rfl | rfl <;> rfl
theorem leT_5 {t : Nat} (h : isT t) : t + 5 ≤ 186 := by rcases h with rfl | rfl <;> decide
theorem crT_6 {t : Nat} (h : isT t) : (6, t + 6) ∈ CR t := by rcases h with rfl | rfl <;> decide
theorem shT_6 {t : Nat} (h : isT t) : SH (t + 6) = (11, 289) := by rcases h with rfl | rfl <;> rfl
theorem leT_6 {t : Nat} (h : isT t) : t + 6 ≤ 186 := by rcases h with rfl | rfl <;> decide
theorem crT_7 {t : Nat} (h : isT t) : (7, t + 7) ∈ CR t := by rcases h with rfl | rfl <;> decide
theorem shT_7 {t : Nat} (h : isT t) : SH (t + 7) = (11, 289) := by rcases h with rfl | rfl <;> rfl
theorem leT_7 {t : Nat} (h : isT t) : t + 7 ≤ 186 := by rcases h with rfl | rfl <;> decide
theorem shB {t : Nat} (h : isB t) : SH t = (0, 6) := by rcases h with rfl | rfl | rfl <;> rfl
theorem leB {t : Nat} (h : isB t) : t ≤ 186 := by rcases h with rfl | rfl | rfl <;> decide
theorem mqB {t : Nat} (h : isB t) : t ≤ mx t := by rcases h with rfl | rfl | rfl <;> decide
theorem crB_0 {t : Nat} (h : isB t) : (0, t + 1) ∈ CR t := by rcases h with rfl | rfl | rfl <;> decide
theorem shB_1 {t : Nat} (h : isB t) : SH (t + 1) = (14, 6) := by rcases h with rfl | rfl | rfl <;> rfl
theorem leB_1 {t : Nat} (h : isB t) : t + 1 ≤ 186 := by rcases h with rfl | rfl | rfl <;> decide
theorem crB_1 {t : Nat} (h : isB t) : (1, t + 8) ∈ CR t := by rcases h with rfl | rfl | rfl <;> decide
theorem shB_8 {t : Nat} (h : isB t) : SH (t + 8) = (11, 6) := by rcases h with rfl | rfl | rfl <;> rfl
theorem leB_8 {t : Nat} (h : isB t) : t + 8 ≤ 186 := by rcases h with rfl | rfl | rfl <;> decide
theorem crB_2 {t : Nat} (h : isB t) : (2, t + 9) ∈ CR t := by rcases h with rfl | rfl | rfl <;> decide
theorem shB_9 {t : Nat} (h : isB t) : SH (t + 9) = (11, 84) := by rcases h with rfl | rfl | rfl <;> rfl
theorem leB_9 {t : Nat} (h : isB t) : t + 9 ≤ 186 := by rcases h with rfl | rfl | rfl <;> decide
theorem inb_lt {i : Int32} {n : Nat} (h : inb i n) : i.toNatClampNeg < n := Nat.not_le.mp fun z => h (Or.inr z)
theorem row_21 {i : Int32} (h : inb i 6) : isI (21 + 1 + i.toNatClampNeg) 8 := by
  have hj := inb_lt h
  generalize i.toNatClampNeg = j at hj
  have key : ∀ j, j < 6 → isI (21 + 1 + j) 8 := by decide
  exact key j hj
theorem row_31 {i : Int32} (h : inb i 6) : isI (31 + 1 + i.toNatClampNeg) 8 := by
  have hj := inb_lt h
  generalize i.toNatClampNeg = j at hj
  have key : ∀ j, j < 6 → isI (31 + 1 + j) 8 := by decide
  exact key j hj
theorem row_41 {i : Int32} (h : inb i 6) : isI (41 + 1 + i.toNatClampNeg) 8 := by
  have hj := inb_lt h
  generalize i.toNatClampNeg = j at hj
  have key : ∀ j, j < 6 → isI (41 + 1 + j) 8 := by decide
  exact key j hj
theorem row_54 {i : Int32} (h : inb i 8) : isI (54 + 1 + i.toNatClampNeg) 128 := by
  have hj := inb_lt h
  generalize i.toNatClampNeg = j at hj
  have key : ∀ j, j < 8 → isI (54 + 1 + j) 128 := by decide
  exact key j hj
theorem row_63 {i : Int32} (h : inb i 8) : isJ (63 + 1 + i.toNatClampNeg) 128 := by
  have hj := inb_lt h
  generalize i.toNatClampNeg = j at hj
  have key : ∀ j, j < 8 → isJ (63 + 1 + j) 128 := by decide
  exact key j hj
theorem row_75 {i : Int32} (h : inb i 8) : isI (75 + 1 + i.toNatClampNeg) 16 := by
  have hj := inb_lt h
  generalize i.toNatClampNeg = j at hj
  have key : ∀ j, j < 8 → isI (75 + 1 + j) 16 := by decide
  exact key j hj
theorem row_84 {i : Int32} (h : inb i 8) : isI (84 + 1 + i.toNatClampNeg) 16 := by
  have hj := inb_lt h
  generalize i.toNatClampNeg = j at hj
  have key : ∀ j, j < 8 → isI (84 + 1 + j) 16 := by decide
  exact key j hj
theorem row_93 {i : Int32} (h : inb i 8) : isI (93 + 1 + i.toNatClampNeg) 16 := by
  have hj := inb_lt h
  generalize i.toNatClampNeg = j at hj
  have key : ∀ j, j < 8 → isI (93 + 1 + j) 16 := by decide
  exact key j hj
theorem row_102 {i : Int32} (h : inb i 8) : isI (102 + 1 + i.toNatClampNeg) 16 := by
  have hj := inb_lt h
  generalize i.toNatClampNeg = j at hj
  have key : ∀ j, j < 8 → isI (102 + 1 + j) 16 := by decide
  exact key j hj
theorem row_111 {i : Int32} (h : inb i 8) : isI (111 + 1 + i.toNatClampNeg) 16 := by
  have hj := inb_lt h
  generalize i.toNatClampNeg = j at hj
  have key : ∀ j, j < 8 → isI (111 + 1 + j) 16 := by decide
  exact key j hj
theorem row_121 {i : Int32} (h : inb i 8) : isI (121 + 1 + i.toNatClampNeg) 3 := by
  have hj := inb_lt h
  generalize i.toNatClampNeg = j at hj
  have key : ∀ j, j < 8 → isI (121 + 1 + j) 3 := by decide
  exact key j hj
theorem row_130 {i : Int32} (h : inb i 8) : isI (130 + 1 + i.toNatClampNeg) 3 := by
  have hj := inb_lt h
  generalize i.toNatClampNeg = j at hj
  have key : ∀ j, j < 8 → isI (130 + 1 + j) 3 := by decide
  exact key j hj
theorem row_139 {i : Int32} (h : inb i 8) : isI (139 + 1 + i.toNatClampNeg) 3 := by
  have hj := inb_lt h
  generalize i.toNatClampNeg = j at hj
  have key : ∀ j, j < 8 → isI (139 + 1 + j) 3 := by decide
  exact key j hj
theorem rowB {b : Nat} (hb : isB b) {i : Int32} (h : inb i 6) : isI (b + 1 + 1 + i.toNatClampNeg) 8 := by
  have hj := inb_lt h
  generalize i.toNatClampNeg = j at hj
  rcases hb with rfl | rfl | rfl
  · have key : ∀ j, j < 6 → isI (20 + 1 + 1 + j) 8 := by decide
    exact key j hj
  · have key : ∀ j, j < 6 → isI (30 + 1 + 1 + j) 8 := by decide
    exact key j hj
  · have key : ∀ j, j < 6 → isI (40 + 1 + 1 + j) 8 := by decide
    exact key j hj
abbrev rmz (fr lo : Nat) : Room := { frames := fr, cells := 0, slots := 0, locals := lo }
/-- what a method that makes nothing stands in -/
def Sta (X : Cx) (fr lo nL : Nat) : Prop := cxG X = Gall ∧ cxN X = nL ∧ cxMc X = 0 ∧ cxMs X = 0 ∧ cxR X = rmz fr lo ∧ cxQ X = stdQ X
theorem Sta.e {X : Cx} {fr lo nL : Nat} (h : Sta X fr lo nL) {q : Nat} (hq : q ≤ 186) : Ex (cxG X) q := by rw [h.1]; exact ex_all hq
theorem Sta.g {X : Cx} {fr lo nL : Nat} (h : Sta X fr lo nL) {q : Nat} (hq : q ≤ 186) : cxG X q := by rw [h.1]; exact hq
theorem Sta.n {X : Cx} {fr lo nL : Nat} (h : Sta X fr lo nL) {i : Nat} (hi : i < nL) : i < cxN X := by rw [h.2.1]; exact hi
theorem Sta.q {X : Cx} {fr lo nL : Nat} (h : Sta X fr lo nL) : cxQ X = stdQ X := h.2.2.2.2.2
theorem Sta.m {X : Cx} {fr lo nL : Nat} (h : Sta X fr lo nL) : cxMc X = 0 ∧ cxMs X = 0 := ⟨h.2.2.1, h.2.2.2.1⟩
section RL0
variable {X : Cx} {R : Type} {enc : R → Option Value} {pc : Nat} {lv lv' : List (Nat × Value)} {st : List Value} {k : M R} {own : String} {cc : ByteArray} {ret : Option FieldType} {fr lo fr' lo' nL : Nat}
theorem tr_iret0 {v : Int32} (hX : Good X own cc (some .int)) (hS : Sta X fr lo nL) (hd : decode cc pc = .ok (.ireturn, 1)) : Tr X eI 0 0 pc lv [.int v] (rt v) := by
  have h := tr_iret (lv := lv) (v := v) hX hS.q hd
  rw [hS.m.1, hS.m.2] at h
  exact h
theorem tr_zret0 {v : Int32} (hX : Good X own cc (some .boolean)) (hS : Sta X fr lo nL) (hd : decode cc pc = .ok (.ireturn, 1)) : Tr X eI 0 0 pc lv [.int v] (gd (v = 0 ∨ v = 1) (rt v)) := by
  have h := tr_zret (lv := lv) (v := v) hX hS.q hd
  rw [hS.m.1, hS.m.2] at h
  exact h
theorem tr_lret0 {v : Int64} (hX : Good X own cc (some .long)) (hS : Sta X fr lo nL) (hd : decode cc pc = .ok (.lreturn, 1)) : Tr X eL 0 0 pc lv [.long v] (rt v) := by
  have h := tr_lret (lv := lv) (v := v) hX hS.q hd
  rw [hS.m.1, hS.m.2] at h
  exact h
theorem tr_vret0 (hX : Good X own cc none) (hS : Sta X fr lo nL) (hd : decode cc pc = .ok (.return_, 1)) : Tr X eU 0 0 pc lv [] (rt ()) := by
  have h := tr_vret (lv := lv) hX hS.q hd
  rw [hS.m.1, hS.m.2] at h
  exact h
theorem tr_aret0 {q : Nat} {C : String} (hX : Good X own cc (some (.object C))) (hS : Sta X fr lo nL) (hd : decode cc pc = .ok (.areturn, 1)) : Tr X (eR (cxAd X)) 0 0 pc lv [.ref (cxAd X q)] (rt q) := by
  have h := tr_aret (lv := lv) (q := q) hX hS.q hd
  rw [hS.m.1, hS.m.2] at h
  exact h
variable {S : Type} {enc' : S → Option Value} {f : M S} {K : S → M R} {q ci N index n maxL : Nat} {C : String} {T : u_T} {y : MethodName} {bytes : ByteArray} {ret' : Option FieldType} {As : List Value}
theorem rmle (hS : Sta X fr lo nL) (h : (Nat.ble (fr' + 1) fr && Nat.ble (8 + (maxL + 11) + lo') lo) = true) : (rmz fr' lo').frames + 1 ≤ (cxR X).frames ∧ 8 + (maxL + 11) + (rmz fr' lo').locals ≤ (cxR X).locals := by
  rw [hS.2.2.2.2.1]
  simp only [Bool.and_eq_true] at h
  exact ⟨Nat.le_of_ble_eq_true h.1, Nat.le_of_ble_eq_true h.2⟩
theorem tr_callV0 (n : Nat) (hX : Good X own cc ret) (hS : Sta X fr lo nL) (hd : decode cc pc = .ok (.invokevirtual index, 3)) (hO : Ok (cxL X) (cxV X) Gall y bytes maxL ret' (rmz fr' lo') enc' (.ref (cxAd X q) :: As) f) (hs : SH q = (ci, N)) (hci : ci < 10) (hc : vwCl[ci]? = some (C, T, N)) (hq : q ≤ 186)
    (h1 : Cond.methodLink own index y ∈ wsL_law) (h2 : Cond.instanceMethod y ∈ wsL_law) (h3 : Cond.selects C y y ∈ wsL_law) (h4 : Cond.initialized C ∈ wsL_law) (h5 : Cond.code y bytes maxL ret' ∈ wsL_law)
    (hy : y.cls = C ∧ y.cls ≠ "java/lang/invoke/MethodHandle" ∧ y.cls ≠ "java/lang/invoke/VarHandle" ∧ (parseMethodDescriptor y.desc).map (fun d => d.parameters.length) = some n) (hn : As.length = n)
    (hR : (Nat.ble (fr' + 1) fr && Nat.ble (8 + (maxL + 11) + lo') lo) = true) (hW : (st.map fun v => v.category).sum ≤ 8)
    {st0 : List Value} (hst : st0 = As.reverse ++ .ref (cxAd X q) :: st) (h : ∀ v, Tr X enc 0 0 (pc + 3) lv ((enc' v).toList ++ st) (K v)) : Tr X enc 0 0 pc lv st0 (bnd f K) :=
  tr_callV n hX hd (by rw [hS.1]; exact hO) hs hci hc (hS.e hq) h1 h2 h3 h4 h5 hy hn (rmle hS hR) ⟨Nat.zero_le _, Nat.zero_le _⟩ hW hst h
theorem tr_callS0 (n : Nat) (hX : Good X own cc ret) (hS : Sta X fr lo nL) (hd : decode cc pc = .ok (.invokestatic index, 3)) (hO : Ok (cxL X) (cxV X) Gall y bytes maxL ret' (rmz fr' lo') enc' As f)
    (h1 : Cond.methodLink own index y ∈ wsL_law) (h2 : Cond.static y ∈ wsL_law) (h3 : Cond.initialized y.cls ∈ wsL_law) (h5 : Cond.code y bytes maxL ret' ∈ wsL_law)
    (hy : y.cls ≠ "java/lang/invoke/MethodHandle" ∧ y.cls ≠ "java/lang/invoke/VarHandle" ∧ (parseMethodDescriptor y.desc).map (fun d => d.parameters.length) = some n) (hn : As.length = n)
    (hR : (Nat.ble (fr' + 1) fr && Nat.ble (8 + (maxL + 11) + lo') lo) = true) (hW : (st.map fun v => v.category).sum ≤ 8)
    {st0 : List Value} (hst : st0 = As.reverse ++ st) (h : ∀ v, Tr X enc 0 0 (pc + 3) lv ((enc' v).toList ++ st) (K v)) : Tr X enc 0 0 pc lv st0 (bnd f K) :=
  tr_callSO n hX hd (by rw [hS.1]; exact hO) h1 h2 h3 h5 hy hn (rmle hS hR) ⟨Nat.zero_le _, Nat.zero_le _⟩ hW hst h
theorem tr_callN0 (n : Nat) {host : String} (hX : Good X own cc ret) (hS : Sta X fr lo nL) (hd : decode cc pc = .ok (.invokestatic index, 3)) (hO : Ok (cxL X) (cxV X) Gall y bytes maxL ret' (rmz fr' lo') enc' As f)
    (h1 : Cond.methodLinkNest own index y host ∈ NW) (h2 : Cond.static y ∈ wsL_law) (h3 : Cond.initialized y.cls ∈ wsL_law) (h5 : Cond.code y bytes maxL ret' ∈ wsL_law)
    (hy : y.cls ≠ "java/lang/invoke/MethodHandle" ∧ y.cls ≠ "java/lang/invoke/VarHandle" ∧ (parseMethodDescriptor y.desc).map (fun d => d.parameters.length) = some n) (hn : As.length = n)
    (hR : (Nat.ble (fr' + 1) fr && Nat.ble (8 + (maxL + 11) + lo') lo) = true) (hW : (st.map fun v => v.category).sum ≤ 8)
    {st0 : List Value} (hst : st0 = As.reverse ++ st) (h : ∀ v, Tr X enc 0 0 (pc + 3) lv ((enc' v).toList ++ st) (K v)) : Tr X enc 0 0 pc lv st0 (bnd f K) :=
  tr_callSN n (host := host) hX hd (by rw [hS.1]; exact hO) h1 h2 h3 h5 hy hn (rmle hS hR) ⟨Nat.zero_le _, Nat.zero_le _⟩ hW hst h
theorem tr_callV0I {f : M Int32} {K : Int32 → M R} (n : Nat) (hX : Good X own cc ret) (hS : Sta X fr lo nL) (hd : decode cc pc = .ok (.invokevirtual index, 3)) (hO : Ok (cxL X) (cxV X) Gall y bytes maxL ret' (rmz fr' lo') eI (.ref (cxAd X q) :: As) f) (hs : SH q = (ci, N)) (hci : ci < 10) (hc : vwCl[ci]? = some (C, T, N)) (hq : q ≤ 186)
    (h1 : Cond.methodLink own index y ∈ wsL_law) (h2 : Cond.instanceMethod y ∈ wsL_law) (h3 : Cond.selects C y y ∈ wsL_law) (h4 : Cond.initialized C ∈ wsL_law) (h5 : Cond.code y bytes maxL ret' ∈ wsL_law)
    (hy : y.cls = C ∧ y.cls ≠ "java/lang/invoke/MethodHandle" ∧ y.cls ≠ "java/lang/invoke/VarHandle" ∧ (parseMethodDescriptor y.desc).map (fun d => d.parameters.length) = some n) (hn : As.length = n)
    (hR : (Nat.ble (fr' + 1) fr && Nat.ble (8 + (maxL + 11) + lo') lo) = true) (hW : (st.map fun v => v.category).sum ≤ 8)
    {st0 : List Value} (hst : st0 = As.reverse ++ .ref (cxAd X q) :: st) (h : ∀ v, Tr X enc 0 0 (pc + 3) lv (.int v :: st) (K v)) : Tr X enc 0 0 pc lv st0 (bnd (A := Int32) f K) :=
  tr_callV0 n hX hS hd hO hs hci hc hq h1 h2 h3 h4 h5 hy hn hR hW hst h
theorem tr_callV0L {f : M Int64} {K : Int64 → M R} (n : Nat) (hX : Good X own cc ret) (hS : Sta X fr lo nL) (hd : decode cc pc = .ok (.invokevirtual index, 3)) (hO : Ok (cxL X) (cxV X) Gall y bytes maxL ret' (rmz fr' lo') eL (.ref (cxAd X q) :: As) f) (hs : SH q = (ci, N)) (hci : ci < 10) (hc : vwCl[ci]? = some (C, T, N)) (hq : q ≤ 186)
    (h1 : Cond.methodLink own index y ∈ wsL_law) (h2 : Cond.instanceMethod y ∈ wsL_law) (h3 : Cond.selects C y y ∈ wsL_law) (h4 : Cond.initialized C ∈ wsL_law) (h5 : Cond.code y bytes maxL ret' ∈ wsL_law)
    (hy : y.cls = C ∧ y.cls ≠ "java/lang/invoke/MethodHandle" ∧ y.cls ≠ "java/lang/invoke/VarHandle" ∧ (parseMethodDescriptor y.desc).map (fun d => d.parameters.length) = some n) (hn : As.length = n)
    (hR : (Nat.ble (fr' + 1) fr && Nat.ble (8 + (maxL + 11) + lo') lo) = true) (hW : (st.map fun v => v.category).sum ≤ 8)
    {st0 : List Value} (hst : st0 = As.reverse ++ .ref (cxAd X q) :: st) (h : ∀ v, Tr X enc 0 0 (pc + 3) lv (.long v :: st) (K v)) : Tr X enc 0 0 pc lv st0 (bnd (A := Int64) f K) :=
  tr_callV0 n hX hS hd hO hs hci hc hq h1 h2 h3 h4 h5 hy hn hR hW hst h
theorem tr_callV0U {f : M Unit} {K : Unit → M R} (n : Nat) (hX : Good X own cc ret) (hS : Sta X fr lo nL) (hd : decode cc pc = .ok (.invokevirtual index, 3)) (hO : Ok (cxL X) (cxV X) Gall y bytes maxL ret' (rmz fr' lo') eU (.ref (cxAd X q) :: As) f) (hs : SH q = (ci, N)) (hci : ci < 10) (hc : vwCl[ci]? = some (C, T, N)) (hq : q ≤ 186)
    (h1 : Cond.methodLink own index y ∈ wsL_law) (h2 : Cond.instanceMethod y ∈ wsL_law) (h3 : Cond.selects C y y ∈ wsL_law) (h4 : Cond.initialized C ∈ wsL_law) (h5 : Cond.code y bytes maxL ret' ∈ wsL_law)
    (hy : y.cls = C ∧ y.cls ≠ "java/lang/invoke/MethodHandle" ∧ y.cls ≠ "java/lang/invoke/VarHandle" ∧ (parseMethodDescriptor y.desc).map (fun d => d.parameters.length) = some n) (hn : As.length = n)
    (hR : (Nat.ble (fr' + 1) fr && Nat.ble (8 + (maxL + 11) + lo') lo) = true) (hW : (st.map fun v => v.category).sum ≤ 8)
    {st0 : List Value} (hst : st0 = As.reverse ++ .ref (cxAd X q) :: st) (h : ∀ v, Tr X enc 0 0 (pc + 3) lv st (K v)) : Tr X enc 0 0 pc lv st0 (bnd (A := Unit) f K) :=
  tr_callV0 n hX hS hd hO hs hci hc hq h1 h2 h3 h4 h5 hy hn hR hW hst h
theorem tr_callV0R {f : M Nat} {K : Nat → M R} (n : Nat) (hX : Good X own cc ret) (hS : Sta X fr lo nL) (hd : decode cc pc = .ok (.invokevirtual index, 3)) (hO : Ok (cxL X) (cxV X) Gall y bytes maxL ret' (rmz fr' lo') (eR (cxAd X)) (.ref (cxAd X q) :: As) f) (hs : SH q = (ci, N)) (hci : ci < 10) (hc : vwCl[ci]? = some (C, T, N)) (hq : q ≤ 186)
    (h1 : Cond.methodLink own index y ∈ wsL_law) (h2 : Cond.instanceMethod y ∈ wsL_law) (h3 : Cond.selects C y y ∈ wsL_law) (h4 : Cond.initialized C ∈ wsL_law) (h5 : Cond.code y bytes maxL ret' ∈ wsL_law)
    (hy : y.cls = C ∧ y.cls ≠ "java/lang/invoke/MethodHandle" ∧ y.cls ≠ "java/lang/invoke/VarHandle" ∧ (parseMethodDescriptor y.desc).map (fun d => d.parameters.length) = some n) (hn : As.length = n)
    (hR : (Nat.ble (fr' + 1) fr && Nat.ble (8 + (maxL + 11) + lo') lo) = true) (hW : (st.map fun v => v.category).sum ≤ 8)
    {st0 : List Value} (hst : st0 = As.reverse ++ .ref (cxAd X q) :: st) (h : ∀ v, Tr X enc 0 0 (pc + 3) lv (.ref (cxAd X v) :: st) (K v)) : Tr X enc 0 0 pc lv st0 (bnd (A := Nat) f K) :=
  tr_callV0 n hX hS hd hO hs hci hc hq h1 h2 h3 h4 h5 hy hn hR hW hst h
theorem tr_callS0I {f : M Int32} {K : Int32 → M R} (n : Nat) (hX : Good X own cc ret) (hS : Sta X fr lo nL) (hd : decode cc pc = .ok (.invokestatic index, 3)) (hO : Ok (cxL X) (cxV X) Gall y bytes maxL ret' (rmz fr' lo') eI As f)
    (h1 : Cond.methodLink own index y ∈ wsL_law) (h2 : Cond.static y ∈ wsL_law) (h3 : Cond.initialized y.cls ∈ wsL_law) (h5 : Cond.code y bytes maxL ret' ∈ wsL_law)
    (hy : y.cls ≠ "java/lang/invoke/MethodHandle" ∧ y.cls ≠ "java/lang/invoke/VarHandle" ∧ (parseMethodDescriptor y.desc).map (fun d => d.parameters.length) = some n) (hn : As.length = n)
    (hR : (Nat.ble (fr' + 1) fr && Nat.ble (8 + (maxL + 11) + lo') lo) = true) (hW : (st.map fun v => v.category).sum ≤ 8)
    {st0 : List Value} (hst : st0 = As.reverse ++ st) (h : ∀ v, Tr X enc 0 0 (pc + 3) lv (.int v :: st) (K v)) : Tr X enc 0 0 pc lv st0 (bnd (A := Int32) f K) :=
  tr_callS0 n hX hS hd hO h1 h2 h3 h5 hy hn hR hW hst h
theorem tr_callS0L {f : M Int64} {K : Int64 → M R} (n : Nat) (hX : Good X own cc ret) (hS : Sta X fr lo nL) (hd : decode cc pc = .ok (.invokestatic index, 3)) (hO : Ok (cxL X) (cxV X) Gall y bytes maxL ret' (rmz fr' lo') eL As f)
    (h1 : Cond.methodLink own index y ∈ wsL_law) (h2 : Cond.static y ∈ wsL_law) (h3 : Cond.initialized y.cls ∈ wsL_law) (h5 : Cond.code y bytes maxL ret' ∈ wsL_law)
    (hy : y.cls ≠ "java/lang/invoke/MethodHandle" ∧ y.cls ≠ "java/lang/invoke/VarHandle" ∧ (parseMethodDescriptor y.desc).map (fun d => d.parameters.length) = some n) (hn : As.length = n)
    (hR : (Nat.ble (fr' + 1) fr && Nat.ble (8 + (maxL + 11) + lo') lo) = true) (hW : (st.map fun v => v.category).sum ≤ 8)
    {st0 : List Value} (hst : st0 = As.reverse ++ st) (h : ∀ v, Tr X enc 0 0 (pc + 3) lv (.long v :: st) (K v)) : Tr X enc 0 0 pc lv st0 (bnd (A := Int64) f K) :=
  tr_callS0 n hX hS hd hO h1 h2 h3 h5 hy hn hR hW hst h
theorem tr_callN0I {f : M Int32} {K : Int32 → M R} (n : Nat) {host : String} (hX : Good X own cc ret) (hS : Sta X fr lo nL) (hd : decode cc pc = .ok (.invokestatic index, 3)) (hO : Ok (cxL X) (cxV X) Gall y bytes maxL ret' (rmz fr' lo') eI As f)
    (h1 : Cond.methodLinkNest own index y host ∈ NW) (h2 : Cond.static y ∈ wsL_law) (h3 : Cond.initialized y.cls ∈ wsL_law) (h5 : Cond.code y bytes maxL ret' ∈ wsL_law)
    (hy : y.cls ≠ "java/lang/invoke/MethodHandle" ∧ y.cls ≠ "java/lang/invoke/VarHandle" ∧ (parseMethodDescriptor y.desc).map (fun d => d.parameters.length) = some n) (hn : As.length = n)
    (hR : (Nat.ble (fr' + 1) fr && Nat.ble (8 + (maxL + 11) + lo') lo) = true) (hW : (st.map fun v => v.category).sum ≤ 8)
    {st0 : List Value} (hst : st0 = As.reverse ++ st) (h : ∀ v, Tr X enc 0 0 (pc + 3) lv (.int v :: st) (K v)) : Tr X enc 0 0 pc lv st0 (bnd (A := Int32) f K) :=
  tr_callN0 n hX hS hd hO h1 h2 h3 h5 hy hn hR hW hst h
theorem ok_of0 {l : Launch} {E : Ev} {y : MethodName} {cc : ByteArray} {maxL : Nat} {ret : Option FieldType} {R : Type} {enc : R → Option Value} {av : List Value} {f : M R} (hy : plainName y.cls = true) (hav : (lg_sl av).length ≤ maxL)
    (h : ∀ X : Cx, Good X y.cls cc ret → cxV X = E → Sta X fr lo maxL → Tr X enc 0 0 0 (lv_args 0 av) [] f) : Ok l E Gall y cc maxL ret (rmz fr lo) enc av f :=
  ok_of hy hav (fun X hX _ hV hG hN hc hs hR hQ => h X hX hV ⟨hG, hN, hc, hs, hR, hQ⟩)
end RL0

theorem hy_X0_init : yX0_init.cls = RX0 ∧ yX0_init.cls ≠ "java/lang/invoke/MethodHandle" ∧ yX0_init.cls ≠ "java/lang/invoke/VarHandle" ∧ (parseMethodDescriptor yX0_init.desc).map (fun d => d.parameters.length) = some 0 := by decide +kernel
theorem hy_X0_empty : yX0_empty.cls = RX0 ∧ yX0_empty.cls ≠ "java/lang/invoke/MethodHandle" ∧ yX0_empty.cls ≠ "java/lang/invoke/VarHandle" ∧ (parseMethodDescriptor yX0_empty.desc).map (fun d => d.parameters.length) = some 0 := by decide +kernel
theorem hy_X0_copy : yX0_copy.cls = RX0 ∧ yX0_copy.cls ≠ "java/lang/invoke/MethodHandle" ∧ yX0_copy.cls ≠ "java/lang/invoke/VarHandle" ∧ (parseMethodDescriptor yX0_copy.desc).map (fun d => d.parameters.length) = some 1 := by decide +kernel
theorem hy_X0_wordsInAll : yX0_wordsInAll.cls = RX0 ∧ yX0_wordsInAll.cls ≠ "java/lang/invoke/MethodHandle" ∧ yX0_wordsInAll.cls ≠ "java/lang/invoke/VarHandle" ∧ (parseMethodDescriptor yX0_wordsInAll.desc).map (fun d => d.parameters.length) = some 0 := by decide +kernel
theorem hy_X0_has : yX0_has.cls = RX0 ∧ yX0_has.cls ≠ "java/lang/invoke/MethodHandle" ∧ yX0_has.cls ≠ "java/lang/invoke/VarHandle" ∧ (parseMethodDescriptor yX0_has.desc).map (fun d => d.parameters.length) = some 3 := by decide +kernel
theorem hy_X1_init : yX1_init.cls = RX1 ∧ yX1_init.cls ≠ "java/lang/invoke/MethodHandle" ∧ yX1_init.cls ≠ "java/lang/invoke/VarHandle" ∧ (parseMethodDescriptor yX1_init.desc).map (fun d => d.parameters.length) = some 0 := by decide +kernel
theorem hy_X1_follow : yX1_follow.cls = RX1 ∧ yX1_follow.cls ≠ "java/lang/invoke/MethodHandle" ∧ yX1_follow.cls ≠ "java/lang/invoke/VarHandle" ∧ (parseMethodDescriptor yX1_follow.desc).map (fun d => d.parameters.length) = some 2 := by decide +kernel
theorem hy_X1_groups : yX1_groups.cls = RX1 ∧ yX1_groups.cls ≠ "java/lang/invoke/MethodHandle" ∧ yX1_groups.cls ≠ "java/lang/invoke/VarHandle" ∧ (parseMethodDescriptor yX1_groups.desc).map (fun d => d.parameters.length) = some 3 := by decide +kernel
theorem hy_X1_group : yX1_group.cls = RX1 ∧ yX1_group.cls ≠ "java/lang/invoke/MethodHandle" ∧ yX1_group.cls ≠ "java/lang/invoke/VarHandle" ∧ (parseMethodDescriptor yX1_group.desc).map (fun d => d.parameters.length) = some 3 := by decide +kernel
theorem hy_X1_before : yX1_before.cls = RX1 ∧ yX1_before.cls ≠ "java/lang/invoke/MethodHandle" ∧ yX1_before.cls ≠ "java/lang/invoke/VarHandle" ∧ (parseMethodDescriptor yX1_before.desc).map (fun d => d.parameters.length) = some 1 := by decide +kernel
theorem hy_X1_behind : yX1_behind.cls = RX1 ∧ yX1_behind.cls ≠ "java/lang/invoke/MethodHandle" ∧ yX1_behind.cls ≠ "java/lang/invoke/VarHandle" ∧ (parseMethodDescriptor yX1_behind.desc).map (fun d => d.parameters.length) = some 1 := by decide +kernel
theorem hy_X1_token : yX1_token.cls = RX1 ∧ yX1_token.cls ≠ "java/lang/invoke/MethodHandle" ∧ yX1_token.cls ≠ "java/lang/invoke/VarHandle" ∧ (parseMethodDescriptor yX1_token.desc).map (fun d => d.parameters.length) = some 3 := by decide +kernel
theorem hy_X1_tells : yX1_tells.cls = RX1 ∧ yX1_tells.cls ≠ "java/lang/invoke/MethodHandle" ∧ yX1_tells.cls ≠ "java/lang/invoke/VarHandle" ∧ (parseMethodDescriptor yX1_tells.desc).map (fun d => d.parameters.length) = some 3 := by decide +kernel
theorem hy_X2_init : yX2_init.cls = RX2 ∧ yX2_init.cls ≠ "java/lang/invoke/MethodHandle" ∧ yX2_init.cls ≠ "java/lang/invoke/VarHandle" ∧ (parseMethodDescriptor yX2_init.desc).map (fun d => d.parameters.length) = some 0 := by decide +kernel
theorem hy_X2_mayTeach : yX2_mayTeach.cls = RX2 ∧ yX2_mayTeach.cls ≠ "java/lang/invoke/MethodHandle" ∧ yX2_mayTeach.cls ≠ "java/lang/invoke/VarHandle" ∧ (parseMethodDescriptor yX2_mayTeach.desc).map (fun d => d.parameters.length) = some 2 := by decide +kernel
theorem hy_X2_append : yX2_append.cls = RX2 ∧ yX2_append.cls ≠ "java/lang/invoke/MethodHandle" ∧ yX2_append.cls ≠ "java/lang/invoke/VarHandle" ∧ (parseMethodDescriptor yX2_append.desc).map (fun d => d.parameters.length) = some 3 := by decide +kernel
theorem hy_X2_isSet : yX2_isSet.cls = RX2 ∧ yX2_isSet.cls ≠ "java/lang/invoke/MethodHandle" ∧ yX2_isSet.cls ≠ "java/lang/invoke/VarHandle" ∧ (parseMethodDescriptor yX2_isSet.desc).map (fun d => d.parameters.length) = some 1 := by decide +kernel
theorem hy_X2_agree : yX2_agree.cls = RX2 ∧ yX2_agree.cls ≠ "java/lang/invoke/MethodHandle" ∧ yX2_agree.cls ≠ "java/lang/invoke/VarHandle" ∧ (parseMethodDescriptor yX2_agree.desc).map (fun d => d.parameters.length) = some 2 := by decide +kernel
theorem hy_X2_allHave : yX2_allHave.cls = RX2 ∧ yX2_allHave.cls ≠ "java/lang/invoke/MethodHandle" ∧ yX2_allHave.cls ≠ "java/lang/invoke/VarHandle" ∧ (parseMethodDescriptor yX2_allHave.desc).map (fun d => d.parameters.length) = some 3 := by decide +kernel
theorem hy_X2_latestCommonYear : yX2_latestCommonYear.cls = RX2 ∧ yX2_latestCommonYear.cls ≠ "java/lang/invoke/MethodHandle" ∧ yX2_latestCommonYear.cls ≠ "java/lang/invoke/VarHandle" ∧ (parseMethodDescriptor yX2_latestCommonYear.desc).map (fun d => d.parameters.length) = some 0 := by decide +kernel
theorem hy_X2_versesOf : yX2_versesOf.cls = RX2 ∧ yX2_versesOf.cls ≠ "java/lang/invoke/MethodHandle" ∧ yX2_versesOf.cls ≠ "java/lang/invoke/VarHandle" ∧ (parseMethodDescriptor yX2_versesOf.desc).map (fun d => d.parameters.length) = some 1 := by decide +kernel
theorem hy_X2_lowestWith : yX2_lowestWith.cls = RX2 ∧ yX2_lowestWith.cls ≠ "java/lang/invoke/MethodHandle" ∧ yX2_lowestWith.cls ≠ "java/lang/invoke/VarHandle" ∧ (parseMethodDescriptor yX2_lowestWith.desc).map (fun d => d.parameters.length) = some 2 := by decide +kernel
theorem hy_X3_init : yX3_init.cls = RX3 ∧ yX3_init.cls ≠ "java/lang/invoke/MethodHandle" ∧ yX3_init.cls ≠ "java/lang/invoke/VarHandle" ∧ (parseMethodDescriptor yX3_init.desc).map (fun d => d.parameters.length) = some 1 := by decide +kernel
theorem hy_X3_begin : yX3_begin.cls = RX3 ∧ yX3_begin.cls ≠ "java/lang/invoke/MethodHandle" ∧ yX3_begin.cls ≠ "java/lang/invoke/VarHandle" ∧ (parseMethodDescriptor yX3_begin.desc).map (fun d => d.parameters.length) = some 2 := by decide +kernel
theorem hy_X3_weigh : yX3_weigh.cls = RX3 ∧ yX3_weigh.cls ≠ "java/lang/invoke/MethodHandle" ∧ yX3_weigh.cls ≠ "java/lang/invoke/VarHandle" ∧ (parseMethodDescriptor yX3_weigh.desc).map (fun d => d.parameters.length) = some 0 := by decide +kernel
theorem hy_X3_weighWord : yX3_weighWord.cls = RX3 ∧ yX3_weighWord.cls ≠ "java/lang/invoke/MethodHandle" ∧ yX3_weighWord.cls ≠ "java/lang/invoke/VarHandle" ∧ (parseMethodDescriptor yX3_weighWord.desc).map (fun d => d.parameters.length) = some 2 := by decide +kernel
theorem hy_X3_take : yX3_take.cls = RX3 ∧ yX3_take.cls ≠ "java/lang/invoke/MethodHandle" ∧ yX3_take.cls ≠ "java/lang/invoke/VarHandle" ∧ (parseMethodDescriptor yX3_take.desc).map (fun d => d.parameters.length) = some 4 := by decide +kernel
theorem hy_X3_weighStart : yX3_weighStart.cls = RX3 ∧ yX3_weighStart.cls ≠ "java/lang/invoke/MethodHandle" ∧ yX3_weighStart.cls ≠ "java/lang/invoke/VarHandle" ∧ (parseMethodDescriptor yX3_weighStart.desc).map (fun d => d.parameters.length) = some 1 := by decide +kernel
theorem hy_X3_stateOf : yX3_stateOf.cls = RX3 ∧ yX3_stateOf.cls ≠ "java/lang/invoke/MethodHandle" ∧ yX3_stateOf.cls ≠ "java/lang/invoke/VarHandle" ∧ (parseMethodDescriptor yX3_stateOf.desc).map (fun d => d.parameters.length) = some 3 := by decide +kernel
theorem hy_X3_unlikeWith : yX3_unlikeWith.cls = RX3 ∧ yX3_unlikeWith.cls ≠ "java/lang/invoke/MethodHandle" ∧ yX3_unlikeWith.cls ≠ "java/lang/invoke/VarHandle" ∧ (parseMethodDescriptor yX3_unlikeWith.desc).map (fun d => d.parameters.length) = some 4 := by decide +kernel
theorem hy_X3_lowestRow : yX3_lowestRow.cls = RX3 ∧ yX3_lowestRow.cls ≠ "java/lang/invoke/MethodHandle" ∧ yX3_lowestRow.cls ≠ "java/lang/invoke/VarHandle" ∧ (parseMethodDescriptor yX3_lowestRow.desc).map (fun d => d.parameters.length) = some 1 := by decide +kernel
theorem hy_X3_farFrom : yX3_farFrom.cls = RX3 ∧ yX3_farFrom.cls ≠ "java/lang/invoke/MethodHandle" ∧ yX3_farFrom.cls ≠ "java/lang/invoke/VarHandle" ∧ (parseMethodDescriptor yX3_farFrom.desc).map (fun d => d.parameters.length) = some 1 := by decide +kernel
theorem hy_X4_init : yX4_init.cls = RX4 ∧ yX4_init.cls ≠ "java/lang/invoke/MethodHandle" ∧ yX4_init.cls ≠ "java/lang/invoke/VarHandle" ∧ (parseMethodDescriptor yX4_init.desc).map (fun d => d.parameters.length) = some 0 := by decide +kernel
theorem hy_X4_append : yX4_append.cls = RX4 ∧ yX4_append.cls ≠ "java/lang/invoke/MethodHandle" ∧ yX4_append.cls ≠ "java/lang/invoke/VarHandle" ∧ (parseMethodDescriptor yX4_append.desc).map (fun d => d.parameters.length) = some 2 := by decide +kernel
theorem hy_X4_readInto : yX4_readInto.cls = RX4 ∧ yX4_readInto.cls ≠ "java/lang/invoke/MethodHandle" ∧ yX4_readInto.cls ≠ "java/lang/invoke/VarHandle" ∧ (parseMethodDescriptor yX4_readInto.desc).map (fun d => d.parameters.length) = some 1 := by decide +kernel
theorem hy_X4_readItem : yX4_readItem.cls = RX4 ∧ yX4_readItem.cls ≠ "java/lang/invoke/MethodHandle" ∧ yX4_readItem.cls ≠ "java/lang/invoke/VarHandle" ∧ (parseMethodDescriptor yX4_readItem.desc).map (fun d => d.parameters.length) = some 1 := by decide +kernel
theorem hy_X4_readNumbers : yX4_readNumbers.cls = RX4 ∧ yX4_readNumbers.cls ≠ "java/lang/invoke/MethodHandle" ∧ yX4_readNumbers.cls ≠ "java/lang/invoke/VarHandle" ∧ (parseMethodDescriptor yX4_readNumbers.desc).map (fun d => d.parameters.length) = some 1 := by decide +kernel
theorem hy_X4_isFigure : yX4_isFigure.cls = RX4 ∧ yX4_isFigure.cls ≠ "java/lang/invoke/MethodHandle" ∧ yX4_isFigure.cls ≠ "java/lang/invoke/VarHandle" ∧ (parseMethodDescriptor yX4_isFigure.desc).map (fun d => d.parameters.length) = some 1 := by decide +kernel
theorem hy_X5_init : yX5_init.cls = RX5 ∧ yX5_init.cls ≠ "java/lang/invoke/MethodHandle" ∧ yX5_init.cls ≠ "java/lang/invoke/VarHandle" ∧ (parseMethodDescriptor yX5_init.desc).map (fun d => d.parameters.length) = some 0 := by decide +kernel
theorem hy_X5_append : yX5_append.cls = RX5 ∧ yX5_append.cls ≠ "java/lang/invoke/MethodHandle" ∧ yX5_append.cls ≠ "java/lang/invoke/VarHandle" ∧ (parseMethodDescriptor yX5_append.desc).map (fun d => d.parameters.length) = some 3 := by decide +kernel
theorem hy_X5_allShownBy : yX5_allShownBy.cls = RX5 ∧ yX5_allShownBy.cls ≠ "java/lang/invoke/MethodHandle" ∧ yX5_allShownBy.cls ≠ "java/lang/invoke/VarHandle" ∧ (parseMethodDescriptor yX5_allShownBy.desc).map (fun d => d.parameters.length) = some 1 := by decide +kernel
theorem hy_X6_init : yX6_init.cls = RX6 ∧ yX6_init.cls ≠ "java/lang/invoke/MethodHandle" ∧ yX6_init.cls ≠ "java/lang/invoke/VarHandle" ∧ (parseMethodDescriptor yX6_init.desc).map (fun d => d.parameters.length) = some 0 := by decide +kernel
theorem hy_X6_forget : yX6_forget.cls = RX6 ∧ yX6_forget.cls ≠ "java/lang/invoke/MethodHandle" ∧ yX6_forget.cls ≠ "java/lang/invoke/VarHandle" ∧ (parseMethodDescriptor yX6_forget.desc).map (fun d => d.parameters.length) = some 0 := by decide +kernel
theorem hy_X6_learnWord : yX6_learnWord.cls = RX6 ∧ yX6_learnWord.cls ≠ "java/lang/invoke/MethodHandle" ∧ yX6_learnWord.cls ≠ "java/lang/invoke/VarHandle" ∧ (parseMethodDescriptor yX6_learnWord.desc).map (fun d => d.parameters.length) = some 1 := by decide +kernel
theorem hy_X6_learnJoining : yX6_learnJoining.cls = RX6 ∧ yX6_learnJoining.cls ≠ "java/lang/invoke/MethodHandle" ∧ yX6_learnJoining.cls ≠ "java/lang/invoke/VarHandle" ∧ (parseMethodDescriptor yX6_learnJoining.desc).map (fun d => d.parameters.length) = some 1 := by decide +kernel
theorem hy_X6_learnHours : yX6_learnHours.cls = RX6 ∧ yX6_learnHours.cls ≠ "java/lang/invoke/MethodHandle" ∧ yX6_learnHours.cls ≠ "java/lang/invoke/VarHandle" ∧ (parseMethodDescriptor yX6_learnHours.desc).map (fun d => d.parameters.length) = some 1 := by decide +kernel
theorem hy_X6_joinAll : yX6_joinAll.cls = RX6 ∧ yX6_joinAll.cls ≠ "java/lang/invoke/MethodHandle" ∧ yX6_joinAll.cls ≠ "java/lang/invoke/VarHandle" ∧ (parseMethodDescriptor yX6_joinAll.desc).map (fun d => d.parameters.length) = some 0 := by decide +kernel
theorem hy_X6_token : yX6_token.cls = RX6 ∧ yX6_token.cls ≠ "java/lang/invoke/MethodHandle" ∧ yX6_token.cls ≠ "java/lang/invoke/VarHandle" ∧ (parseMethodDescriptor yX6_token.desc).map (fun d => d.parameters.length) = some 3 := by decide +kernel
theorem hy_X6_hoursOf : yX6_hoursOf.cls = RX6 ∧ yX6_hoursOf.cls ≠ "java/lang/invoke/MethodHandle" ∧ yX6_hoursOf.cls ≠ "java/lang/invoke/VarHandle" ∧ (parseMethodDescriptor yX6_hoursOf.desc).map (fun d => d.parameters.length) = some 1 := by decide +kernel
theorem hy_X6_isListedAlike : yX6_isListedAlike.cls = RX6 ∧ yX6_isListedAlike.cls ≠ "java/lang/invoke/MethodHandle" ∧ yX6_isListedAlike.cls ≠ "java/lang/invoke/VarHandle" ∧ (parseMethodDescriptor yX6_isListedAlike.desc).map (fun d => d.parameters.length) = some 2 := by decide +kernel
theorem hy_X7_init : yX7_init.cls = RX7 ∧ yX7_init.cls ≠ "java/lang/invoke/MethodHandle" ∧ yX7_init.cls ≠ "java/lang/invoke/VarHandle" ∧ (parseMethodDescriptor yX7_init.desc).map (fun d => d.parameters.length) = some 1 := by decide +kernel
theorem hy_X7_begin : yX7_begin.cls = RX7 ∧ yX7_begin.cls ≠ "java/lang/invoke/MethodHandle" ∧ yX7_begin.cls ≠ "java/lang/invoke/VarHandle" ∧ (parseMethodDescriptor yX7_begin.desc).map (fun d => d.parameters.length) = some 1 := by decide +kernel
theorem hy_X7_want : yX7_want.cls = RX7 ∧ yX7_want.cls ≠ "java/lang/invoke/MethodHandle" ∧ yX7_want.cls ≠ "java/lang/invoke/VarHandle" ∧ (parseMethodDescriptor yX7_want.desc).map (fun d => d.parameters.length) = some 4 := by decide +kernel
theorem hy_X7_wantSpan : yX7_wantSpan.cls = RX7 ∧ yX7_wantSpan.cls ≠ "java/lang/invoke/MethodHandle" ∧ yX7_wantSpan.cls ≠ "java/lang/invoke/VarHandle" ∧ (parseMethodDescriptor yX7_wantSpan.desc).map (fun d => d.parameters.length) = some 3 := by decide +kernel
theorem hy_X7_wantTie : yX7_wantTie.cls = RX7 ∧ yX7_wantTie.cls ≠ "java/lang/invoke/MethodHandle" ∧ yX7_wantTie.cls ≠ "java/lang/invoke/VarHandle" ∧ (parseMethodDescriptor yX7_wantTie.desc).map (fun d => d.parameters.length) = some 4 := by decide +kernel
theorem hy_X7_seatOf : yX7_seatOf.cls = RX7 ∧ yX7_seatOf.cls ≠ "java/lang/invoke/MethodHandle" ∧ yX7_seatOf.cls ≠ "java/lang/invoke/VarHandle" ∧ (parseMethodDescriptor yX7_seatOf.desc).map (fun d => d.parameters.length) = some 2 := by decide +kernel
theorem hy_X7_unlikeTies : yX7_unlikeTies.cls = RX7 ∧ yX7_unlikeTies.cls ≠ "java/lang/invoke/MethodHandle" ∧ yX7_unlikeTies.cls ≠ "java/lang/invoke/VarHandle" ∧ (parseMethodDescriptor yX7_unlikeTies.desc).map (fun d => d.parameters.length) = some 3 := by decide +kernel
theorem hy_X7_spansAt : yX7_spansAt.cls = RX7 ∧ yX7_spansAt.cls ≠ "java/lang/invoke/MethodHandle" ∧ yX7_spansAt.cls ≠ "java/lang/invoke/VarHandle" ∧ (parseMethodDescriptor yX7_spansAt.desc).map (fun d => d.parameters.length) = some 1 := by decide +kernel
theorem hy_X7_rightHalves : yX7_rightHalves.cls = RX7 ∧ yX7_rightHalves.cls ≠ "java/lang/invoke/MethodHandle" ∧ yX7_rightHalves.cls ≠ "java/lang/invoke/VarHandle" ∧ (parseMethodDescriptor yX7_rightHalves.desc).map (fun d => d.parameters.length) = some 4 := by decide +kernel
theorem hy_X7_unlikeSpans : yX7_unlikeSpans.cls = RX7 ∧ yX7_unlikeSpans.cls ≠ "java/lang/invoke/MethodHandle" ∧ yX7_unlikeSpans.cls ≠ "java/lang/invoke/VarHandle" ∧ (parseMethodDescriptor yX7_unlikeSpans.desc).map (fun d => d.parameters.length) = some 2 := by decide +kernel
theorem hy_X8_init : yX8_init.cls = RX8 ∧ yX8_init.cls ≠ "java/lang/invoke/MethodHandle" ∧ yX8_init.cls ≠ "java/lang/invoke/VarHandle" ∧ (parseMethodDescriptor yX8_init.desc).map (fun d => d.parameters.length) = some 0 := by decide +kernel
theorem hy_X8_write : yX8_write.cls = RX8 ∧ yX8_write.cls ≠ "java/lang/invoke/MethodHandle" ∧ yX8_write.cls ≠ "java/lang/invoke/VarHandle" ∧ (parseMethodDescriptor yX8_write.desc).map (fun d => d.parameters.length) = some 2 := by decide +kernel
theorem hy_X8_wipe : yX8_wipe.cls = RX8 ∧ yX8_wipe.cls ≠ "java/lang/invoke/MethodHandle" ∧ yX8_wipe.cls ≠ "java/lang/invoke/VarHandle" ∧ (parseMethodDescriptor yX8_wipe.desc).map (fun d => d.parameters.length) = some 0 := by decide +kernel
theorem hy_X8_fault : yX8_fault.cls = RX8 ∧ yX8_fault.cls ≠ "java/lang/invoke/MethodHandle" ∧ yX8_fault.cls ≠ "java/lang/invoke/VarHandle" ∧ (parseMethodDescriptor yX8_fault.desc).map (fun d => d.parameters.length) = some 0 := by decide +kernel
theorem hy_X8_lay : yX8_lay.cls = RX8 ∧ yX8_lay.cls ≠ "java/lang/invoke/MethodHandle" ∧ yX8_lay.cls ≠ "java/lang/invoke/VarHandle" ∧ (parseMethodDescriptor yX8_lay.desc).map (fun d => d.parameters.length) = some 0 := by decide +kernel
theorem hy_X8_joined : yX8_joined.cls = RX8 ∧ yX8_joined.cls ≠ "java/lang/invoke/MethodHandle" ∧ yX8_joined.cls ≠ "java/lang/invoke/VarHandle" ∧ (parseMethodDescriptor yX8_joined.desc).map (fun d => d.parameters.length) = some 2 := by decide +kernel
theorem hy_X8_add : yX8_add.cls = RX8 ∧ yX8_add.cls ≠ "java/lang/invoke/MethodHandle" ∧ yX8_add.cls ≠ "java/lang/invoke/VarHandle" ∧ (parseMethodDescriptor yX8_add.desc).map (fun d => d.parameters.length) = some 2 := by decide +kernel
theorem hy_X8_clear : yX8_clear.cls = RX8 ∧ yX8_clear.cls ≠ "java/lang/invoke/MethodHandle" ∧ yX8_clear.cls ≠ "java/lang/invoke/VarHandle" ∧ (parseMethodDescriptor yX8_clear.desc).map (fun d => d.parameters.length) = some 1 := by decide +kernel
theorem hy_X8_word : yX8_word.cls = RX8 ∧ yX8_word.cls ≠ "java/lang/invoke/MethodHandle" ∧ yX8_word.cls ≠ "java/lang/invoke/VarHandle" ∧ (parseMethodDescriptor yX8_word.desc).map (fun d => d.parameters.length) = some 2 := by decide +kernel
theorem hy_X8_said : yX8_said.cls = RX8 ∧ yX8_said.cls ≠ "java/lang/invoke/MethodHandle" ∧ yX8_said.cls ≠ "java/lang/invoke/VarHandle" ∧ (parseMethodDescriptor yX8_said.desc).map (fun d => d.parameters.length) = some 3 := by decide +kernel
theorem hy_X8_say : yX8_say.cls = RX8 ∧ yX8_say.cls ≠ "java/lang/invoke/MethodHandle" ∧ yX8_say.cls ≠ "java/lang/invoke/VarHandle" ∧ (parseMethodDescriptor yX8_say.desc).map (fun d => d.parameters.length) = some 2 := by decide +kernel
theorem hy_X8_alter : yX8_alter.cls = RX8 ∧ yX8_alter.cls ≠ "java/lang/invoke/MethodHandle" ∧ yX8_alter.cls ≠ "java/lang/invoke/VarHandle" ∧ (parseMethodDescriptor yX8_alter.desc).map (fun d => d.parameters.length) = some 2 := by decide +kernel
theorem hy_X8_soundSo : yX8_soundSo.cls = RX8 ∧ yX8_soundSo.cls ≠ "java/lang/invoke/MethodHandle" ∧ yX8_soundSo.cls ≠ "java/lang/invoke/VarHandle" ∧ (parseMethodDescriptor yX8_soundSo.desc).map (fun d => d.parameters.length) = some 0 := by decide +kernel
theorem hy_X8_nearest : yX8_nearest.cls = RX8 ∧ yX8_nearest.cls ≠ "java/lang/invoke/MethodHandle" ∧ yX8_nearest.cls ≠ "java/lang/invoke/VarHandle" ∧ (parseMethodDescriptor yX8_nearest.desc).map (fun d => d.parameters.length) = some 1 := by decide +kernel
theorem hy_X8_rivals : yX8_rivals.cls = RX8 ∧ yX8_rivals.cls ≠ "java/lang/invoke/MethodHandle" ∧ yX8_rivals.cls ≠ "java/lang/invoke/VarHandle" ∧ (parseMethodDescriptor yX8_rivals.desc).map (fun d => d.parameters.length) = some 0 := by decide +kernel
theorem hy_X8_far : yX8_far.cls = RX8 ∧ yX8_far.cls ≠ "java/lang/invoke/MethodHandle" ∧ yX8_far.cls ≠ "java/lang/invoke/VarHandle" ∧ (parseMethodDescriptor yX8_far.desc).map (fun d => d.parameters.length) = some 3 := by decide +kernel
theorem hy_X8_best : yX8_best.cls = RX8 ∧ yX8_best.cls ≠ "java/lang/invoke/MethodHandle" ∧ yX8_best.cls ≠ "java/lang/invoke/VarHandle" ∧ (parseMethodDescriptor yX8_best.desc).map (fun d => d.parameters.length) = some 3 := by decide +kernel
theorem hy_X8_learnt : yX8_learnt.cls = RX8 ∧ yX8_learnt.cls ≠ "java/lang/invoke/MethodHandle" ∧ yX8_learnt.cls ≠ "java/lang/invoke/VarHandle" ∧ (parseMethodDescriptor yX8_learnt.desc).map (fun d => d.parameters.length) = some 3 := by decide +kernel
theorem hy_X8_slip : yX8_slip.cls = RX8 ∧ yX8_slip.cls ≠ "java/lang/invoke/MethodHandle" ∧ yX8_slip.cls ≠ "java/lang/invoke/VarHandle" ∧ (parseMethodDescriptor yX8_slip.desc).map (fun d => d.parameters.length) = some 3 := by decide +kernel
theorem hy_X8_noSlips : yX8_noSlips.cls = RX8 ∧ yX8_noSlips.cls ≠ "java/lang/invoke/MethodHandle" ∧ yX8_noSlips.cls ≠ "java/lang/invoke/VarHandle" ∧ (parseMethodDescriptor yX8_noSlips.desc).map (fun d => d.parameters.length) = some 0 := by decide +kernel
theorem hy_X8_slips : yX8_slips.cls = RX8 ∧ yX8_slips.cls ≠ "java/lang/invoke/MethodHandle" ∧ yX8_slips.cls ≠ "java/lang/invoke/VarHandle" ∧ (parseMethodDescriptor yX8_slips.desc).map (fun d => d.parameters.length) = some 1 := by decide +kernel
theorem hy_X8_list : yX8_list.cls = RX8 ∧ yX8_list.cls ≠ "java/lang/invoke/MethodHandle" ∧ yX8_list.cls ≠ "java/lang/invoke/VarHandle" ∧ (parseMethodDescriptor yX8_list.desc).map (fun d => d.parameters.length) = some 2 := by decide +kernel
theorem hy_X8_head : yX8_head.cls = RX8 ∧ yX8_head.cls ≠ "java/lang/invoke/MethodHandle" ∧ yX8_head.cls ≠ "java/lang/invoke/VarHandle" ∧ (parseMethodDescriptor yX8_head.desc).map (fun d => d.parameters.length) = some 3 := by decide +kernel
theorem hy_X8_alive : yX8_alive.cls = RX8 ∧ yX8_alive.cls ≠ "java/lang/invoke/MethodHandle" ∧ yX8_alive.cls ≠ "java/lang/invoke/VarHandle" ∧ (parseMethodDescriptor yX8_alive.desc).map (fun d => d.parameters.length) = some 2 := by decide +kernel
theorem hy_X8_same : yX8_same.cls = RX8 ∧ yX8_same.cls ≠ "java/lang/invoke/MethodHandle" ∧ yX8_same.cls ≠ "java/lang/invoke/VarHandle" ∧ (parseMethodDescriptor yX8_same.desc).map (fun d => d.parameters.length) = some 1 := by decide +kernel
theorem hy_X8_since : yX8_since.cls = RX8 ∧ yX8_since.cls ≠ "java/lang/invoke/MethodHandle" ∧ yX8_since.cls ≠ "java/lang/invoke/VarHandle" ∧ (parseMethodDescriptor yX8_since.desc).map (fun d => d.parameters.length) = some 2 := by decide +kernel
theorem hy_X8_lost : yX8_lost.cls = RX8 ∧ yX8_lost.cls ≠ "java/lang/invoke/MethodHandle" ∧ yX8_lost.cls ≠ "java/lang/invoke/VarHandle" ∧ (parseMethodDescriptor yX8_lost.desc).map (fun d => d.parameters.length) = some 1 := by decide +kernel
theorem hy_X8_from : yX8_from.cls = RX8 ∧ yX8_from.cls ≠ "java/lang/invoke/MethodHandle" ∧ yX8_from.cls ≠ "java/lang/invoke/VarHandle" ∧ (parseMethodDescriptor yX8_from.desc).map (fun d => d.parameters.length) = some 2 := by decide +kernel
theorem hy_X8_odds : yX8_odds.cls = RX8 ∧ yX8_odds.cls ≠ "java/lang/invoke/MethodHandle" ∧ yX8_odds.cls ≠ "java/lang/invoke/VarHandle" ∧ (parseMethodDescriptor yX8_odds.desc).map (fun d => d.parameters.length) = some 4 := by decide +kernel
theorem hy_X8_keep : yX8_keep.cls = RX8 ∧ yX8_keep.cls ≠ "java/lang/invoke/MethodHandle" ∧ yX8_keep.cls ≠ "java/lang/invoke/VarHandle" ∧ (parseMethodDescriptor yX8_keep.desc).map (fun d => d.parameters.length) = some 0 := by decide +kernel
theorem hy_X8_back : yX8_back.cls = RX8 ∧ yX8_back.cls ≠ "java/lang/invoke/MethodHandle" ∧ yX8_back.cls ≠ "java/lang/invoke/VarHandle" ∧ (parseMethodDescriptor yX8_back.desc).map (fun d => d.parameters.length) = some 0 := by decide +kernel
theorem hy_X8_count : yX8_count.cls = RX8 ∧ yX8_count.cls ≠ "java/lang/invoke/MethodHandle" ∧ yX8_count.cls ≠ "java/lang/invoke/VarHandle" ∧ (parseMethodDescriptor yX8_count.desc).map (fun d => d.parameters.length) = some 1 := by decide +kernel
theorem hy_X8_isBelow : yX8_isBelow.cls = RX8 ∧ yX8_isBelow.cls ≠ "java/lang/invoke/MethodHandle" ∧ yX8_isBelow.cls ≠ "java/lang/invoke/VarHandle" ∧ (parseMethodDescriptor yX8_isBelow.desc).map (fun d => d.parameters.length) = some 2 := by decide +kernel
theorem hy_X8_keptAt : yX8_keptAt.cls = RX8 ∧ yX8_keptAt.cls ≠ "java/lang/invoke/MethodHandle" ∧ yX8_keptAt.cls ≠ "java/lang/invoke/VarHandle" ∧ (parseMethodDescriptor yX8_keptAt.desc).map (fun d => d.parameters.length) = some 1 := by decide +kernel
theorem hy_X8_commonDivisor : yX8_commonDivisor.cls = RX8 ∧ yX8_commonDivisor.cls ≠ "java/lang/invoke/MethodHandle" ∧ yX8_commonDivisor.cls ≠ "java/lang/invoke/VarHandle" ∧ (parseMethodDescriptor yX8_commonDivisor.desc).map (fun d => d.parameters.length) = some 2 := by decide +kernel
theorem hy_X8_weighSaying : yX8_weighSaying.cls = RX8 ∧ yX8_weighSaying.cls ≠ "java/lang/invoke/MethodHandle" ∧ yX8_weighSaying.cls ≠ "java/lang/invoke/VarHandle" ∧ (parseMethodDescriptor yX8_weighSaying.desc).map (fun d => d.parameters.length) = some 0 := by decide +kernel
theorem hy_X8_refusalToCompare : yX8_refusalToCompare.cls = RX8 ∧ yX8_refusalToCompare.cls ≠ "java/lang/invoke/MethodHandle" ∧ yX8_refusalToCompare.cls ≠ "java/lang/invoke/VarHandle" ∧ (parseMethodDescriptor yX8_refusalToCompare.desc).map (fun d => d.parameters.length) = some 1 := by decide +kernel
theorem hy_X8_farBy : yX8_farBy.cls = RX8 ∧ yX8_farBy.cls ≠ "java/lang/invoke/MethodHandle" ∧ yX8_farBy.cls ≠ "java/lang/invoke/VarHandle" ∧ (parseMethodDescriptor yX8_farBy.desc).map (fun d => d.parameters.length) = some 2 := by decide +kernel
theorem hy_X8_wantAsSaid : yX8_wantAsSaid.cls = RX8 ∧ yX8_wantAsSaid.cls ≠ "java/lang/invoke/MethodHandle" ∧ yX8_wantAsSaid.cls ≠ "java/lang/invoke/VarHandle" ∧ (parseMethodDescriptor yX8_wantAsSaid.desc).map (fun d => d.parameters.length) = some 3 := by decide +kernel
theorem hy_X8_farthestWays : yX8_farthestWays.cls = RX8 ∧ yX8_farthestWays.cls ≠ "java/lang/invoke/MethodHandle" ∧ yX8_farthestWays.cls ≠ "java/lang/invoke/VarHandle" ∧ (parseMethodDescriptor yX8_farthestWays.desc).map (fun d => d.parameters.length) = some 2 := by decide +kernel
theorem hy_X8_ceilingOf : yX8_ceilingOf.cls = RX8 ∧ yX8_ceilingOf.cls ≠ "java/lang/invoke/MethodHandle" ∧ yX8_ceilingOf.cls ≠ "java/lang/invoke/VarHandle" ∧ (parseMethodDescriptor yX8_ceilingOf.desc).map (fun d => d.parameters.length) = some 1 := by decide +kernel
theorem hy_X8_isSuch : yX8_isSuch.cls = RX8 ∧ yX8_isSuch.cls ≠ "java/lang/invoke/MethodHandle" ∧ yX8_isSuch.cls ≠ "java/lang/invoke/VarHandle" ∧ (parseMethodDescriptor yX8_isSuch.desc).map (fun d => d.parameters.length) = some 3 := by decide +kernel
theorem hy_X8_waysThatShow : yX8_waysThatShow.cls = RX8 ∧ yX8_waysThatShow.cls ≠ "java/lang/invoke/MethodHandle" ∧ yX8_waysThatShow.cls ≠ "java/lang/invoke/VarHandle" ∧ (parseMethodDescriptor yX8_waysThatShow.desc).map (fun d => d.parameters.length) = some 3 := by decide +kernel
theorem hy_X8_isSuchSlip : yX8_isSuchSlip.cls = RX8 ∧ yX8_isSuchSlip.cls ≠ "java/lang/invoke/MethodHandle" ∧ yX8_isSuchSlip.cls ≠ "java/lang/invoke/VarHandle" ∧ (parseMethodDescriptor yX8_isSuchSlip.desc).map (fun d => d.parameters.length) = some 1 := by decide +kernel
theorem hy_X8_waysThatShowSlip : yX8_waysThatShowSlip.cls = RX8 ∧ yX8_waysThatShowSlip.cls ≠ "java/lang/invoke/MethodHandle" ∧ yX8_waysThatShowSlip.cls ≠ "java/lang/invoke/VarHandle" ∧ (parseMethodDescriptor yX8_waysThatShowSlip.desc).map (fun d => d.parameters.length) = some 1 := by decide +kernel
theorem hy_X8_suchSlips : yX8_suchSlips.cls = RX8 ∧ yX8_suchSlips.cls ≠ "java/lang/invoke/MethodHandle" ∧ yX8_suchSlips.cls ≠ "java/lang/invoke/VarHandle" ∧ (parseMethodDescriptor yX8_suchSlips.desc).map (fun d => d.parameters.length) = some 0 := by decide +kernel
theorem hy_X8_hiddenSlips : yX8_hiddenSlips.cls = RX8 ∧ yX8_hiddenSlips.cls ≠ "java/lang/invoke/MethodHandle" ∧ yX8_hiddenSlips.cls ≠ "java/lang/invoke/VarHandle" ∧ (parseMethodDescriptor yX8_hiddenSlips.desc).map (fun d => d.parameters.length) = some 0 := by decide +kernel
theorem hy_X8_listedSlips : yX8_listedSlips.cls = RX8 ∧ yX8_listedSlips.cls ≠ "java/lang/invoke/MethodHandle" ∧ yX8_listedSlips.cls ≠ "java/lang/invoke/VarHandle" ∧ (parseMethodDescriptor yX8_listedSlips.desc).map (fun d => d.parameters.length) = some 0 := by decide +kernel
theorem hy_X8_fewestWays : yX8_fewestWays.cls = RX8 ∧ yX8_fewestWays.cls ≠ "java/lang/invoke/MethodHandle" ∧ yX8_fewestWays.cls ≠ "java/lang/invoke/VarHandle" ∧ (parseMethodDescriptor yX8_fewestWays.desc).map (fun d => d.parameters.length) = some 0 := by decide +kernel
theorem hy_X9_init : yX9_init.cls = RX9 ∧ yX9_init.cls ≠ "java/lang/invoke/MethodHandle" ∧ yX9_init.cls ≠ "java/lang/invoke/VarHandle" ∧ (parseMethodDescriptor yX9_init.desc).map (fun d => d.parameters.length) = some 0 := by decide +kernel
theorem hy_X9_in : yX9_in.cls = RX9 ∧ yX9_in.cls ≠ "java/lang/invoke/MethodHandle" ∧ yX9_in.cls ≠ "java/lang/invoke/VarHandle" ∧ (parseMethodDescriptor yX9_in.desc).map (fun d => d.parameters.length) = some 3 := by decide +kernel
theorem hy_X9_has : yX9_has.cls = RX9 ∧ yX9_has.cls ≠ "java/lang/invoke/MethodHandle" ∧ yX9_has.cls ≠ "java/lang/invoke/VarHandle" ∧ (parseMethodDescriptor yX9_has.desc).map (fun d => d.parameters.length) = some 2 := by decide +kernel
theorem hy_X9_bits : yX9_bits.cls = RX9 ∧ yX9_bits.cls ≠ "java/lang/invoke/MethodHandle" ∧ yX9_bits.cls ≠ "java/lang/invoke/VarHandle" ∧ (parseMethodDescriptor yX9_bits.desc).map (fun d => d.parameters.length) = some 1 := by decide +kernel
theorem hy_X9_noItems : yX9_noItems.cls = RX9 ∧ yX9_noItems.cls ≠ "java/lang/invoke/MethodHandle" ∧ yX9_noItems.cls ≠ "java/lang/invoke/VarHandle" ∧ (parseMethodDescriptor yX9_noItems.desc).map (fun d => d.parameters.length) = some 1 := by decide +kernel
theorem hy_X9_write : yX9_write.cls = RX9 ∧ yX9_write.cls ≠ "java/lang/invoke/MethodHandle" ∧ yX9_write.cls ≠ "java/lang/invoke/VarHandle" ∧ (parseMethodDescriptor yX9_write.desc).map (fun d => d.parameters.length) = some 2 := by decide +kernel
theorem hy_X9_wipe : yX9_wipe.cls = RX9 ∧ yX9_wipe.cls ≠ "java/lang/invoke/MethodHandle" ∧ yX9_wipe.cls ≠ "java/lang/invoke/VarHandle" ∧ (parseMethodDescriptor yX9_wipe.desc).map (fun d => d.parameters.length) = some 0 := by decide +kernel
theorem hy_X9_byteAt : yX9_byteAt.cls = RX9 ∧ yX9_byteAt.cls ≠ "java/lang/invoke/MethodHandle" ∧ yX9_byteAt.cls ≠ "java/lang/invoke/VarHandle" ∧ (parseMethodDescriptor yX9_byteAt.desc).map (fun d => d.parameters.length) = some 1 := by decide +kernel
theorem hy_X9_figures : yX9_figures.cls = RX9 ∧ yX9_figures.cls ≠ "java/lang/invoke/MethodHandle" ∧ yX9_figures.cls ≠ "java/lang/invoke/VarHandle" ∧ (parseMethodDescriptor yX9_figures.desc).map (fun d => d.parameters.length) = some 1 := by decide +kernel
theorem hy_X9_isEdge : yX9_isEdge.cls = RX9 ∧ yX9_isEdge.cls ≠ "java/lang/invoke/MethodHandle" ∧ yX9_isEdge.cls ≠ "java/lang/invoke/VarHandle" ∧ (parseMethodDescriptor yX9_isEdge.desc).map (fun d => d.parameters.length) = some 1 := by decide +kernel
theorem hy_X9_wordItem : yX9_wordItem.cls = RX9 ∧ yX9_wordItem.cls ≠ "java/lang/invoke/MethodHandle" ∧ yX9_wordItem.cls ≠ "java/lang/invoke/VarHandle" ∧ (parseMethodDescriptor yX9_wordItem.desc).map (fun d => d.parameters.length) = some 0 := by decide +kernel
theorem hy_X9_item : yX9_item.cls = RX9 ∧ yX9_item.cls ≠ "java/lang/invoke/MethodHandle" ∧ yX9_item.cls ≠ "java/lang/invoke/VarHandle" ∧ (parseMethodDescriptor yX9_item.desc).map (fun d => d.parameters.length) = some 0 := by decide +kernel
theorem hy_X9_readAll : yX9_readAll.cls = RX9 ∧ yX9_readAll.cls ≠ "java/lang/invoke/MethodHandle" ∧ yX9_readAll.cls ≠ "java/lang/invoke/VarHandle" ∧ (parseMethodDescriptor yX9_readAll.desc).map (fun d => d.parameters.length) = some 0 := by decide +kernel
theorem hy_X9_fault : yX9_fault.cls = RX9 ∧ yX9_fault.cls ≠ "java/lang/invoke/MethodHandle" ∧ yX9_fault.cls ≠ "java/lang/invoke/VarHandle" ∧ (parseMethodDescriptor yX9_fault.desc).map (fun d => d.parameters.length) = some 0 := by decide +kernel
theorem hy_X9_lay : yX9_lay.cls = RX9 ∧ yX9_lay.cls ≠ "java/lang/invoke/MethodHandle" ∧ yX9_lay.cls ≠ "java/lang/invoke/VarHandle" ∧ (parseMethodDescriptor yX9_lay.desc).map (fun d => d.parameters.length) = some 0 := by decide +kernel
theorem hy_X9_joined : yX9_joined.cls = RX9 ∧ yX9_joined.cls ≠ "java/lang/invoke/MethodHandle" ∧ yX9_joined.cls ≠ "java/lang/invoke/VarHandle" ∧ (parseMethodDescriptor yX9_joined.desc).map (fun d => d.parameters.length) = some 2 := by decide +kernel
theorem hy_X9_isVerse : yX9_isVerse.cls = RX9 ∧ yX9_isVerse.cls ≠ "java/lang/invoke/MethodHandle" ∧ yX9_isVerse.cls ≠ "java/lang/invoke/VarHandle" ∧ (parseMethodDescriptor yX9_isVerse.desc).map (fun d => d.parameters.length) = some 1 := by decide +kernel
theorem hy_X9_isWord : yX9_isWord.cls = RX9 ∧ yX9_isWord.cls ≠ "java/lang/invoke/MethodHandle" ∧ yX9_isWord.cls ≠ "java/lang/invoke/VarHandle" ∧ (parseMethodDescriptor yX9_isWord.desc).map (fun d => d.parameters.length) = some 1 := by decide +kernel
theorem hy_X9_isWay : yX9_isWay.cls = RX9 ∧ yX9_isWay.cls ≠ "java/lang/invoke/MethodHandle" ∧ yX9_isWay.cls ≠ "java/lang/invoke/VarHandle" ∧ (parseMethodDescriptor yX9_isWay.desc).map (fun d => d.parameters.length) = some 1 := by decide +kernel
theorem hy_X9_isPlace : yX9_isPlace.cls = RX9 ∧ yX9_isPlace.cls ≠ "java/lang/invoke/MethodHandle" ∧ yX9_isPlace.cls ≠ "java/lang/invoke/VarHandle" ∧ (parseMethodDescriptor yX9_isPlace.desc).map (fun d => d.parameters.length) = some 1 := by decide +kernel
theorem hy_X9_add : yX9_add.cls = RX9 ∧ yX9_add.cls ≠ "java/lang/invoke/MethodHandle" ∧ yX9_add.cls ≠ "java/lang/invoke/VarHandle" ∧ (parseMethodDescriptor yX9_add.desc).map (fun d => d.parameters.length) = some 2 := by decide +kernel
theorem hy_X9_clear : yX9_clear.cls = RX9 ∧ yX9_clear.cls ≠ "java/lang/invoke/MethodHandle" ∧ yX9_clear.cls ≠ "java/lang/invoke/VarHandle" ∧ (parseMethodDescriptor yX9_clear.desc).map (fun d => d.parameters.length) = some 1 := by decide +kernel
theorem hy_X9_word : yX9_word.cls = RX9 ∧ yX9_word.cls ≠ "java/lang/invoke/MethodHandle" ∧ yX9_word.cls ≠ "java/lang/invoke/VarHandle" ∧ (parseMethodDescriptor yX9_word.desc).map (fun d => d.parameters.length) = some 2 := by decide +kernel
theorem hy_X9_sayPlace : yX9_sayPlace.cls = RX9 ∧ yX9_sayPlace.cls ≠ "java/lang/invoke/MethodHandle" ∧ yX9_sayPlace.cls ≠ "java/lang/invoke/VarHandle" ∧ (parseMethodDescriptor yX9_sayPlace.desc).map (fun d => d.parameters.length) = some 1 := by decide +kernel
theorem hy_X9_sayPair : yX9_sayPair.cls = RX9 ∧ yX9_sayPair.cls ≠ "java/lang/invoke/MethodHandle" ∧ yX9_sayPair.cls ≠ "java/lang/invoke/VarHandle" ∧ (parseMethodDescriptor yX9_sayPair.desc).map (fun d => d.parameters.length) = some 1 := by decide +kernel
theorem hy_X9_sayBack : yX9_sayBack.cls = RX9 ∧ yX9_sayBack.cls ≠ "java/lang/invoke/MethodHandle" ∧ yX9_sayBack.cls ≠ "java/lang/invoke/VarHandle" ∧ (parseMethodDescriptor yX9_sayBack.desc).map (fun d => d.parameters.length) = some 1 := by decide +kernel
theorem hy_X9_braid : yX9_braid.cls = RX9 ∧ yX9_braid.cls ≠ "java/lang/invoke/MethodHandle" ∧ yX9_braid.cls ≠ "java/lang/invoke/VarHandle" ∧ (parseMethodDescriptor yX9_braid.desc).map (fun d => d.parameters.length) = some 1 := by decide +kernel
theorem hy_X9_layWay : yX9_layWay.cls = RX9 ∧ yX9_layWay.cls ≠ "java/lang/invoke/MethodHandle" ∧ yX9_layWay.cls ≠ "java/lang/invoke/VarHandle" ∧ (parseMethodDescriptor yX9_layWay.desc).map (fun d => d.parameters.length) = some 2 := by decide +kernel
theorem hy_X9_layWays : yX9_layWays.cls = RX9 ∧ yX9_layWays.cls ≠ "java/lang/invoke/MethodHandle" ∧ yX9_layWays.cls ≠ "java/lang/invoke/VarHandle" ∧ (parseMethodDescriptor yX9_layWays.desc).map (fun d => d.parameters.length) = some 2 := by decide +kernel
theorem hy_X9_tokenOf : yX9_tokenOf.cls = RX9 ∧ yX9_tokenOf.cls ≠ "java/lang/invoke/MethodHandle" ∧ yX9_tokenOf.cls ≠ "java/lang/invoke/VarHandle" ∧ (parseMethodDescriptor yX9_tokenOf.desc).map (fun d => d.parameters.length) = some 3 := by decide +kernel
theorem hy_X9_rowAt : yX9_rowAt.cls = RX9 ∧ yX9_rowAt.cls ≠ "java/lang/invoke/MethodHandle" ∧ yX9_rowAt.cls ≠ "java/lang/invoke/VarHandle" ∧ (parseMethodDescriptor yX9_rowAt.desc).map (fun d => d.parameters.length) = some 1 := by decide +kernel
theorem hy_X9_tokenAt : yX9_tokenAt.cls = RX9 ∧ yX9_tokenAt.cls ≠ "java/lang/invoke/MethodHandle" ∧ yX9_tokenAt.cls ≠ "java/lang/invoke/VarHandle" ∧ (parseMethodDescriptor yX9_tokenAt.desc).map (fun d => d.parameters.length) = some 1 := by decide +kernel
theorem hy_X9_layRow : yX9_layRow.cls = RX9 ∧ yX9_layRow.cls ≠ "java/lang/invoke/MethodHandle" ∧ yX9_layRow.cls ≠ "java/lang/invoke/VarHandle" ∧ (parseMethodDescriptor yX9_layRow.desc).map (fun d => d.parameters.length) = some 1 := by decide +kernel
theorem hy_X9_said : yX9_said.cls = RX9 ∧ yX9_said.cls ≠ "java/lang/invoke/MethodHandle" ∧ yX9_said.cls ≠ "java/lang/invoke/VarHandle" ∧ (parseMethodDescriptor yX9_said.desc).map (fun d => d.parameters.length) = some 3 := by decide +kernel
theorem hy_X9_say : yX9_say.cls = RX9 ∧ yX9_say.cls ≠ "java/lang/invoke/MethodHandle" ∧ yX9_say.cls ≠ "java/lang/invoke/VarHandle" ∧ (parseMethodDescriptor yX9_say.desc).map (fun d => d.parameters.length) = some 2 := by decide +kernel
theorem hy_X9_alter : yX9_alter.cls = RX9 ∧ yX9_alter.cls ≠ "java/lang/invoke/MethodHandle" ∧ yX9_alter.cls ≠ "java/lang/invoke/VarHandle" ∧ (parseMethodDescriptor yX9_alter.desc).map (fun d => d.parameters.length) = some 2 := by decide +kernel
theorem hy_X9_later : yX9_later.cls = RX9 ∧ yX9_later.cls ≠ "java/lang/invoke/MethodHandle" ∧ yX9_later.cls ≠ "java/lang/invoke/VarHandle" ∧ (parseMethodDescriptor yX9_later.desc).map (fun d => d.parameters.length) = some 2 := by decide +kernel
theorem hy_X9_unlikeAt : yX9_unlikeAt.cls = RX9 ∧ yX9_unlikeAt.cls ≠ "java/lang/invoke/MethodHandle" ∧ yX9_unlikeAt.cls ≠ "java/lang/invoke/VarHandle" ∧ (parseMethodDescriptor yX9_unlikeAt.desc).map (fun d => d.parameters.length) = some 1 := by decide +kernel
theorem hy_X9_at : yX9_at.cls = RX9 ∧ yX9_at.cls ≠ "java/lang/invoke/MethodHandle" ∧ yX9_at.cls ≠ "java/lang/invoke/VarHandle" ∧ (parseMethodDescriptor yX9_at.desc).map (fun d => d.parameters.length) = some 3 := by decide +kernel
theorem hy_X9_layLeast : yX9_layLeast.cls = RX9 ∧ yX9_layLeast.cls ≠ "java/lang/invoke/MethodHandle" ∧ yX9_layLeast.cls ≠ "java/lang/invoke/VarHandle" ∧ (parseMethodDescriptor yX9_layLeast.desc).map (fun d => d.parameters.length) = some 1 := by decide +kernel
theorem hy_X9_layState : yX9_layState.cls = RX9 ∧ yX9_layState.cls ≠ "java/lang/invoke/MethodHandle" ∧ yX9_layState.cls ≠ "java/lang/invoke/VarHandle" ∧ (parseMethodDescriptor yX9_layState.desc).map (fun d => d.parameters.length) = some 3 := by decide +kernel
theorem hy_X9_laySaying : yX9_laySaying.cls = RX9 ∧ yX9_laySaying.cls ≠ "java/lang/invoke/MethodHandle" ∧ yX9_laySaying.cls ≠ "java/lang/invoke/VarHandle" ∧ (parseMethodDescriptor yX9_laySaying.desc).map (fun d => d.parameters.length) = some 0 := by decide +kernel
theorem hy_X9_soundSo : yX9_soundSo.cls = RX9 ∧ yX9_soundSo.cls ≠ "java/lang/invoke/MethodHandle" ∧ yX9_soundSo.cls ≠ "java/lang/invoke/VarHandle" ∧ (parseMethodDescriptor yX9_soundSo.desc).map (fun d => d.parameters.length) = some 0 := by decide +kernel
theorem hy_X9_rivals : yX9_rivals.cls = RX9 ∧ yX9_rivals.cls ≠ "java/lang/invoke/MethodHandle" ∧ yX9_rivals.cls ≠ "java/lang/invoke/VarHandle" ∧ (parseMethodDescriptor yX9_rivals.desc).map (fun d => d.parameters.length) = some 0 := by decide +kernel
theorem hy_X9_nearest : yX9_nearest.cls = RX9 ∧ yX9_nearest.cls ≠ "java/lang/invoke/MethodHandle" ∧ yX9_nearest.cls ≠ "java/lang/invoke/VarHandle" ∧ (parseMethodDescriptor yX9_nearest.desc).map (fun d => d.parameters.length) = some 1 := by decide +kernel
theorem hy_X9_farOf : yX9_farOf.cls = RX9 ∧ yX9_farOf.cls ≠ "java/lang/invoke/MethodHandle" ∧ yX9_farOf.cls ≠ "java/lang/invoke/VarHandle" ∧ (parseMethodDescriptor yX9_farOf.desc).map (fun d => d.parameters.length) = some 2 := by decide +kernel
theorem hy_X9_far : yX9_far.cls = RX9 ∧ yX9_far.cls ≠ "java/lang/invoke/MethodHandle" ∧ yX9_far.cls ≠ "java/lang/invoke/VarHandle" ∧ (parseMethodDescriptor yX9_far.desc).map (fun d => d.parameters.length) = some 3 := by decide +kernel
theorem hy_X9_hoursOf : yX9_hoursOf.cls = RX9 ∧ yX9_hoursOf.cls ≠ "java/lang/invoke/MethodHandle" ∧ yX9_hoursOf.cls ≠ "java/lang/invoke/VarHandle" ∧ (parseMethodDescriptor yX9_hoursOf.desc).map (fun d => d.parameters.length) = some 1 := by decide +kernel
theorem hy_X9_best : yX9_best.cls = RX9 ∧ yX9_best.cls ≠ "java/lang/invoke/MethodHandle" ∧ yX9_best.cls ≠ "java/lang/invoke/VarHandle" ∧ (parseMethodDescriptor yX9_best.desc).map (fun d => d.parameters.length) = some 3 := by decide +kernel
theorem hy_X9_showsBy : yX9_showsBy.cls = RX9 ∧ yX9_showsBy.cls ≠ "java/lang/invoke/MethodHandle" ∧ yX9_showsBy.cls ≠ "java/lang/invoke/VarHandle" ∧ (parseMethodDescriptor yX9_showsBy.desc).map (fun d => d.parameters.length) = some 3 := by decide +kernel
theorem hy_X9_isSlip : yX9_isSlip.cls = RX9 ∧ yX9_isSlip.cls ≠ "java/lang/invoke/MethodHandle" ∧ yX9_isSlip.cls ≠ "java/lang/invoke/VarHandle" ∧ (parseMethodDescriptor yX9_isSlip.desc).map (fun d => d.parameters.length) = some 3 := by decide +kernel
theorem hy_X9_learnt : yX9_learnt.cls = RX9 ∧ yX9_learnt.cls ≠ "java/lang/invoke/MethodHandle" ∧ yX9_learnt.cls ≠ "java/lang/invoke/VarHandle" ∧ (parseMethodDescriptor yX9_learnt.desc).map (fun d => d.parameters.length) = some 3 := by decide +kernel
theorem hy_X9_slip : yX9_slip.cls = RX9 ∧ yX9_slip.cls ≠ "java/lang/invoke/MethodHandle" ∧ yX9_slip.cls ≠ "java/lang/invoke/VarHandle" ∧ (parseMethodDescriptor yX9_slip.desc).map (fun d => d.parameters.length) = some 3 := by decide +kernel
theorem hy_X9_noSlips : yX9_noSlips.cls = RX9 ∧ yX9_noSlips.cls ≠ "java/lang/invoke/MethodHandle" ∧ yX9_noSlips.cls ≠ "java/lang/invoke/VarHandle" ∧ (parseMethodDescriptor yX9_noSlips.desc).map (fun d => d.parameters.length) = some 0 := by decide +kernel
theorem hy_X9_isListed : yX9_isListed.cls = RX9 ∧ yX9_isListed.cls ≠ "java/lang/invoke/MethodHandle" ∧ yX9_isListed.cls ≠ "java/lang/invoke/VarHandle" ∧ (parseMethodDescriptor yX9_isListed.desc).map (fun d => d.parameters.length) = some 2 := by decide +kernel
theorem hy_X9_fewestWays : yX9_fewestWays.cls = RX9 ∧ yX9_fewestWays.cls ≠ "java/lang/invoke/MethodHandle" ∧ yX9_fewestWays.cls ≠ "java/lang/invoke/VarHandle" ∧ (parseMethodDescriptor yX9_fewestWays.desc).map (fun d => d.parameters.length) = some 0 := by decide +kernel
theorem hy_X9_slips : yX9_slips.cls = RX9 ∧ yX9_slips.cls ≠ "java/lang/invoke/MethodHandle" ∧ yX9_slips.cls ≠ "java/lang/invoke/VarHandle" ∧ (parseMethodDescriptor yX9_slips.desc).map (fun d => d.parameters.length) = some 1 := by decide +kernel
theorem hy_X9_list : yX9_list.cls = RX9 ∧ yX9_list.cls ≠ "java/lang/invoke/MethodHandle" ∧ yX9_list.cls ≠ "java/lang/invoke/VarHandle" ∧ (parseMethodDescriptor yX9_list.desc).map (fun d => d.parameters.length) = some 2 := by decide +kernel
theorem hy_X9_isHead : yX9_isHead.cls = RX9 ∧ yX9_isHead.cls ≠ "java/lang/invoke/MethodHandle" ∧ yX9_isHead.cls ≠ "java/lang/invoke/VarHandle" ∧ (parseMethodDescriptor yX9_isHead.desc).map (fun d => d.parameters.length) = some 1 := by decide +kernel
theorem hy_X9_head : yX9_head.cls = RX9 ∧ yX9_head.cls ≠ "java/lang/invoke/MethodHandle" ∧ yX9_head.cls ≠ "java/lang/invoke/VarHandle" ∧ (parseMethodDescriptor yX9_head.desc).map (fun d => d.parameters.length) = some 3 := by decide +kernel
theorem hy_X9_isAlive : yX9_isAlive.cls = RX9 ∧ yX9_isAlive.cls ≠ "java/lang/invoke/MethodHandle" ∧ yX9_isAlive.cls ≠ "java/lang/invoke/VarHandle" ∧ (parseMethodDescriptor yX9_isAlive.desc).map (fun d => d.parameters.length) = some 1 := by decide +kernel
theorem hy_X9_alive : yX9_alive.cls = RX9 ∧ yX9_alive.cls ≠ "java/lang/invoke/MethodHandle" ∧ yX9_alive.cls ≠ "java/lang/invoke/VarHandle" ∧ (parseMethodDescriptor yX9_alive.desc).map (fun d => d.parameters.length) = some 2 := by decide +kernel
theorem hy_X9_wordOf : yX9_wordOf.cls = RX9 ∧ yX9_wordOf.cls ≠ "java/lang/invoke/MethodHandle" ∧ yX9_wordOf.cls ≠ "java/lang/invoke/VarHandle" ∧ (parseMethodDescriptor yX9_wordOf.desc).map (fun d => d.parameters.length) = some 2 := by decide +kernel
theorem hy_X9_same : yX9_same.cls = RX9 ∧ yX9_same.cls ≠ "java/lang/invoke/MethodHandle" ∧ yX9_same.cls ≠ "java/lang/invoke/VarHandle" ∧ (parseMethodDescriptor yX9_same.desc).map (fun d => d.parameters.length) = some 1 := by decide +kernel
theorem hy_X9_isFrom : yX9_isFrom.cls = RX9 ∧ yX9_isFrom.cls ≠ "java/lang/invoke/MethodHandle" ∧ yX9_isFrom.cls ≠ "java/lang/invoke/VarHandle" ∧ (parseMethodDescriptor yX9_isFrom.desc).map (fun d => d.parameters.length) = some 2 := by decide +kernel
theorem hy_X9_since : yX9_since.cls = RX9 ∧ yX9_since.cls ≠ "java/lang/invoke/MethodHandle" ∧ yX9_since.cls ≠ "java/lang/invoke/VarHandle" ∧ (parseMethodDescriptor yX9_since.desc).map (fun d => d.parameters.length) = some 2 := by decide +kernel
theorem hy_X9_areHeads : yX9_areHeads.cls = RX9 ∧ yX9_areHeads.cls ≠ "java/lang/invoke/MethodHandle" ∧ yX9_areHeads.cls ≠ "java/lang/invoke/VarHandle" ∧ (parseMethodDescriptor yX9_areHeads.desc).map (fun d => d.parameters.length) = some 1 := by decide +kernel
theorem hy_X9_lost : yX9_lost.cls = RX9 ∧ yX9_lost.cls ≠ "java/lang/invoke/MethodHandle" ∧ yX9_lost.cls ≠ "java/lang/invoke/VarHandle" ∧ (parseMethodDescriptor yX9_lost.desc).map (fun d => d.parameters.length) = some 1 := by decide +kernel
theorem hy_X9_from : yX9_from.cls = RX9 ∧ yX9_from.cls ≠ "java/lang/invoke/MethodHandle" ∧ yX9_from.cls ≠ "java/lang/invoke/VarHandle" ∧ (parseMethodDescriptor yX9_from.desc).map (fun d => d.parameters.length) = some 2 := by decide +kernel
theorem hy_X9_odds : yX9_odds.cls = RX9 ∧ yX9_odds.cls ≠ "java/lang/invoke/MethodHandle" ∧ yX9_odds.cls ≠ "java/lang/invoke/VarHandle" ∧ (parseMethodDescriptor yX9_odds.desc).map (fun d => d.parameters.length) = some 4 := by decide +kernel
theorem hy_X9_copy : yX9_copy.cls = RX9 ∧ yX9_copy.cls ≠ "java/lang/invoke/MethodHandle" ∧ yX9_copy.cls ≠ "java/lang/invoke/VarHandle" ∧ (parseMethodDescriptor yX9_copy.desc).map (fun d => d.parameters.length) = some 2 := by decide +kernel
theorem hy_X9_keep : yX9_keep.cls = RX9 ∧ yX9_keep.cls ≠ "java/lang/invoke/MethodHandle" ∧ yX9_keep.cls ≠ "java/lang/invoke/VarHandle" ∧ (parseMethodDescriptor yX9_keep.desc).map (fun d => d.parameters.length) = some 0 := by decide +kernel
theorem hy_X9_back : yX9_back.cls = RX9 ∧ yX9_back.cls ≠ "java/lang/invoke/MethodHandle" ∧ yX9_back.cls ≠ "java/lang/invoke/VarHandle" ∧ (parseMethodDescriptor yX9_back.desc).map (fun d => d.parameters.length) = some 0 := by decide +kernel
theorem hy_X9_count : yX9_count.cls = RX9 ∧ yX9_count.cls ≠ "java/lang/invoke/MethodHandle" ∧ yX9_count.cls ≠ "java/lang/invoke/VarHandle" ∧ (parseMethodDescriptor yX9_count.desc).map (fun d => d.parameters.length) = some 1 := by decide +kernel
theorem hy_J6_bitCount_0f7a4 : yJ6_bitCount_0f7a4.cls = RJ6 ∧ yJ6_bitCount_0f7a4.cls ≠ "java/lang/invoke/MethodHandle" ∧ yJ6_bitCount_0f7a4.cls ≠ "java/lang/invoke/VarHandle" ∧ (parseMethodDescriptor yJ6_bitCount_0f7a4.desc).map (fun d => d.parameters.length) = some 1 := by decide +kernel
