/-! words of the tables, by their places; the methods -/
theorem wc_1 : ∀ w ∈ wsL_law_r1, w ∈ wsL_law := fun _ h => List.mem_append_left _ (List.mem_append_left _ (List.mem_append_left _ (List.mem_append_left _ (List.mem_append_left _ (List.mem_append_left _ (List.mem_append_left _ (List.mem_append_left _ (List.mem_append_left _ (List.mem_append_left _ (List.mem_append_left _ h))))))))))
theorem wc_2 : ∀ w ∈ wsL_law_r2, w ∈ wsL_law := fun _ h => List.mem_append_left _ (List.mem_append_left _ (List.mem_append_left _ (List.mem_append_left _ (List.mem_append_left _ (List.mem_append_left _ (List.mem_append_left _ (List.mem_append_left _ (List.mem_append_left _ (List.mem_append_left _ (List.mem_append_right _ (List.mem_append_left _ h)))))))))))
theorem wc_3 : ∀ w ∈ wsL_law_r3, w ∈ wsL_law := fun _ h => List.mem_append_left _ (List.mem_append_left _ (List.mem_append_left _ (List.mem_append_left _ (List.mem_append_left _ (List.mem_append_left _ (List.mem_append_left _ (List.mem_append_left _ (List.mem_append_left _ (List.mem_append_left _ (List.mem_append_right _ (List.mem_append_right _ (List.mem_append_left _ h))))))))))))
theorem wc_4 : ∀ w ∈ wsL_law_r4, w ∈ wsL_law := fun _ h => List.mem_append_left _ (List.mem_append_left _ (List.mem_append_left _ (List.mem_append_left _ (List.mem_append_left _ (List.mem_append_left _ (List.mem_append_left _ (List.mem_append_left _ (List.mem_append_left _ (List.mem_append_left _ (List.mem_append_right _ (List.mem_append_right _ (List.mem_append_right _ (List.mem_append_left _ h)))))))))))))
theorem wc_5 : ∀ w ∈ wsL_law_r5, w ∈ wsL_law := fun _ h => List.mem_append_left _ (List.mem_append_left _ (List.mem_append_left _ (List.mem_append_left _ (List.mem_append_left _ (List.mem_append_left _ (List.mem_append_left _ (List.mem_append_left _ (List.mem_append_left _ (List.mem_append_left _ (List.mem_append_right _ (List.mem_append_right _ (List.mem_append_right _ (List.mem_append_right _ (List.mem_append_left _ h))))))))))))))
theorem wc_6 : ∀ w ∈ wsL_law_r6, w ∈ wsL_law := fun _ h => List.mem_append_left _ (List.mem_append_left _ (List.mem_append_left _ (List.mem_append_left _ (List.mem_append_left _ (List.mem_append_left _ (List.mem_append_left _ (List.mem_append_left _ (List.mem_append_left _ (List.mem_append_left _ (List.mem_append_right _ (List.mem_append_right _ (List.mem_append_right _ (List.mem_append_right _ (List.mem_append_right _ (List.mem_append_left _ h)))))))))))))))
theorem wc_7 : ∀ w ∈ wsL_law_r7, w ∈ wsL_law := fun _ h => List.mem_append_left _ (List.mem_append_left _ (List.mem_append_left _ (List.mem_append_left _ (List.mem_append_left _ (List.mem_append_left _ (List.mem_append_left _ (List.mem_append_left _ (List.mem_append_left _ (List.mem_append_left _ (List.mem_append_right _ (List.mem_append_right _ (List.mem_append_right _ (List.mem_append_right _ (List.mem_append_right _ (List.mem_append_right _ (List.mem_append_left _ h))))))))))))))))
theorem wc_8 : ∀ w ∈ wsL_law_r8, w ∈ wsL_law := fun _ h => List.mem_append_left _ (List.mem_append_left _ (List.mem_append_left _ (List.mem_append_left _ (List.mem_append_left _ (List.mem_append_left _ (List.mem_append_left _ (List.mem_append_left _ (List.mem_append_left _ (List.mem_append_left _ (List.mem_append_right _ (List.mem_append_right _ (List.mem_append_right _ (List.mem_append_right _ (List.mem_append_right _ (List.mem_append_right _ (List.mem_append_right _ (List.mem_append_left _ h)))))))))))))))))
theorem wc_9 : ∀ w ∈ wsL_law_r9, w ∈ wsL_law := fun _ h => List.mem_append_left _ (List.mem_append_left _ (List.mem_append_left _ (List.mem_append_left _ (List.mem_append_left _ (List.mem_append_left _ (List.mem_append_left _ (List.mem_append_left _ (List.mem_append_left _ (List.mem_append_left _ (List.mem_append_right _ (List.mem_append_right _ (List.mem_append_right _ (List.mem_append_right _ (List.mem_append_right _ (List.mem_append_right _ (List.mem_append_right _ (List.mem_append_right _ (List.mem_append_left _ h))))))))))))))))))
theorem wc_10 : ∀ w ∈ wsL_law_r10, w ∈ wsL_law := fun _ h => List.mem_append_left _ (List.mem_append_left _ (List.mem_append_left _ (List.mem_append_left _ (List.mem_append_left _ (List.mem_append_left _ (List.mem_append_left _ (List.mem_append_left _ (List.mem_append_left _ (List.mem_append_left _ (List.mem_append_right _ (List.mem_append_right _ (List.mem_append_right _ (List.mem_append_right _ (List.mem_append_right _ (List.mem_append_right _ (List.mem_append_right _ (List.mem_append_right _ (List.mem_append_right _ (List.mem_append_left _ h)))))))))))))))))))
theorem wc_11 : ∀ w ∈ wsL_law_r11, w ∈ wsL_law := fun _ h => List.mem_append_left _ (List.mem_append_left _ (List.mem_append_left _ (List.mem_append_left _ (List.mem_append_left _ (List.mem_append_left _ (List.mem_append_left _ (List.mem_append_left _ (List.mem_append_left _ (List.mem_append_left _ (List.mem_append_right _ (List.mem_append_right _ (List.mem_append_right _ (List.mem_append_right _ (List.mem_append_right _ (List.mem_append_right _ (List.mem_append_right _ (List.mem_append_right _ (List.mem_append_right _ (List.mem_append_right _ (List.mem_append_left _ h))))))))))))))))))))
theorem wc_12 : ∀ w ∈ wsL_law_r12, w ∈ wsL_law := fun _ h => List.mem_append_left _ (List.mem_append_left _ (List.mem_append_left _ (List.mem_append_left _ (List.mem_append_left _ (List.mem_append_left _ (List.mem_append_left _ (List.mem_append_left _ (List.mem_append_left _ (List.mem_append_left _ (List.mem_append_right _ (List.mem_append_right _ (List.mem_append_right _ (List.mem_append_right _ (List.mem_append_right _ (List.mem_append_right _ (List.mem_append_right _ (List.mem_append_right _ (List.mem_append_right _ (List.mem_append_right _ (List.mem_append_right _ (List.mem_append_left _ h)))))))))))))))))))))
theorem wc_13 : ∀ w ∈ wsL_law_r13, w ∈ wsL_law := fun _ h => List.mem_append_left _ (List.mem_append_left _ (List.mem_append_left _ (List.mem_append_left _ (List.mem_append_left _ (List.mem_append_left _ (List.mem_append_left _ (List.mem_append_left _ (List.mem_append_left _ (List.mem_append_left _ (List.mem_append_right _ (List.mem_append_right _ (List.mem_append_right _ (List.mem_append_right _ (List.mem_append_right _ (List.mem_append_right _ (List.mem_append_right _ (List.mem_append_right _ (List.mem_append_right _ (List.mem_append_right _ (List.mem_append_right _ (List.mem_append_right _ (List.mem_append_left _ h))))))))))))))))))))))
theorem wc_14 : ∀ w ∈ wsL_law_r14, w ∈ wsL_law := fun _ h => List.mem_append_left _ (List.mem_append_left _ (List.mem_append_left _ (List.mem_append_left _ (List.mem_append_left _ (List.mem_append_left _ (List.mem_append_left _ (List.mem_append_left _ (List.mem_append_left _ (List.mem_append_left _ (List.mem_append_right _ (List.mem_append_right _ (List.mem_append_right _ (List.mem_append_right _ (List.mem_append_right _ (List.mem_append_right _ (List.mem_append_right _ (List.mem_append_right _ (List.mem_append_right _ (List.mem_append_right _ (List.mem_append_right _ (List.mem_append_right _ (List.mem_append_right _ (List.mem_append_left _ h)))))))))))))))))))))))
theorem wc_15 : ∀ w ∈ wsL_law_r15, w ∈ wsL_law := fun _ h => List.mem_append_left _ (List.mem_append_left _ (List.mem_append_left _ (List.mem_append_left _ (List.mem_append_left _ (List.mem_append_left _ (List.mem_append_left _ (List.mem_append_left _ (List.mem_append_left _ (List.mem_append_left _ (List.mem_append_right _ (List.mem_append_right _ (List.mem_append_right _ (List.mem_append_right _ (List.mem_append_right _ (List.mem_append_right _ (List.mem_append_right _ (List.mem_append_right _ (List.mem_append_right _ (List.mem_append_right _ (List.mem_append_right _ (List.mem_append_right _ (List.mem_append_right _ (List.mem_append_right _ (List.mem_append_left _ h))))))))))))))))))))))))
theorem wc_16 : ∀ w ∈ wsL_law_r16, w ∈ wsL_law := fun _ h => List.mem_append_left _ (List.mem_append_left _ (List.mem_append_left _ (List.mem_append_left _ (List.mem_append_left _ (List.mem_append_left _ (List.mem_append_left _ (List.mem_append_left _ (List.mem_append_left _ (List.mem_append_left _ (List.mem_append_right _ (List.mem_append_right _ (List.mem_append_right _ (List.mem_append_right _ (List.mem_append_right _ (List.mem_append_right _ (List.mem_append_right _ (List.mem_append_right _ (List.mem_append_right _ (List.mem_append_right _ (List.mem_append_right _ (List.mem_append_right _ (List.mem_append_right _ (List.mem_append_right _ (List.mem_append_right _ (List.mem_append_left _ h)))))))))))))))))))))))))
theorem wc_17 : ∀ w ∈ wsL_law_r17, w ∈ wsL_law := fun _ h => List.mem_append_left _ (List.mem_append_left _ (List.mem_append_left _ (List.mem_append_left _ (List.mem_append_left _ (List.mem_append_left _ (List.mem_append_left _ (List.mem_append_left _ (List.mem_append_left _ (List.mem_append_left _ (List.mem_append_right _ (List.mem_append_right _ (List.mem_append_right _ (List.mem_append_right _ (List.mem_append_right _ (List.mem_append_right _ (List.mem_append_right _ (List.mem_append_right _ (List.mem_append_right _ (List.mem_append_right _ (List.mem_append_right _ (List.mem_append_right _ (List.mem_append_right _ (List.mem_append_right _ (List.mem_append_right _ (List.mem_append_right _ (List.mem_append_left _ h))))))))))))))))))))))))))
theorem wc_18 : ∀ w ∈ wsL_law_r18, w ∈ wsL_law := fun _ h => List.mem_append_left _ (List.mem_append_left _ (List.mem_append_left _ (List.mem_append_left _ (List.mem_append_left _ (List.mem_append_left _ (List.mem_append_left _ (List.mem_append_left _ (List.mem_append_left _ (List.mem_append_left _ (List.mem_append_right _ (List.mem_append_right _ (List.mem_append_right _ (List.mem_append_right _ (List.mem_append_right _ (List.mem_append_right _ (List.mem_append_right _ (List.mem_append_right _ (List.mem_append_right _ (List.mem_append_right _ (List.mem_append_right _ (List.mem_append_right _ (List.mem_append_right _ (List.mem_append_right _ (List.mem_append_right _ (List.mem_append_right _ (List.mem_append_right _ (List.mem_append_left _ h)))))))))))))))))))))))))))
theorem wc_19 : ∀ w ∈ wsL_law_r19, w ∈ wsL_law := fun _ h => List.mem_append_left _ (List.mem_append_left _ (List.mem_append_left _ (List.mem_append_left _ (List.mem_append_left _ (List.mem_append_left _ (List.mem_append_left _ (List.mem_append_left _ (List.mem_append_left _ (List.mem_append_left _ (List.mem_append_right _ (List.mem_append_right _ (List.mem_append_right _ (List.mem_append_right _ (List.mem_append_right _ (List.mem_append_right _ (List.mem_append_right _ (List.mem_append_right _ (List.mem_append_right _ (List.mem_append_right _ (List.mem_append_right _ (List.mem_append_right _ (List.mem_append_right _ (List.mem_append_right _ (List.mem_append_right _ (List.mem_append_right _ (List.mem_append_right _ (List.mem_append_right _ (List.mem_append_left _ h))))))))))))))))))))))))))))
theorem wc_20 : ∀ w ∈ wsL_law_r20, w ∈ wsL_law := fun _ h => List.mem_append_left _ (List.mem_append_left _ (List.mem_append_left _ (List.mem_append_left _ (List.mem_append_left _ (List.mem_append_left _ (List.mem_append_left _ (List.mem_append_left _ (List.mem_append_left _ (List.mem_append_left _ (List.mem_append_right _ (List.mem_append_right _ (List.mem_append_right _ (List.mem_append_right _ (List.mem_append_right _ (List.mem_append_right _ (List.mem_append_right _ (List.mem_append_right _ (List.mem_append_right _ (List.mem_append_right _ (List.mem_append_right _ (List.mem_append_right _ (List.mem_append_right _ (List.mem_append_right _ (List.mem_append_right _ (List.mem_append_right _ (List.mem_append_right _ (List.mem_append_right _ (List.mem_append_right _ (List.mem_append_left _ h)))))))))))))))))))))))))))))
theorem wc_21 : ∀ w ∈ wsL_law_r21, w ∈ wsL_law := fun _ h => List.mem_append_left _ (List.mem_append_left _ (List.mem_append_left _ (List.mem_append_left _ (List.mem_append_left _ (List.mem_append_left _ (List.mem_append_left _ (List.mem_append_left _ (List.mem_append_left _ (List.mem_append_left _ (List.mem_append_right _ (List.mem_append_right _ (List.mem_append_right _ (List.mem_append_right _ (List.mem_append_right _ (List.mem_append_right _ (List.mem_append_right _ (List.mem_append_right _ (List.mem_append_right _ (List.mem_append_right _ (List.mem_append_right _ (List.mem_append_right _ (List.mem_append_right _ (List.mem_append_right _ (List.mem_append_right _ (List.mem_append_right _ (List.mem_append_right _ (List.mem_append_right _ (List.mem_append_right _ (List.mem_append_right _ (List.mem_append_left _ h))))))))))))))))))))))))))))))
theorem wc_22 : ∀ w ∈ wsL_law_r22, w ∈ wsL_law := fun _ h => List.mem_append_left _ (List.mem_append_left _ (List.mem_append_left _ (List.mem_append_left _ (List.mem_append_left _ (List.mem_append_left _ (List.mem_append_left _ (List.mem_append_left _ (List.mem_append_left _ (List.mem_append_left _ (List.mem_append_right _ (List.mem_append_right _ (List.mem_append_right _ (List.mem_append_right _ (List.mem_append_right _ (List.mem_append_right _ (List.mem_append_right _ (List.mem_append_right _ (List.mem_append_right _ (List.mem_append_right _ (List.mem_append_right _ (List.mem_append_right _ (List.mem_append_right _ (List.mem_append_right _ (List.mem_append_right _ (List.mem_append_right _ (List.mem_append_right _ (List.mem_append_right _ (List.mem_append_right _ (List.mem_append_right _ (List.mem_append_right _ (List.mem_append_left _ h)))))))))))))))))))))))))))))))
theorem wc_23 : ∀ w ∈ wsL_law_r23, w ∈ wsL_law := fun _ h => List.mem_append_left _ (List.mem_append_left _ (List.mem_append_left _ (List.mem_append_left _ (List.mem_append_left _ (List.mem_append_left _ (List.mem_append_left _ (List.mem_append_left _ (List.mem_append_left _ (List.mem_append_left _ (List.mem_append_right _ (List.mem_append_right _ (List.mem_append_right _ (List.mem_append_right _ (List.mem_append_right _ (List.mem_append_right _ (List.mem_append_right _ (List.mem_append_right _ (List.mem_append_right _ (List.mem_append_right _ (List.mem_append_right _ (List.mem_append_right _ (List.mem_append_right _ (List.mem_append_right _ (List.mem_append_right _ (List.mem_append_right _ (List.mem_append_right _ (List.mem_append_right _ (List.mem_append_right _ (List.mem_append_right _ (List.mem_append_right _ (List.mem_append_right _ (List.mem_append_left _ h))))))))))))))))))))))))))))))))
theorem wc_24 : ∀ w ∈ wsL_law_r24, w ∈ wsL_law := fun _ h => List.mem_append_left _ (List.mem_append_left _ (List.mem_append_left _ (List.mem_append_left _ (List.mem_append_left _ (List.mem_append_left _ (List.mem_append_left _ (List.mem_append_left _ (List.mem_append_left _ (List.mem_append_left _ (List.mem_append_right _ (List.mem_append_right _ (List.mem_append_right _ (List.mem_append_right _ (List.mem_append_right _ (List.mem_append_right _ (List.mem_append_right _ (List.mem_append_right _ (List.mem_append_right _ (List.mem_append_right _ (List.mem_append_right _ (List.mem_append_right _ (List.mem_append_right _ (List.mem_append_right _ (List.mem_append_right _ (List.mem_append_right _ (List.mem_append_right _ (List.mem_append_right _ (List.mem_append_right _ (List.mem_append_right _ (List.mem_append_right _ (List.mem_append_right _ (List.mem_append_right _ (List.mem_append_left _ h)))))))))))))))))))))))))))))))))
theorem wc_25 : ∀ w ∈ wsL_law_r25, w ∈ wsL_law := fun _ h => List.mem_append_left _ (List.mem_append_left _ (List.mem_append_left _ (List.mem_append_left _ (List.mem_append_left _ (List.mem_append_left _ (List.mem_append_left _ (List.mem_append_left _ (List.mem_append_left _ (List.mem_append_left _ (List.mem_append_right _ (List.mem_append_right _ (List.mem_append_right _ (List.mem_append_right _ (List.mem_append_right _ (List.mem_append_right _ (List.mem_append_right _ (List.mem_append_right _ (List.mem_append_right _ (List.mem_append_right _ (List.mem_append_right _ (List.mem_append_right _ (List.mem_append_right _ (List.mem_append_right _ (List.mem_append_right _ (List.mem_append_right _ (List.mem_append_right _ (List.mem_append_right _ (List.mem_append_right _ (List.mem_append_right _ (List.mem_append_right _ (List.mem_append_right _ (List.mem_append_right _ (List.mem_append_right _ (List.mem_append_left _ h))))))))))))))))))))))))))))))))))
theorem wc_26 : ∀ w ∈ wsL_law_r26, w ∈ wsL_law := fun _ h => List.mem_append_left _ (List.mem_append_left _ (List.mem_append_left _ (List.mem_append_left _ (List.mem_append_left _ (List.mem_append_left _ (List.mem_append_left _ (List.mem_append_left _ (List.mem_append_left _ (List.mem_append_left _ (List.mem_append_right _ (List.mem_append_right _ (List.mem_append_right _ (List.mem_append_right _ (List.mem_append_right _ (List.mem_append_right _ (List.mem_append_right _ (List.mem_append_right _ (List.mem_append_right _ (List.mem_append_right _ (List.mem_append_right _ (List.mem_append_right _ (List.mem_append_right _ (List.mem_append_right _ (List.mem_append_right _ (List.mem_append_right _ (List.mem_append_right _ (List.mem_append_right _ (List.mem_append_right _ (List.mem_append_right _ (List.mem_append_right _ (List.mem_append_right _ (List.mem_append_right _ (List.mem_append_right _ (List.mem_append_right _ (List.mem_append_left _ h)))))))))))))))))))))))))))))))))))
theorem wc_27 : ∀ w ∈ wsL_law_r27, w ∈ wsL_law := fun _ h => List.mem_append_left _ (List.mem_append_left _ (List.mem_append_left _ (List.mem_append_left _ (List.mem_append_left _ (List.mem_append_left _ (List.mem_append_left _ (List.mem_append_left _ (List.mem_append_left _ (List.mem_append_left _ (List.mem_append_right _ (List.mem_append_right _ (List.mem_append_right _ (List.mem_append_right _ (List.mem_append_right _ (List.mem_append_right _ (List.mem_append_right _ (List.mem_append_right _ (List.mem_append_right _ (List.mem_append_right _ (List.mem_append_right _ (List.mem_append_right _ (List.mem_append_right _ (List.mem_append_right _ (List.mem_append_right _ (List.mem_append_right _ (List.mem_append_right _ (List.mem_append_right _ (List.mem_append_right _ (List.mem_append_right _ (List.mem_append_right _ (List.mem_append_right _ (List.mem_append_right _ (List.mem_append_right _ (List.mem_append_right _ (List.mem_append_right _ (List.mem_append_left _ h))))))))))))))))))))))))))))))))))))
theorem wc_28 : ∀ w ∈ wsL_law_r28, w ∈ wsL_law := fun _ h => List.mem_append_left _ (List.mem_append_left _ (List.mem_append_left _ (List.mem_append_left _ (List.mem_append_left _ (List.mem_append_left _ (List.mem_append_left _ (List.mem_append_left _ (List.mem_append_left _ (List.mem_append_left _ (List.mem_append_right _ (List.mem_append_right _ (List.mem_append_right _ (List.mem_append_right _ (List.mem_append_right _ (List.mem_append_right _ (List.mem_append_right _ (List.mem_append_right _ (List.mem_append_right _ (List.mem_append_right _ (List.mem_append_right _ (List.mem_append_right _ (List.mem_append_right _ (List.mem_append_right _ (List.mem_append_right _ (List.mem_append_right _ (List.mem_append_right _ (List.mem_append_right _ (List.mem_append_right _ (List.mem_append_right _ (List.mem_append_right _ (List.mem_append_right _ (List.mem_append_right _ (List.mem_append_right _ (List.mem_append_right _ (List.mem_append_right _ (List.mem_append_right _ (List.mem_append_left _ h)))))))))))))))))))))))))))))))))))))
theorem wc_29 : ∀ w ∈ wsL_law_r29, w ∈ wsL_law := fun _ h => List.mem_append_left _ (List.mem_append_left _ (List.mem_append_left _ (List.mem_append_left _ (List.mem_append_left _ (List.mem_append_left _ (List.mem_append_left _ (List.mem_append_left _ (List.mem_append_left _ (List.mem_append_left _ (List.mem_append_right _ (List.mem_append_right _ (List.mem_append_right _ (List.mem_append_right _ (List.mem_append_right _ (List.mem_append_right _ (List.mem_append_right _ (List.mem_append_right _ (List.mem_append_right _ (List.mem_append_right _ (List.mem_append_right _ (List.mem_append_right _ (List.mem_append_right _ (List.mem_append_right _ (List.mem_append_right _ (List.mem_append_right _ (List.mem_append_right _ (List.mem_append_right _ (List.mem_append_right _ (List.mem_append_right _ (List.mem_append_right _ (List.mem_append_right _ (List.mem_append_right _ (List.mem_append_right _ (List.mem_append_right _ (List.mem_append_right _ (List.mem_append_right _ (List.mem_append_right _ (List.mem_append_left _ h))))))))))))))))))))))))))))))))))))))
theorem wc_30 : ∀ w ∈ wsL_law_r30, w ∈ wsL_law := fun _ h => List.mem_append_left _ (List.mem_append_left _ (List.mem_append_left _ (List.mem_append_left _ (List.mem_append_left _ (List.mem_append_left _ (List.mem_append_left _ (List.mem_append_left _ (List.mem_append_left _ (List.mem_append_left _ (List.mem_append_right _ (List.mem_append_right _ (List.mem_append_right _ (List.mem_append_right _ (List.mem_append_right _ (List.mem_append_right _ (List.mem_append_right _ (List.mem_append_right _ (List.mem_append_right _ (List.mem_append_right _ (List.mem_append_right _ (List.mem_append_right _ (List.mem_append_right _ (List.mem_append_right _ (List.mem_append_right _ (List.mem_append_right _ (List.mem_append_right _ (List.mem_append_right _ (List.mem_append_right _ (List.mem_append_right _ (List.mem_append_right _ (List.mem_append_right _ (List.mem_append_right _ (List.mem_append_right _ (List.mem_append_right _ (List.mem_append_right _ (List.mem_append_right _ (List.mem_append_right _ (List.mem_append_right _ (List.mem_append_left _ h)))))))))))))))))))))))))))))))))))))))
theorem wc_31 : ∀ w ∈ wsL_law_r31, w ∈ wsL_law := fun _ h => List.mem_append_left _ (List.mem_append_left _ (List.mem_append_left _ (List.mem_append_left _ (List.mem_append_left _ (List.mem_append_left _ (List.mem_append_left _ (List.mem_append_left _ (List.mem_append_left _ (List.mem_append_left _ (List.mem_append_right _ (List.mem_append_right _ (List.mem_append_right _ (List.mem_append_right _ (List.mem_append_right _ (List.mem_append_right _ (List.mem_append_right _ (List.mem_append_right _ (List.mem_append_right _ (List.mem_append_right _ (List.mem_append_right _ (List.mem_append_right _ (List.mem_append_right _ (List.mem_append_right _ (List.mem_append_right _ (List.mem_append_right _ (List.mem_append_right _ (List.mem_append_right _ (List.mem_append_right _ (List.mem_append_right _ (List.mem_append_right _ (List.mem_append_right _ (List.mem_append_right _ (List.mem_append_right _ (List.mem_append_right _ (List.mem_append_right _ (List.mem_append_right _ (List.mem_append_right _ (List.mem_append_right _ (List.mem_append_right _ (List.mem_append_left _ h))))))))))))))))))))))))))))))))))))))))
theorem wc_32 : ∀ w ∈ wsL_law_r32, w ∈ wsL_law := fun _ h => List.mem_append_left _ (List.mem_append_left _ (List.mem_append_left _ (List.mem_append_left _ (List.mem_append_left _ (List.mem_append_left _ (List.mem_append_left _ (List.mem_append_left _ (List.mem_append_left _ (List.mem_append_left _ (List.mem_append_right _ (List.mem_append_right _ (List.mem_append_right _ (List.mem_append_right _ (List.mem_append_right _ (List.mem_append_right _ (List.mem_append_right _ (List.mem_append_right _ (List.mem_append_right _ (List.mem_append_right _ (List.mem_append_right _ (List.mem_append_right _ (List.mem_append_right _ (List.mem_append_right _ (List.mem_append_right _ (List.mem_append_right _ (List.mem_append_right _ (List.mem_append_right _ (List.mem_append_right _ (List.mem_append_right _ (List.mem_append_right _ (List.mem_append_right _ (List.mem_append_right _ (List.mem_append_right _ (List.mem_append_right _ (List.mem_append_right _ (List.mem_append_right _ (List.mem_append_right _ (List.mem_append_right _ (List.mem_append_right _ (List.mem_append_right _ (List.mem_append_left _ h)))))))))))))))))))))))))))))))))))))))))
theorem wc_33 : ∀ w ∈ wsL_law_r33, w ∈ wsL_law := fun _ h => List.mem_append_left _ (List.mem_append_left _ (List.mem_append_left _ (List.mem_append_left _ (List.mem_append_left _ (List.mem_append_left _ (List.mem_append_left _ (List.mem_append_left _ (List.mem_append_left _ (List.mem_append_left _ (List.mem_append_right _ (List.mem_append_right _ (List.mem_append_right _ (List.mem_append_right _ (List.mem_append_right _ (List.mem_append_right _ (List.mem_append_right _ (List.mem_append_right _ (List.mem_append_right _ (List.mem_append_right _ (List.mem_append_right _ (List.mem_append_right _ (List.mem_append_right _ (List.mem_append_right _ (List.mem_append_right _ (List.mem_append_right _ (List.mem_append_right _ (List.mem_append_right _ (List.mem_append_right _ (List.mem_append_right _ (List.mem_append_right _ (List.mem_append_right _ (List.mem_append_right _ (List.mem_append_right _ (List.mem_append_right _ (List.mem_append_right _ (List.mem_append_right _ (List.mem_append_right _ (List.mem_append_right _ (List.mem_append_right _ (List.mem_append_right _ (List.mem_append_right _ (List.mem_append_left _ h))))))))))))))))))))))))))))))))))))))))))
theorem wc_34 : ∀ w ∈ wsL_law_r34, w ∈ wsL_law := fun _ h => List.mem_append_left _ (List.mem_append_left _ (List.mem_append_left _ (List.mem_append_left _ (List.mem_append_left _ (List.mem_append_left _ (List.mem_append_left _ (List.mem_append_left _ (List.mem_append_left _ (List.mem_append_left _ (List.mem_append_right _ (List.mem_append_right _ (List.mem_append_right _ (List.mem_append_right _ (List.mem_append_right _ (List.mem_append_right _ (List.mem_append_right _ (List.mem_append_right _ (List.mem_append_right _ (List.mem_append_right _ (List.mem_append_right _ (List.mem_append_right _ (List.mem_append_right _ (List.mem_append_right _ (List.mem_append_right _ (List.mem_append_right _ (List.mem_append_right _ (List.mem_append_right _ (List.mem_append_right _ (List.mem_append_right _ (List.mem_append_right _ (List.mem_append_right _ (List.mem_append_right _ (List.mem_append_right _ (List.mem_append_right _ (List.mem_append_right _ (List.mem_append_right _ (List.mem_append_right _ (List.mem_append_right _ (List.mem_append_right _ (List.mem_append_right _ (List.mem_append_right _ (List.mem_append_right _ (List.mem_append_left _ h)))))))))))))))))))))))))))))))))))))))))))
theorem wc_35 : ∀ w ∈ wsL_law_r35, w ∈ wsL_law := fun _ h => List.mem_append_left _ (List.mem_append_left _ (List.mem_append_left _ (List.mem_append_left _ (List.mem_append_left _ (List.mem_append_left _ (List.mem_append_left _ (List.mem_append_left _ (List.mem_append_left _ (List.mem_append_left _ (List.mem_append_right _ (List.mem_append_right _ (List.mem_append_right _ (List.mem_append_right _ (List.mem_append_right _ (List.mem_append_right _ (List.mem_append_right _ (List.mem_append_right _ (List.mem_append_right _ (List.mem_append_right _ (List.mem_append_right _ (List.mem_append_right _ (List.mem_append_right _ (List.mem_append_right _ (List.mem_append_right _ (List.mem_append_right _ (List.mem_append_right _ (List.mem_append_right _ (List.mem_append_right _ (List.mem_append_right _ (List.mem_append_right _ (List.mem_append_right _ (List.mem_append_right _ (List.mem_append_right _ (List.mem_append_right _ (List.mem_append_right _ (List.mem_append_right _ (List.mem_append_right _ (List.mem_append_right _ (List.mem_append_right _ (List.mem_append_right _ (List.mem_append_right _ (List.mem_append_right _ (List.mem_append_right _ (List.mem_append_left _ h))))))))))))))))))))))))))))))))))))))))))))
theorem wc_36 : ∀ w ∈ wsL_law_r36, w ∈ wsL_law := fun _ h => List.mem_append_left _ (List.mem_append_left _ (List.mem_append_left _ (List.mem_append_left _ (List.mem_append_left _ (List.mem_append_left _ (List.mem_append_left _ (List.mem_append_left _ (List.mem_append_left _ (List.mem_append_left _ (List.mem_append_right _ (List.mem_append_right _ (List.mem_append_right _ (List.mem_append_right _ (List.mem_append_right _ (List.mem_append_right _ (List.mem_append_right _ (List.mem_append_right _ (List.mem_append_right _ (List.mem_append_right _ (List.mem_append_right _ (List.mem_append_right _ (List.mem_append_right _ (List.mem_append_right _ (List.mem_append_right _ (List.mem_append_right _ (List.mem_append_right _ (List.mem_append_right _ (List.mem_append_right _ (List.mem_append_right _ (List.mem_append_right _ (List.mem_append_right _ (List.mem_append_right _ (List.mem_append_right _ (List.mem_append_right _ (List.mem_append_right _ (List.mem_append_right _ (List.mem_append_right _ (List.mem_append_right _ (List.mem_append_right _ (List.mem_append_right _ (List.mem_append_right _ (List.mem_append_right _ (List.mem_append_right _ (List.mem_append_right _ (List.mem_append_left _ h)))))))))))))))))))))))))))))))))))))))))))))
theorem wc_37 : ∀ w ∈ wsL_law_r37, w ∈ wsL_law := fun _ h => List.mem_append_left _ (List.mem_append_left _ (List.mem_append_left _ (List.mem_append_left _ (List.mem_append_left _ (List.mem_append_left _ (List.mem_append_left _ (List.mem_append_left _ (List.mem_append_left _ (List.mem_append_left _ (List.mem_append_right _ (List.mem_append_right _ (List.mem_append_right _ (List.mem_append_right _ (List.mem_append_right _ (List.mem_append_right _ (List.mem_append_right _ (List.mem_append_right _ (List.mem_append_right _ (List.mem_append_right _ (List.mem_append_right _ (List.mem_append_right _ (List.mem_append_right _ (List.mem_append_right _ (List.mem_append_right _ (List.mem_append_right _ (List.mem_append_right _ (List.mem_append_right _ (List.mem_append_right _ (List.mem_append_right _ (List.mem_append_right _ (List.mem_append_right _ (List.mem_append_right _ (List.mem_append_right _ (List.mem_append_right _ (List.mem_append_right _ (List.mem_append_right _ (List.mem_append_right _ (List.mem_append_right _ (List.mem_append_right _ (List.mem_append_right _ (List.mem_append_right _ (List.mem_append_right _ (List.mem_append_right _ (List.mem_append_right _ (List.mem_append_right _ (List.mem_append_left _ h))))))))))))))))))))))))))))))))))))))))))))))
theorem wc_38 : ∀ w ∈ wsL_law_r38, w ∈ wsL_law := fun _ h => List.mem_append_left _ (List.mem_append_left _ (List.mem_append_left _ (List.mem_append_left _ (List.mem_append_left _ (List.mem_append_left _ (List.mem_append_left _ (List.mem_append_left _ (List.mem_append_left _ (List.mem_append_left _ (List.mem_append_right _ (List.mem_append_right _ (List.mem_append_right _ (List.mem_append_right _ (List.mem_append_right _ (List.mem_append_right _ (List.mem_append_right _ (List.mem_append_right _ (List.mem_append_right _ (List.mem_append_right _ (List.mem_append_right _ (List.mem_append_right _ (List.mem_append_right _ (List.mem_append_right _ (List.mem_append_right _ (List.mem_append_right _ (List.mem_append_right _ (List.mem_append_right _ (List.mem_append_right _ (List.mem_append_right _ (List.mem_append_right _ (List.mem_append_right _ (List.mem_append_right _ (List.mem_append_right _ (List.mem_append_right _ (List.mem_append_right _ (List.mem_append_right _ (List.mem_append_right _ (List.mem_append_right _ (List.mem_append_right _ (List.mem_append_right _ (List.mem_append_right _ (List.mem_append_right _ (List.mem_append_right _ (List.mem_append_right _ (List.mem_append_right _ (List.mem_append_right _ (List.mem_append_left _ h)))))))))))))))))))))))))))))))))))))))))))))))
theorem wc_39 : ∀ w ∈ wsL_law_r39, w ∈ wsL_law := fun _ h => List.mem_append_left _ (List.mem_append_left _ (List.mem_append_left _ (List.mem_append_left _ (List.mem_append_left _ (List.mem_append_left _ (List.mem_append_left _ (List.mem_append_left _ (List.mem_append_left _ (List.mem_append_left _ (List.mem_append_right _ (List.mem_append_right _ (List.mem_append_right _ (List.mem_append_right _ (List.mem_append_right _ (List.mem_append_right _ (List.mem_append_right _ (List.mem_append_right _ (List.mem_append_right _ (List.mem_append_right _ (List.mem_append_right _ (List.mem_append_right _ (List.mem_append_right _ (List.mem_append_right _ (List.mem_append_right _ (List.mem_append_right _ (List.mem_append_right _ (List.mem_append_right _ (List.mem_append_right _ (List.mem_append_right _ (List.mem_append_right _ (List.mem_append_right _ (List.mem_append_right _ (List.mem_append_right _ (List.mem_append_right _ (List.mem_append_right _ (List.mem_append_right _ (List.mem_append_right _ (List.mem_append_right _ (List.mem_append_right _ (List.mem_append_right _ (List.mem_append_right _ (List.mem_append_right _ (List.mem_append_right _ (List.mem_append_right _ (List.mem_append_right _ (List.mem_append_right _ (List.mem_append_right _ (List.mem_append_left _ h))))))))))))))))))))))))))))))))))))))))))))))))
theorem wc_40 : ∀ w ∈ wsL_law_r40, w ∈ wsL_law := fun _ h => List.mem_append_left _ (List.mem_append_left _ (List.mem_append_left _ (List.mem_append_left _ (List.mem_append_left _ (List.mem_append_left _ (List.mem_append_left _ (List.mem_append_left _ (List.mem_append_left _ (List.mem_append_left _ (List.mem_append_right _ (List.mem_append_right _ (List.mem_append_right _ (List.mem_append_right _ (List.mem_append_right _ (List.mem_append_right _ (List.mem_append_right _ (List.mem_append_right _ (List.mem_append_right _ (List.mem_append_right _ (List.mem_append_right _ (List.mem_append_right _ (List.mem_append_right _ (List.mem_append_right _ (List.mem_append_right _ (List.mem_append_right _ (List.mem_append_right _ (List.mem_append_right _ (List.mem_append_right _ (List.mem_append_right _ (List.mem_append_right _ (List.mem_append_right _ (List.mem_append_right _ (List.mem_append_right _ (List.mem_append_right _ (List.mem_append_right _ (List.mem_append_right _ (List.mem_append_right _ (List.mem_append_right _ (List.mem_append_right _ (List.mem_append_right _ (List.mem_append_right _ (List.mem_append_right _ (List.mem_append_right _ (List.mem_append_right _ (List.mem_append_right _ (List.mem_append_right _ (List.mem_append_right _ (List.mem_append_right _ (List.mem_append_left _ h)))))))))))))))))))))))))))))))))))))))))))))))))
theorem wc_41 : ∀ w ∈ wsL_law_r41, w ∈ wsL_law := fun _ h => List.mem_append_left _ (List.mem_append_left _ (List.mem_append_left _ (List.mem_append_left _ (List.mem_append_left _ (List.mem_append_left _ (List.mem_append_left _ (List.mem_append_left _ (List.mem_append_left _ (List.mem_append_left _ (List.mem_append_right _ (List.mem_append_right _ (List.mem_append_right _ (List.mem_append_right _ (List.mem_append_right _ (List.mem_append_right _ (List.mem_append_right _ (List.mem_append_right _ (List.mem_append_right _ (List.mem_append_right _ (List.mem_append_right _ (List.mem_append_right _ (List.mem_append_right _ (List.mem_append_right _ (List.mem_append_right _ (List.mem_append_right _ (List.mem_append_right _ (List.mem_append_right _ (List.mem_append_right _ (List.mem_append_right _ (List.mem_append_right _ (List.mem_append_right _ (List.mem_append_right _ (List.mem_append_right _ (List.mem_append_right _ (List.mem_append_right _ (List.mem_append_right _ (List.mem_append_right _ (List.mem_append_right _ (List.mem_append_right _ (List.mem_append_right _ (List.mem_append_right _ (List.mem_append_right _ (List.mem_append_right _ (List.mem_append_right _ (List.mem_append_right _ (List.mem_append_right _ (List.mem_append_right _ (List.mem_append_right _ (List.mem_append_right _ (List.mem_append_left _ h))))))))))))))))))))))))))))))))))))))))))))))))))
theorem wc_42 : ∀ w ∈ wsL_law_r42, w ∈ wsL_law := fun _ h => List.mem_append_left _ (List.mem_append_left _ (List.mem_append_left _ (List.mem_append_left _ (List.mem_append_left _ (List.mem_append_left _ (List.mem_append_left _ (List.mem_append_left _ (List.mem_append_left _ (List.mem_append_left _ (List.mem_append_right _ (List.mem_append_right _ (List.mem_append_right _ (List.mem_append_right _ (List.mem_append_right _ (List.mem_append_right _ (List.mem_append_right _ (List.mem_append_right _ (List.mem_append_right _ (List.mem_append_right _ (List.mem_append_right _ (List.mem_append_right _ (List.mem_append_right _ (List.mem_append_right _ (List.mem_append_right _ (List.mem_append_right _ (List.mem_append_right _ (List.mem_append_right _ (List.mem_append_right _ (List.mem_append_right _ (List.mem_append_right _ (List.mem_append_right _ (List.mem_append_right _ (List.mem_append_right _ (List.mem_append_right _ (List.mem_append_right _ (List.mem_append_right _ (List.mem_append_right _ (List.mem_append_right _ (List.mem_append_right _ (List.mem_append_right _ (List.mem_append_right _ (List.mem_append_right _ (List.mem_append_right _ (List.mem_append_right _ (List.mem_append_right _ (List.mem_append_right _ (List.mem_append_right _ (List.mem_append_right _ (List.mem_append_right _ (List.mem_append_right _ (List.mem_append_left _ h)))))))))))))))))))))))))))))))))))))))))))))))))))
theorem wc_43 : ∀ w ∈ wsL_law_r43, w ∈ wsL_law := fun _ h => List.mem_append_left _ (List.mem_append_left _ (List.mem_append_left _ (List.mem_append_left _ (List.mem_append_left _ (List.mem_append_left _ (List.mem_append_left _ (List.mem_append_left _ (List.mem_append_left _ (List.mem_append_left _ (List.mem_append_right _ (List.mem_append_right _ (List.mem_append_right _ (List.mem_append_right _ (List.mem_append_right _ (List.mem_append_right _ (List.mem_append_right _ (List.mem_append_right _ (List.mem_append_right _ (List.mem_append_right _ (List.mem_append_right _ (List.mem_append_right _ (List.mem_append_right _ (List.mem_append_right _ (List.mem_append_right _ (List.mem_append_right _ (List.mem_append_right _ (List.mem_append_right _ (List.mem_append_right _ (List.mem_append_right _ (List.mem_append_right _ (List.mem_append_right _ (List.mem_append_right _ (List.mem_append_right _ (List.mem_append_right _ (List.mem_append_right _ (List.mem_append_right _ (List.mem_append_right _ (List.mem_append_right _ (List.mem_append_right _ (List.mem_append_right _ (List.mem_append_right _ (List.mem_append_right _ (List.mem_append_right _ (List.mem_append_right _ (List.mem_append_right _ (List.mem_append_right _ (List.mem_append_right _ (List.mem_append_right _ (List.mem_append_right _ (List.mem_append_right _ (List.mem_append_right _ (List.mem_append_left _ h))))))))))))))))))))))))))))))))))))))))))))))))))))
theorem wc_44 : ∀ w ∈ wsL_law_r44, w ∈ wsL_law := fun _ h => List.mem_append_left _ (List.mem_append_left _ (List.mem_append_left _ (List.mem_append_left _ (List.mem_append_left _ (List.mem_append_left _ (List.mem_append_left _ (List.mem_append_left _ (List.mem_append_left _ (List.mem_append_left _ (List.mem_append_right _ (List.mem_append_right _ (List.mem_append_right _ (List.mem_append_right _ (List.mem_append_right _ (List.mem_append_right _ (List.mem_append_right _ (List.mem_append_right _ (List.mem_append_right _ (List.mem_append_right _ (List.mem_append_right _ (List.mem_append_right _ (List.mem_append_right _ (List.mem_append_right _ (List.mem_append_right _ (List.mem_append_right _ (List.mem_append_right _ (List.mem_append_right _ (List.mem_append_right _ (List.mem_append_right _ (List.mem_append_right _ (List.mem_append_right _ (List.mem_append_right _ (List.mem_append_right _ (List.mem_append_right _ (List.mem_append_right _ (List.mem_append_right _ (List.mem_append_right _ (List.mem_append_right _ (List.mem_append_right _ (List.mem_append_right _ (List.mem_append_right _ (List.mem_append_right _ (List.mem_append_right _ (List.mem_append_right _ (List.mem_append_right _ (List.mem_append_right _ (List.mem_append_right _ (List.mem_append_right _ (List.mem_append_right _ (List.mem_append_right _ (List.mem_append_right _ (List.mem_append_right _ (List.mem_append_left _ h)))))))))))))))))))))))))))))))))))))))))))))))))))))
theorem wc_45 : ∀ w ∈ wsL_law_r45, w ∈ wsL_law := fun _ h => List.mem_append_left _ (List.mem_append_left _ (List.mem_append_left _ (List.mem_append_left _ (List.mem_append_left _ (List.mem_append_left _ (List.mem_append_left _ (List.mem_append_left _ (List.mem_append_left _ (List.mem_append_left _ (List.mem_append_right _ (List.mem_append_right _ (List.mem_append_right _ (List.mem_append_right _ (List.mem_append_right _ (List.mem_append_right _ (List.mem_append_right _ (List.mem_append_right _ (List.mem_append_right _ (List.mem_append_right _ (List.mem_append_right _ (List.mem_append_right _ (List.mem_append_right _ (List.mem_append_right _ (List.mem_append_right _ (List.mem_append_right _ (List.mem_append_right _ (List.mem_append_right _ (List.mem_append_right _ (List.mem_append_right _ (List.mem_append_right _ (List.mem_append_right _ (List.mem_append_right _ (List.mem_append_right _ (List.mem_append_right _ (List.mem_append_right _ (List.mem_append_right _ (List.mem_append_right _ (List.mem_append_right _ (List.mem_append_right _ (List.mem_append_right _ (List.mem_append_right _ (List.mem_append_right _ (List.mem_append_right _ (List.mem_append_right _ (List.mem_append_right _ (List.mem_append_right _ (List.mem_append_right _ (List.mem_append_right _ (List.mem_append_right _ (List.mem_append_right _ (List.mem_append_right _ (List.mem_append_right _ (List.mem_append_right _ (h))))))))))))))))))))))))))))))))))))))))))))))))))))))
theorem w_0 : Cond.classLink RL 7 RX7 ∈ wsL_law := wc_1 _ (List.mem_of_getElem? (i := 0) rfl)
theorem w_1 : Cond.instantiable RX7 11 ∈ wsL_law := wc_1 _ (List.mem_of_getElem? (i := 1) rfl)
theorem w_2 : Cond.initialized RX7 ∈ wsL_law := wc_1 _ (List.mem_of_getElem? (i := 2) rfl)
theorem w_3 : Cond.classLink RL 10 RX8 ∈ wsL_law := wc_1 _ (List.mem_of_getElem? (i := 3) rfl)
theorem w_4 : Cond.instantiable RX8 27 ∈ wsL_law := wc_1 _ (List.mem_of_getElem? (i := 4) rfl)
theorem w_5 : Cond.initialized RX8 ∈ wsL_law := wc_1 _ (List.mem_of_getElem? (i := 5) rfl)
theorem w_6 : Cond.constantLong RL 129 (4294967295) ∈ wsL_law := wc_1 _ (List.mem_of_getElem? (i := 6) rfl)
theorem w_7 : Cond.methodLink RL 9 yX7_init ∈ wsL_law := wc_1 _ (List.mem_of_getElem? (i := 7) rfl)
theorem w_8 : Cond.instanceMethod yX7_init ∈ wsL_law := wc_1 _ (List.mem_of_getElem? (i := 8) rfl)
theorem w_9 : Cond.code yX7_init cX7_init 2 none ∈ wsL_law := wc_1 _ (List.mem_of_getElem? (i := 9) rfl)
theorem w_10 : Cond.methodLink RX7 3 objectInit ∈ wsL_law := wc_1 _ (List.mem_of_getElem? (i := 10) rfl)
theorem w_11 : Cond.instanceMethod objectInit ∈ wsL_law := wc_1 _ (List.mem_of_getElem? (i := 11) rfl)
theorem w_12 : Cond.code objectInit ⟨#[0xb1]⟩ 1 none ∈ wsL_law := wc_1 _ (List.mem_of_getElem? (i := 12) rfl)
theorem w_13 : Cond.classLink RX7 9 RX6 ∈ wsL_law := wc_1 _ (List.mem_of_getElem? (i := 13) rfl)
theorem w_14 : Cond.instantiable RX6 9 ∈ wsL_law := wc_1 _ (List.mem_of_getElem? (i := 14) rfl)
theorem w_15 : Cond.initialized RX6 ∈ wsL_law := wc_1 _ (List.mem_of_getElem? (i := 15) rfl)
theorem w_16 : Cond.fieldLink RX7 12 "ReadingStages" "now" "LReadingStages$State;" ∈ wsL_law := wc_1 _ (List.mem_of_getElem? (i := 16) rfl)
theorem w_17 : Cond.fieldLink RX7 16 "ReadingStages" "before" "LReadingStages$State;" ∈ wsL_law := wc_1 _ (List.mem_of_getElem? (i := 17) rfl)
theorem w_18 : Cond.classLink RX7 19 RX2 ∈ wsL_law := wc_1 _ (List.mem_of_getElem? (i := 18) rfl)
theorem w_19 : Cond.instantiable RX2 2 ∈ wsL_law := wc_1 _ (List.mem_of_getElem? (i := 19) rfl)
theorem w_20 : Cond.initialized RX2 ∈ wsL_law := wc_1 _ (List.mem_of_getElem? (i := 20) rfl)
theorem w_21 : Cond.fieldLink RX7 22 "ReadingStages" "past" "LReadingStages$Past;" ∈ wsL_law := wc_1 _ (List.mem_of_getElem? (i := 21) rfl)
theorem w_22 : Cond.fieldLink RX7 26 "ReadingStages" "imageNow" "LReadingStages$State;" ∈ wsL_law := wc_1 _ (List.mem_of_getElem? (i := 22) rfl)
theorem w_23 : Cond.fieldLink RX7 29 "ReadingStages" "imagePast" "LReadingStages$Past;" ∈ wsL_law := wc_1 _ (List.mem_of_getElem? (i := 23) rfl)
theorem w_24 : Cond.classLink RX7 32 RX1 ∈ wsL_law := wc_2 _ (List.mem_of_getElem? (i := 0) rfl)
theorem w_25 : Cond.instantiable RX1 3 ∈ wsL_law := wc_2 _ (List.mem_of_getElem? (i := 1) rfl)
theorem w_26 : Cond.initialized RX1 ∈ wsL_law := wc_2 _ (List.mem_of_getElem? (i := 2) rfl)
theorem w_27 : Cond.fieldLink RX7 35 "ReadingStages" "parser" "LReadingStages$Parser;" ∈ wsL_law := wc_2 _ (List.mem_of_getElem? (i := 3) rfl)
theorem w_28 : Cond.classLink RX7 39 RX0 ∈ wsL_law := wc_2 _ (List.mem_of_getElem? (i := 4) rfl)
theorem w_29 : Cond.instantiable RX0 2 ∈ wsL_law := wc_2 _ (List.mem_of_getElem? (i := 5) rfl)
theorem w_30 : Cond.initialized RX0 ∈ wsL_law := wc_2 _ (List.mem_of_getElem? (i := 6) rfl)
theorem w_31 : Cond.fieldLink RX7 44 "ReadingStages" "note" "LReadingStages$Letters;" ∈ wsL_law := wc_2 _ (List.mem_of_getElem? (i := 7) rfl)
theorem w_32 : Cond.classLink RX7 48 RX3 ∈ wsL_law := wc_2 _ (List.mem_of_getElem? (i := 8) rfl)
theorem w_33 : Cond.instantiable RX3 9 ∈ wsL_law := wc_2 _ (List.mem_of_getElem? (i := 9) rfl)
theorem w_34 : Cond.initialized RX3 ∈ wsL_law := wc_2 _ (List.mem_of_getElem? (i := 10) rfl)
theorem w_35 : Cond.fieldLink RX7 51 "ReadingStages" "reading" "LReadingStages$Reading;" ∈ wsL_law := wc_2 _ (List.mem_of_getElem? (i := 11) rfl)
theorem w_36 : Cond.classLink RX7 55 RX4 ∈ wsL_law := wc_2 _ (List.mem_of_getElem? (i := 12) rfl)
theorem w_37 : Cond.instantiable RX4 13 ∈ wsL_law := wc_2 _ (List.mem_of_getElem? (i := 13) rfl)
theorem w_38 : Cond.initialized RX4 ∈ wsL_law := wc_2 _ (List.mem_of_getElem? (i := 14) rfl)
theorem w_39 : Cond.fieldLink RX7 58 "ReadingStages" "search" "LReadingStages$Search;" ∈ wsL_law := wc_2 _ (List.mem_of_getElem? (i := 15) rfl)
theorem w_40 : Cond.classLink RX7 62 RX5 ∈ wsL_law := wc_2 _ (List.mem_of_getElem? (i := 16) rfl)
theorem w_41 : Cond.fieldLink RX7 64 "ReadingStages" "sheets" "[LReadingStages$Sheet;" ∈ wsL_law := wc_2 _ (List.mem_of_getElem? (i := 17) rfl)
theorem w_42 : Cond.instantiable RX5 3 ∈ wsL_law := wc_2 _ (List.mem_of_getElem? (i := 18) rfl)
theorem w_43 : Cond.initialized RX5 ∈ wsL_law := wc_2 _ (List.mem_of_getElem? (i := 19) rfl)
theorem w_44 : Cond.instanceMethod yX6_init ∈ wsL_law := wc_2 _ (List.mem_of_getElem? (i := 20) rfl)
theorem w_45 : Cond.code yX6_init cX6_init 1 none ∈ wsL_law := wc_2 _ (List.mem_of_getElem? (i := 21) rfl)
theorem w_46 : Cond.methodLink RX6 3 objectInit ∈ wsL_law := wc_2 _ (List.mem_of_getElem? (i := 22) rfl)
theorem w_47 : Cond.arrayClass .int ∈ wsL_law := wc_2 _ (List.mem_of_getElem? (i := 23) rfl)
theorem w_48 : Cond.fieldLink RX6 9 "ReadingStages$State" "sets" "[I" ∈ wsL_law := wc_3 _ (List.mem_of_getElem? (i := 0) rfl)
theorem w_49 : Cond.fieldLink RX6 15 "ReadingStages$State" "followers" "[I" ∈ wsL_law := wc_3 _ (List.mem_of_getElem? (i := 1) rfl)
theorem w_50 : Cond.fieldLink RX6 18 "ReadingStages$State" "order" "[I" ∈ wsL_law := wc_3 _ (List.mem_of_getElem? (i := 2) rfl)
theorem w_51 : Cond.fieldLink RX6 21 "ReadingStages$State" "span" "I" ∈ wsL_law := wc_3 _ (List.mem_of_getElem? (i := 3) rfl)
theorem w_52 : Cond.fieldLink RX6 25 "ReadingStages$State" "bound" "I" ∈ wsL_law := wc_3 _ (List.mem_of_getElem? (i := 4) rfl)
theorem w_53 : Cond.fieldLink RX6 28 "ReadingStages$State" "rule" "I" ∈ wsL_law := wc_3 _ (List.mem_of_getElem? (i := 5) rfl)
theorem w_54 : Cond.fieldLink RX6 31 "ReadingStages$State" "draw" "I" ∈ wsL_law := wc_3 _ (List.mem_of_getElem? (i := 6) rfl)
theorem w_55 : Cond.methodLink RX7 21 yX2_init ∈ wsL_law := wc_3 _ (List.mem_of_getElem? (i := 7) rfl)
theorem w_56 : Cond.instanceMethod yX2_init ∈ wsL_law := wc_3 _ (List.mem_of_getElem? (i := 8) rfl)
theorem w_57 : Cond.code yX2_init cX2_init 2 none ∈ wsL_law := wc_3 _ (List.mem_of_getElem? (i := 9) rfl)
theorem w_58 : Cond.methodLink RX2 3 objectInit ∈ wsL_law := wc_3 _ (List.mem_of_getElem? (i := 10) rfl)
theorem w_59 : Cond.classLink RX2 9 RX6 ∈ wsL_law := wc_3 _ (List.mem_of_getElem? (i := 11) rfl)
theorem w_60 : Cond.fieldLink RX2 11 "ReadingStages$Past" "states" "[LReadingStages$State;" ∈ wsL_law := wc_3 _ (List.mem_of_getElem? (i := 12) rfl)
theorem w_61 : Cond.instanceMethod yX1_init ∈ wsL_law := wc_3 _ (List.mem_of_getElem? (i := 13) rfl)
theorem w_62 : Cond.code yX1_init cX1_init 1 none ∈ wsL_law := wc_3 _ (List.mem_of_getElem? (i := 14) rfl)
theorem w_63 : Cond.methodLink RX1 3 objectInit ∈ wsL_law := wc_3 _ (List.mem_of_getElem? (i := 15) rfl)
theorem w_64 : Cond.classLink RX1 9 RX0 ∈ wsL_law := wc_3 _ (List.mem_of_getElem? (i := 16) rfl)
theorem w_65 : Cond.fieldLink RX1 14 "ReadingStages$Parser" "tape" "LReadingStages$Letters;" ∈ wsL_law := wc_3 _ (List.mem_of_getElem? (i := 17) rfl)
theorem w_66 : Cond.classLink RX1 20 RX6 ∈ wsL_law := wc_3 _ (List.mem_of_getElem? (i := 18) rfl)
theorem w_67 : Cond.fieldLink RX1 23 "ReadingStages$Parser" "draft" "LReadingStages$State;" ∈ wsL_law := wc_3 _ (List.mem_of_getElem? (i := 19) rfl)
theorem w_68 : Cond.methodLink RX1 11 yX0_init ∈ wsL_law := wc_3 _ (List.mem_of_getElem? (i := 20) rfl)
theorem w_69 : Cond.instanceMethod yX0_init ∈ wsL_law := wc_3 _ (List.mem_of_getElem? (i := 21) rfl)
theorem w_70 : Cond.code yX0_init cX0_init 2 none ∈ wsL_law := wc_3 _ (List.mem_of_getElem? (i := 22) rfl)
theorem w_71 : Cond.methodLink RX0 1 objectInit ∈ wsL_law := wc_3 _ (List.mem_of_getElem? (i := 23) rfl)
theorem w_72 : Cond.arrayClass .char ∈ wsL_law := wc_4 _ (List.mem_of_getElem? (i := 0) rfl)
theorem w_73 : Cond.fieldLink RX0 7 "ReadingStages$Letters" "row" "[C" ∈ wsL_law := wc_4 _ (List.mem_of_getElem? (i := 1) rfl)
theorem w_74 : Cond.methodLink RX7 41 yX0_init ∈ wsL_law := wc_4 _ (List.mem_of_getElem? (i := 2) rfl)
theorem w_75 : Cond.instanceMethod yX3_init ∈ wsL_law := wc_4 _ (List.mem_of_getElem? (i := 3) rfl)
theorem w_76 : Cond.code yX3_init cX3_init 1 none ∈ wsL_law := wc_4 _ (List.mem_of_getElem? (i := 4) rfl)
theorem w_77 : Cond.methodLink RX3 3 objectInit ∈ wsL_law := wc_4 _ (List.mem_of_getElem? (i := 5) rfl)
theorem w_78 : Cond.fieldLink RX3 9 "ReadingStages$Reading" "lasts" "[I" ∈ wsL_law := wc_4 _ (List.mem_of_getElem? (i := 6) rfl)
theorem w_79 : Cond.fieldLink RX3 15 "ReadingStages$Reading" "ones" "[I" ∈ wsL_law := wc_4 _ (List.mem_of_getElem? (i := 7) rfl)
theorem w_80 : Cond.fieldLink RX3 18 "ReadingStages$Reading" "twos" "[I" ∈ wsL_law := wc_4 _ (List.mem_of_getElem? (i := 8) rfl)
theorem w_81 : Cond.fieldLink RX3 21 "ReadingStages$Reading" "fours" "[I" ∈ wsL_law := wc_4 _ (List.mem_of_getElem? (i := 9) rfl)
theorem w_82 : Cond.classLink RX3 24 "[[I" ∈ wsL_law := wc_4 _ (List.mem_of_getElem? (i := 10) rfl)
theorem w_83 : Cond.fieldLink RX3 26 "ReadingStages$Reading" "due" "[[I" ∈ wsL_law := wc_4 _ (List.mem_of_getElem? (i := 11) rfl)
theorem w_84 : Cond.fieldLink RX3 29 "ReadingStages$Reading" "fresh" "[I" ∈ wsL_law := wc_4 _ (List.mem_of_getElem? (i := 12) rfl)
theorem w_85 : Cond.fieldLink RX3 32 "ReadingStages$Reading" "again" "[I" ∈ wsL_law := wc_4 _ (List.mem_of_getElem? (i := 13) rfl)
theorem w_86 : Cond.fieldLink RX3 35 "ReadingStages$Reading" "lost" "[I" ∈ wsL_law := wc_4 _ (List.mem_of_getElem? (i := 14) rfl)
theorem w_87 : Cond.instanceMethod yX4_init ∈ wsL_law := wc_4 _ (List.mem_of_getElem? (i := 15) rfl)
theorem w_88 : Cond.code yX4_init cX4_init 1 none ∈ wsL_law := wc_4 _ (List.mem_of_getElem? (i := 16) rfl)
theorem w_89 : Cond.methodLink RX4 3 objectInit ∈ wsL_law := wc_4 _ (List.mem_of_getElem? (i := 17) rfl)
theorem w_90 : Cond.classLink RX4 9 RX3 ∈ wsL_law := wc_4 _ (List.mem_of_getElem? (i := 18) rfl)
theorem w_91 : Cond.fieldLink RX4 12 "ReadingStages$Search" "reading" "LReadingStages$Reading;" ∈ wsL_law := wc_4 _ (List.mem_of_getElem? (i := 19) rfl)
theorem w_92 : Cond.fieldLink RX4 18 "ReadingStages$Search" "sets" "[I" ∈ wsL_law := wc_4 _ (List.mem_of_getElem? (i := 20) rfl)
theorem w_93 : Cond.fieldLink RX4 22 "ReadingStages$Search" "leaders" "[I" ∈ wsL_law := wc_4 _ (List.mem_of_getElem? (i := 21) rfl)
theorem w_94 : Cond.fieldLink RX4 25 "ReadingStages$Search" "fewestFresh" "[I" ∈ wsL_law := wc_4 _ (List.mem_of_getElem? (i := 22) rfl)
theorem w_95 : Cond.fieldLink RX4 28 "ReadingStages$Search" "mostFresh" "[I" ∈ wsL_law := wc_4 _ (List.mem_of_getElem? (i := 23) rfl)
theorem w_96 : Cond.fieldLink RX4 31 "ReadingStages$Search" "row" "[I" ∈ wsL_law := wc_5 _ (List.mem_of_getElem? (i := 0) rfl)
theorem w_97 : Cond.fieldLink RX4 34 "ReadingStages$Search" "found" "[I" ∈ wsL_law := wc_5 _ (List.mem_of_getElem? (i := 1) rfl)
theorem w_98 : Cond.instanceMethod yX5_init ∈ wsL_law := wc_5 _ (List.mem_of_getElem? (i := 2) rfl)
theorem w_99 : Cond.code yX5_init cX5_init 1 none ∈ wsL_law := wc_5 _ (List.mem_of_getElem? (i := 3) rfl)
theorem w_100 : Cond.methodLink RX5 3 objectInit ∈ wsL_law := wc_5 _ (List.mem_of_getElem? (i := 4) rfl)
theorem w_101 : Cond.arrayClass .long ∈ wsL_law := wc_5 _ (List.mem_of_getElem? (i := 5) rfl)
theorem w_102 : Cond.fieldLink RX5 9 "ReadingStages$Sheet" "items" "[J" ∈ wsL_law := wc_5 _ (List.mem_of_getElem? (i := 6) rfl)
theorem w_103 : Cond.fieldLink RX5 15 "ReadingStages$Sheet" "lane" "I" ∈ wsL_law := wc_5 _ (List.mem_of_getElem? (i := 7) rfl)
theorem w_104 : Cond.methodLink RL 12 yX8_init ∈ wsL_law := wc_5 _ (List.mem_of_getElem? (i := 8) rfl)
theorem w_105 : Cond.instanceMethod yX8_init ∈ wsL_law := wc_5 _ (List.mem_of_getElem? (i := 9) rfl)
theorem w_106 : Cond.code yX8_init cX8_init 2 none ∈ wsL_law := wc_5 _ (List.mem_of_getElem? (i := 10) rfl)
theorem w_107 : Cond.methodLink RX8 1 objectInit ∈ wsL_law := wc_5 _ (List.mem_of_getElem? (i := 11) rfl)
theorem w_108 : Cond.fieldLink RX8 7 "ReadingStagesModel" "now" "[I" ∈ wsL_law := wc_5 _ (List.mem_of_getElem? (i := 12) rfl)
theorem w_109 : Cond.fieldLink RX8 13 "ReadingStagesModel" "past" "[I" ∈ wsL_law := wc_5 _ (List.mem_of_getElem? (i := 13) rfl)
theorem w_110 : Cond.fieldLink RX8 16 "ReadingStagesModel" "image" "[I" ∈ wsL_law := wc_5 _ (List.mem_of_getElem? (i := 14) rfl)
theorem w_111 : Cond.fieldLink RX8 19 "ReadingStagesModel" "imagePast" "[I" ∈ wsL_law := wc_5 _ (List.mem_of_getElem? (i := 15) rfl)
theorem w_112 : Cond.fieldLink RX8 22 "ReadingStagesModel" "imageActs" "I" ∈ wsL_law := wc_5 _ (List.mem_of_getElem? (i := 16) rfl)
theorem w_113 : Cond.fieldLink RX8 26 "ReadingStagesModel" "tape" "[I" ∈ wsL_law := wc_5 _ (List.mem_of_getElem? (i := 17) rfl)
theorem w_114 : Cond.fieldLink RX8 29 "ReadingStagesModel" "lanes" "[I" ∈ wsL_law := wc_5 _ (List.mem_of_getElem? (i := 18) rfl)
theorem w_115 : Cond.fieldLink RX8 32 "ReadingStagesModel" "sizes" "[I" ∈ wsL_law := wc_5 _ (List.mem_of_getElem? (i := 19) rfl)
theorem w_116 : Cond.fieldLink RX8 35 "ReadingStagesModel" "items" "[J" ∈ wsL_law := wc_5 _ (List.mem_of_getElem? (i := 20) rfl)
theorem w_117 : Cond.fieldLink RX8 39 "ReadingStagesModel" "moved" "[J" ∈ wsL_law := wc_5 _ (List.mem_of_getElem? (i := 21) rfl)
theorem w_118 : Cond.fieldLink RX8 42 "ReadingStagesModel" "order" "[I" ∈ wsL_law := wc_5 _ (List.mem_of_getElem? (i := 22) rfl)
theorem w_119 : Cond.fieldLink RX8 45 "ReadingStagesModel" "strength" "[I" ∈ wsL_law := wc_5 _ (List.mem_of_getElem? (i := 23) rfl)
theorem w_120 : Cond.fieldLink RX8 48 "ReadingStagesModel" "last" "[I" ∈ wsL_law := wc_6 _ (List.mem_of_getElem? (i := 0) rfl)
theorem w_121 : Cond.fieldLink RX8 51 "ReadingStagesModel" "news" "[I" ∈ wsL_law := wc_6 _ (List.mem_of_getElem? (i := 1) rfl)
theorem w_122 : Cond.fieldLink RX8 54 "ReadingStagesModel" "agains" "[I" ∈ wsL_law := wc_6 _ (List.mem_of_getElem? (i := 2) rfl)
theorem w_123 : Cond.fieldLink RX8 57 "ReadingStagesModel" "losts" "[I" ∈ wsL_law := wc_6 _ (List.mem_of_getElem? (i := 3) rfl)
theorem w_124 : Cond.fieldLink RX8 60 "ReadingStagesModel" "lives" "[I" ∈ wsL_law := wc_6 _ (List.mem_of_getElem? (i := 4) rfl)
theorem w_125 : Cond.fieldLink RX8 63 "ReadingStagesModel" "note" "[I" ∈ wsL_law := wc_6 _ (List.mem_of_getElem? (i := 5) rfl)
theorem w_126 : Cond.fieldLink RX8 66 "ReadingStagesModel" "first" "[I" ∈ wsL_law := wc_6 _ (List.mem_of_getElem? (i := 6) rfl)
theorem w_127 : Cond.methodLink RL 13 yX7_book ∈ wsL_law := wc_6 _ (List.mem_of_getElem? (i := 7) rfl)
theorem w_128 : Cond.instanceMethod yX7_book ∈ wsL_law := wc_6 _ (List.mem_of_getElem? (i := 8) rfl)
theorem w_129 : Cond.selects RX7 yX7_book yX7_book ∈ wsL_law := wc_6 _ (List.mem_of_getElem? (i := 9) rfl)
theorem w_130 : Cond.code yX7_book cX7_book 2 (some .int) ∈ wsL_law := wc_6 _ (List.mem_of_getElem? (i := 10) rfl)
theorem w_131 : Cond.methodLink RX7 69 yX6_takeFrom ∈ wsL_law := wc_6 _ (List.mem_of_getElem? (i := 11) rfl)
theorem w_132 : Cond.instanceMethod yX6_takeFrom ∈ wsL_law := wc_6 _ (List.mem_of_getElem? (i := 12) rfl)
theorem w_133 : Cond.selects RX6 yX6_takeFrom yX6_takeFrom ∈ wsL_law := wc_6 _ (List.mem_of_getElem? (i := 13) rfl)
theorem w_134 : Cond.code yX6_takeFrom cX6_takeFrom 2 none ∈ wsL_law := wc_6 _ (List.mem_of_getElem? (i := 14) rfl)
theorem w_135 : Cond.methodLink RX6 34 arraycopyName ∈ wsL_law := wc_6 _ (List.mem_of_getElem? (i := 15) rfl)
theorem w_136 : Cond.native arraycopyName ∈ wsL_law := wc_6 _ (List.mem_of_getElem? (i := 16) rfl)
theorem w_137 : Cond.static arraycopyName ∈ wsL_law := wc_6 _ (List.mem_of_getElem? (i := 17) rfl)
theorem w_138 : Cond.initialized "java/lang/System" ∈ wsL_law := wc_6 _ (List.mem_of_getElem? (i := 18) rfl)
theorem w_139 : Cond.fieldLink RX6 40 "ReadingStages$State" "n" "I" ∈ wsL_law := wc_6 _ (List.mem_of_getElem? (i := 19) rfl)
theorem w_140 : Cond.fieldLink RX6 43 "ReadingStages$State" "prior" "I" ∈ wsL_law := wc_6 _ (List.mem_of_getElem? (i := 20) rfl)
theorem w_141 : Cond.methodLink RX7 73 yX6_addBook ∈ wsL_law := wc_6 _ (List.mem_of_getElem? (i := 21) rfl)
theorem w_142 : Cond.instanceMethod yX6_addBook ∈ wsL_law := wc_6 _ (List.mem_of_getElem? (i := 22) rfl)
theorem w_143 : Cond.selects RX6 yX6_addBook yX6_addBook ∈ wsL_law := wc_6 _ (List.mem_of_getElem? (i := 23) rfl)
theorem w_144 : Cond.code yX6_addBook cX6_addBook 2 (some .int) ∈ wsL_law := wc_7 _ (List.mem_of_getElem? (i := 0) rfl)
theorem w_145 : Cond.methodLink RX6 49 yX6_isSetOfBook ∈ wsL_law := wc_7 _ (List.mem_of_getElem? (i := 1) rfl)
theorem w_146 : Cond.static yX6_isSetOfBook ∈ wsL_law := wc_7 _ (List.mem_of_getElem? (i := 2) rfl)
theorem w_147 : Cond.code yX6_isSetOfBook cX6_isSetOfBook 1 (some .boolean) ∈ wsL_law := wc_7 _ (List.mem_of_getElem? (i := 3) rfl)
theorem w_148 : Cond.constant RX6 48 (1048575) ∈ wsL_law := wc_7 _ (List.mem_of_getElem? (i := 4) rfl)
theorem w_149 : Cond.methodLink RX7 77 yX7_remembered ∈ wsL_law := wc_7 _ (List.mem_of_getElem? (i := 5) rfl)
theorem w_150 : Cond.instanceMethod yX7_remembered ∈ wsL_law := wc_7 _ (List.mem_of_getElem? (i := 6) rfl)
theorem w_151 : Cond.selects RX7 yX7_remembered yX7_remembered ∈ wsL_law := wc_7 _ (List.mem_of_getElem? (i := 7) rfl)
theorem w_152 : Cond.code yX7_remembered cX7_remembered 2 (some .int) ∈ wsL_law := wc_7 _ (List.mem_of_getElem? (i := 8) rfl)
theorem w_153 : Cond.methodLink RX7 239 yX2_keep ∈ wsL_law := wc_7 _ (List.mem_of_getElem? (i := 9) rfl)
theorem w_154 : Cond.instanceMethod yX2_keep ∈ wsL_law := wc_7 _ (List.mem_of_getElem? (i := 10) rfl)
theorem w_155 : Cond.selects RX2 yX2_keep yX2_keep ∈ wsL_law := wc_7 _ (List.mem_of_getElem? (i := 11) rfl)
theorem w_156 : Cond.code yX2_keep cX2_keep 2 none ∈ wsL_law := wc_7 _ (List.mem_of_getElem? (i := 12) rfl)
theorem w_157 : Cond.fieldLink RX2 18 "ReadingStages$Past" "size" "I" ∈ wsL_law := wc_7 _ (List.mem_of_getElem? (i := 13) rfl)
theorem w_158 : Cond.methodLink RX2 22 yX2_loseOldest ∈ wsL_law := wc_7 _ (List.mem_of_getElem? (i := 14) rfl)
theorem w_159 : Cond.instanceMethod yX2_loseOldest ∈ wsL_law := wc_7 _ (List.mem_of_getElem? (i := 15) rfl)
theorem w_160 : Cond.selects RX2 yX2_loseOldest yX2_loseOldest ∈ wsL_law := wc_7 _ (List.mem_of_getElem? (i := 16) rfl)
theorem w_161 : Cond.code yX2_loseOldest cX2_loseOldest 3 none ∈ wsL_law := wc_7 _ (List.mem_of_getElem? (i := 17) rfl)
theorem w_162 : Cond.methodLink RX2 25 yX6_takeFrom ∈ wsL_law := wc_7 _ (List.mem_of_getElem? (i := 18) rfl)
theorem w_163 : Cond.methodLink RL 17 yX8_book ∈ wsL_law := wc_7 _ (List.mem_of_getElem? (i := 19) rfl)
theorem w_164 : Cond.instanceMethod yX8_book ∈ wsL_law := wc_7 _ (List.mem_of_getElem? (i := 20) rfl)
theorem w_165 : Cond.selects RX8 yX8_book yX8_book ∈ wsL_law := wc_7 _ (List.mem_of_getElem? (i := 21) rfl)
theorem w_166 : Cond.code yX8_book cX8_book 2 (some .int) ∈ wsL_law := wc_7 _ (List.mem_of_getElem? (i := 22) rfl)
theorem w_167 : Cond.methodLink RX8 188 yX8_holds ∈ wsL_law := wc_7 _ (List.mem_of_getElem? (i := 23) rfl)
theorem w_168 : Cond.instanceMethod yX8_holds ∈ wsL_law := wc_8 _ (List.mem_of_getElem? (i := 0) rfl)
theorem w_169 : Cond.selects RX8 yX8_holds yX8_holds ∈ wsL_law := wc_8 _ (List.mem_of_getElem? (i := 1) rfl)
theorem w_170 : Cond.code yX8_holds cX8_holds 2 none ∈ wsL_law := wc_8 _ (List.mem_of_getElem? (i := 2) rfl)
theorem w_171 : Cond.methodLink RX8 191 yX8_adds ∈ wsL_law := wc_8 _ (List.mem_of_getElem? (i := 3) rfl)
theorem w_172 : Cond.instanceMethod yX8_adds ∈ wsL_law := wc_8 _ (List.mem_of_getElem? (i := 4) rfl)
theorem w_173 : Cond.selects RX8 yX8_adds yX8_adds ∈ wsL_law := wc_8 _ (List.mem_of_getElem? (i := 5) rfl)
theorem w_174 : Cond.code yX8_adds cX8_adds 3 (some .int) ∈ wsL_law := wc_8 _ (List.mem_of_getElem? (i := 6) rfl)
theorem w_175 : Cond.methodLink RX8 172 yX8_isSet ∈ wsL_law := wc_8 _ (List.mem_of_getElem? (i := 7) rfl)
theorem w_176 : Cond.static yX8_isSet ∈ wsL_law := wc_8 _ (List.mem_of_getElem? (i := 8) rfl)
theorem w_177 : Cond.code yX8_isSet cX8_isSet 1 (some .boolean) ∈ wsL_law := wc_8 _ (List.mem_of_getElem? (i := 9) rfl)
theorem w_178 : Cond.constantLong RX8 69 (1048575) ∈ wsL_law := wc_8 _ (List.mem_of_getElem? (i := 10) rfl)
theorem w_179 : Cond.methodLink RX8 71 yX8_in ∈ wsL_law := wc_8 _ (List.mem_of_getElem? (i := 11) rfl)
theorem w_180 : Cond.static yX8_in ∈ wsL_law := wc_8 _ (List.mem_of_getElem? (i := 12) rfl)
theorem w_181 : Cond.code yX8_in cX8_in 6 (some .boolean) ∈ wsL_law := wc_8 _ (List.mem_of_getElem? (i := 13) rfl)
theorem w_182 : Cond.methodLink RX8 194 yX8_acted ∈ wsL_law := wc_8 _ (List.mem_of_getElem? (i := 14) rfl)
theorem w_183 : Cond.instanceMethod yX8_acted ∈ wsL_law := wc_8 _ (List.mem_of_getElem? (i := 15) rfl)
theorem w_184 : Cond.selects RX8 yX8_acted yX8_acted ∈ wsL_law := wc_8 _ (List.mem_of_getElem? (i := 16) rfl)
theorem w_185 : Cond.code yX8_acted cX8_acted 2 (some .int) ∈ wsL_law := wc_8 _ (List.mem_of_getElem? (i := 17) rfl)
theorem w_186 : Cond.methodLink RX8 169 yX8_notes ∈ wsL_law := wc_8 _ (List.mem_of_getElem? (i := 18) rfl)
theorem w_187 : Cond.instanceMethod yX8_notes ∈ wsL_law := wc_8 _ (List.mem_of_getElem? (i := 19) rfl)
theorem w_188 : Cond.selects RX8 yX8_notes yX8_notes ∈ wsL_law := wc_8 _ (List.mem_of_getElem? (i := 20) rfl)
theorem w_189 : Cond.code yX8_notes cX8_notes 2 none ∈ wsL_law := wc_8 _ (List.mem_of_getElem? (i := 21) rfl)
theorem w_190 : Cond.fieldLink RX8 128 "ReadingStagesModel" "acts" "I" ∈ wsL_law := wc_8 _ (List.mem_of_getElem? (i := 22) rfl)
theorem w_191 : Cond.methodLink RL 18 yX7_words ∈ wsL_law := wc_8 _ (List.mem_of_getElem? (i := 23) rfl)
theorem w_192 : Cond.instanceMethod yX7_words ∈ wsL_law := wc_9 _ (List.mem_of_getElem? (i := 0) rfl)
theorem w_193 : Cond.selects RX7 yX7_words yX7_words ∈ wsL_law := wc_9 _ (List.mem_of_getElem? (i := 1) rfl)
theorem w_194 : Cond.code yX7_words cX7_words 3 (some .int) ∈ wsL_law := wc_9 _ (List.mem_of_getElem? (i := 2) rfl)
theorem w_195 : Cond.methodLink RX7 80 yX6_changeWords ∈ wsL_law := wc_9 _ (List.mem_of_getElem? (i := 3) rfl)
theorem w_196 : Cond.instanceMethod yX6_changeWords ∈ wsL_law := wc_9 _ (List.mem_of_getElem? (i := 4) rfl)
theorem w_197 : Cond.selects RX6 yX6_changeWords yX6_changeWords ∈ wsL_law := wc_9 _ (List.mem_of_getElem? (i := 5) rfl)
theorem w_198 : Cond.code yX6_changeWords cX6_changeWords 4 (some .int) ∈ wsL_law := wc_9 _ (List.mem_of_getElem? (i := 6) rfl)
theorem w_199 : Cond.methodLink RX6 53 yX6_isBook ∈ wsL_law := wc_9 _ (List.mem_of_getElem? (i := 7) rfl)
theorem w_200 : Cond.instanceMethod yX6_isBook ∈ wsL_law := wc_9 _ (List.mem_of_getElem? (i := 8) rfl)
theorem w_201 : Cond.selects RX6 yX6_isBook yX6_isBook ∈ wsL_law := wc_9 _ (List.mem_of_getElem? (i := 9) rfl)
theorem w_202 : Cond.code yX6_isBook cX6_isBook 2 (some .boolean) ∈ wsL_law := wc_9 _ (List.mem_of_getElem? (i := 10) rfl)
theorem w_203 : Cond.methodLink RL 22 yX8_words ∈ wsL_law := wc_9 _ (List.mem_of_getElem? (i := 11) rfl)
theorem w_204 : Cond.instanceMethod yX8_words ∈ wsL_law := wc_9 _ (List.mem_of_getElem? (i := 12) rfl)
theorem w_205 : Cond.selects RX8 yX8_words yX8_words ∈ wsL_law := wc_9 _ (List.mem_of_getElem? (i := 13) rfl)
theorem w_206 : Cond.code yX8_words cX8_words 3 (some .int) ∈ wsL_law := wc_9 _ (List.mem_of_getElem? (i := 14) rfl)
theorem w_207 : Cond.methodLink RX8 197 yX8_changes ∈ wsL_law := wc_9 _ (List.mem_of_getElem? (i := 15) rfl)
theorem w_208 : Cond.instanceMethod yX8_changes ∈ wsL_law := wc_9 _ (List.mem_of_getElem? (i := 16) rfl)
theorem w_209 : Cond.selects RX8 yX8_changes yX8_changes ∈ wsL_law := wc_9 _ (List.mem_of_getElem? (i := 17) rfl)
theorem w_210 : Cond.code yX8_changes cX8_changes 4 (some .int) ∈ wsL_law := wc_9 _ (List.mem_of_getElem? (i := 18) rfl)
theorem w_211 : Cond.methodLink RX8 104 yX8_isBook ∈ wsL_law := wc_9 _ (List.mem_of_getElem? (i := 19) rfl)
theorem w_212 : Cond.instanceMethod yX8_isBook ∈ wsL_law := wc_9 _ (List.mem_of_getElem? (i := 20) rfl)
theorem w_213 : Cond.selects RX8 yX8_isBook yX8_isBook ∈ wsL_law := wc_9 _ (List.mem_of_getElem? (i := 21) rfl)
theorem w_214 : Cond.code yX8_isBook cX8_isBook 2 (some .boolean) ∈ wsL_law := wc_9 _ (List.mem_of_getElem? (i := 22) rfl)
theorem w_215 : Cond.methodLink RL 23 yX7_lose ∈ wsL_law := wc_9 _ (List.mem_of_getElem? (i := 23) rfl)
theorem w_216 : Cond.instanceMethod yX7_lose ∈ wsL_law := wc_10 _ (List.mem_of_getElem? (i := 0) rfl)
theorem w_217 : Cond.selects RX7 yX7_lose yX7_lose ∈ wsL_law := wc_10 _ (List.mem_of_getElem? (i := 1) rfl)
theorem w_218 : Cond.code yX7_lose cX7_lose 2 (some .int) ∈ wsL_law := wc_10 _ (List.mem_of_getElem? (i := 2) rfl)
theorem w_219 : Cond.methodLink RX7 84 yX6_removeBook ∈ wsL_law := wc_10 _ (List.mem_of_getElem? (i := 3) rfl)
theorem w_220 : Cond.instanceMethod yX6_removeBook ∈ wsL_law := wc_10 _ (List.mem_of_getElem? (i := 4) rfl)
theorem w_221 : Cond.selects RX6 yX6_removeBook yX6_removeBook ∈ wsL_law := wc_10 _ (List.mem_of_getElem? (i := 5) rfl)
theorem w_222 : Cond.code yX6_removeBook cX6_removeBook 3 (some .int) ∈ wsL_law := wc_10 _ (List.mem_of_getElem? (i := 6) rfl)
theorem w_223 : Cond.methodLink RX6 56 yX6_placeOf ∈ wsL_law := wc_10 _ (List.mem_of_getElem? (i := 7) rfl)
theorem w_224 : Cond.instanceMethod yX6_placeOf ∈ wsL_law := wc_10 _ (List.mem_of_getElem? (i := 8) rfl)
theorem w_225 : Cond.selects RX6 yX6_placeOf yX6_placeOf ∈ wsL_law := wc_10 _ (List.mem_of_getElem? (i := 9) rfl)
theorem w_226 : Cond.code yX6_placeOf cX6_placeOf 3 (some .int) ∈ wsL_law := wc_10 _ (List.mem_of_getElem? (i := 10) rfl)
theorem w_227 : Cond.methodLink RX6 60 yX6_closeGap ∈ wsL_law := wc_10 _ (List.mem_of_getElem? (i := 11) rfl)
theorem w_228 : Cond.instanceMethod yX6_closeGap ∈ wsL_law := wc_10 _ (List.mem_of_getElem? (i := 12) rfl)
theorem w_229 : Cond.selects RX6 yX6_closeGap yX6_closeGap ∈ wsL_law := wc_10 _ (List.mem_of_getElem? (i := 13) rfl)
theorem w_230 : Cond.code yX6_closeGap cX6_closeGap 4 none ∈ wsL_law := wc_10 _ (List.mem_of_getElem? (i := 14) rfl)
theorem w_231 : Cond.methodLink RX6 68 Lib.Math.max.name ∈ wsL_law := wc_10 _ (List.mem_of_getElem? (i := 15) rfl)
theorem w_232 : Cond.static Lib.Math.max.name ∈ wsL_law := wc_10 _ (List.mem_of_getElem? (i := 16) rfl)
theorem w_233 : Cond.initialized "java/lang/Math" ∈ wsL_law := wc_10 _ (List.mem_of_getElem? (i := 17) rfl)
theorem w_234 : Cond.code Lib.Math.max.name Lib.Math.max.code 2 (some .int) ∈ wsL_law := wc_10 _ (List.mem_of_getElem? (i := 18) rfl)
theorem w_235 : Cond.methodLink RX6 64 yX6_withoutBit ∈ wsL_law := wc_10 _ (List.mem_of_getElem? (i := 19) rfl)
theorem w_236 : Cond.static yX6_withoutBit ∈ wsL_law := wc_10 _ (List.mem_of_getElem? (i := 20) rfl)
theorem w_237 : Cond.code yX6_withoutBit cX6_withoutBit 4 (some .int) ∈ wsL_law := wc_10 _ (List.mem_of_getElem? (i := 21) rfl)
theorem w_238 : Cond.methodLink RL 26 yX8_lose ∈ wsL_law := wc_10 _ (List.mem_of_getElem? (i := 22) rfl)
theorem w_239 : Cond.instanceMethod yX8_lose ∈ wsL_law := wc_10 _ (List.mem_of_getElem? (i := 23) rfl)
theorem w_240 : Cond.selects RX8 yX8_lose yX8_lose ∈ wsL_law := wc_11 _ (List.mem_of_getElem? (i := 0) rfl)
theorem w_241 : Cond.code yX8_lose cX8_lose 2 (some .int) ∈ wsL_law := wc_11 _ (List.mem_of_getElem? (i := 1) rfl)
theorem w_242 : Cond.methodLink RX8 200 yX8_loses ∈ wsL_law := wc_11 _ (List.mem_of_getElem? (i := 2) rfl)
theorem w_243 : Cond.instanceMethod yX8_loses ∈ wsL_law := wc_11 _ (List.mem_of_getElem? (i := 3) rfl)
theorem w_244 : Cond.selects RX8 yX8_loses yX8_loses ∈ wsL_law := wc_11 _ (List.mem_of_getElem? (i := 4) rfl)
theorem w_245 : Cond.code yX8_loses cX8_loses 5 (some .int) ∈ wsL_law := wc_11 _ (List.mem_of_getElem? (i := 5) rfl)
theorem w_246 : Cond.methodLink RX8 111 yX8_placeOf ∈ wsL_law := wc_11 _ (List.mem_of_getElem? (i := 6) rfl)
theorem w_247 : Cond.instanceMethod yX8_placeOf ∈ wsL_law := wc_11 _ (List.mem_of_getElem? (i := 7) rfl)
theorem w_248 : Cond.selects RX8 yX8_placeOf yX8_placeOf ∈ wsL_law := wc_11 _ (List.mem_of_getElem? (i := 8) rfl)
theorem w_249 : Cond.code yX8_placeOf cX8_placeOf 3 (some .int) ∈ wsL_law := wc_11 _ (List.mem_of_getElem? (i := 9) rfl)
theorem w_250 : Cond.methodLink RX8 175 yX8_without ∈ wsL_law := wc_11 _ (List.mem_of_getElem? (i := 10) rfl)
theorem w_251 : Cond.static yX8_without ∈ wsL_law := wc_11 _ (List.mem_of_getElem? (i := 11) rfl)
theorem w_252 : Cond.code yX8_without cX8_without 3 (some .int) ∈ wsL_law := wc_11 _ (List.mem_of_getElem? (i := 12) rfl)
theorem w_253 : Cond.methodLink RL 27 yX7_ahead ∈ wsL_law := wc_11 _ (List.mem_of_getElem? (i := 13) rfl)
theorem w_254 : Cond.instanceMethod yX7_ahead ∈ wsL_law := wc_11 _ (List.mem_of_getElem? (i := 14) rfl)
theorem w_255 : Cond.selects RX7 yX7_ahead yX7_ahead ∈ wsL_law := wc_11 _ (List.mem_of_getElem? (i := 15) rfl)
theorem w_256 : Cond.code yX7_ahead cX7_ahead 3 (some .int) ∈ wsL_law := wc_11 _ (List.mem_of_getElem? (i := 16) rfl)
theorem w_257 : Cond.methodLink RX7 87 yX6_turnAhead ∈ wsL_law := wc_11 _ (List.mem_of_getElem? (i := 17) rfl)
theorem w_258 : Cond.instanceMethod yX6_turnAhead ∈ wsL_law := wc_11 _ (List.mem_of_getElem? (i := 18) rfl)
theorem w_259 : Cond.selects RX6 yX6_turnAhead yX6_turnAhead ∈ wsL_law := wc_11 _ (List.mem_of_getElem? (i := 19) rfl)
theorem w_260 : Cond.code yX6_turnAhead cX6_turnAhead 3 (some .int) ∈ wsL_law := wc_11 _ (List.mem_of_getElem? (i := 20) rfl)
theorem w_261 : Cond.static yX7_hasBit ∈ wsL_law := wc_11 _ (List.mem_of_getElem? (i := 21) rfl)
theorem w_262 : Cond.code yX7_hasBit cX7_hasBit 2 (some .boolean) ∈ wsL_law := wc_11 _ (List.mem_of_getElem? (i := 22) rfl)
theorem w_263 : Cond.methodLink RX6 77 yX6_allBehind ∈ wsL_law := wc_11 _ (List.mem_of_getElem? (i := 23) rfl)
theorem w_264 : Cond.instanceMethod yX6_allBehind ∈ wsL_law := wc_12 _ (List.mem_of_getElem? (i := 0) rfl)
theorem w_265 : Cond.selects RX6 yX6_allBehind yX6_allBehind ∈ wsL_law := wc_12 _ (List.mem_of_getElem? (i := 1) rfl)
theorem w_266 : Cond.code yX6_allBehind cX6_allBehind 5 (some .int) ∈ wsL_law := wc_12 _ (List.mem_of_getElem? (i := 2) rfl)
theorem w_267 : Cond.methodLink RL 30 yX8_ahead ∈ wsL_law := wc_12 _ (List.mem_of_getElem? (i := 3) rfl)
theorem w_268 : Cond.instanceMethod yX8_ahead ∈ wsL_law := wc_12 _ (List.mem_of_getElem? (i := 4) rfl)
theorem w_269 : Cond.selects RX8 yX8_ahead yX8_ahead ∈ wsL_law := wc_12 _ (List.mem_of_getElem? (i := 5) rfl)
theorem w_270 : Cond.code yX8_ahead cX8_ahead 3 (some .int) ∈ wsL_law := wc_12 _ (List.mem_of_getElem? (i := 6) rfl)
theorem w_271 : Cond.methodLink RX8 203 yX8_puts ∈ wsL_law := wc_12 _ (List.mem_of_getElem? (i := 7) rfl)
theorem w_272 : Cond.instanceMethod yX8_puts ∈ wsL_law := wc_12 _ (List.mem_of_getElem? (i := 8) rfl)
theorem w_273 : Cond.selects RX8 yX8_puts yX8_puts ∈ wsL_law := wc_12 _ (List.mem_of_getElem? (i := 9) rfl)
theorem w_274 : Cond.code yX8_puts cX8_puts 4 (some .int) ∈ wsL_law := wc_12 _ (List.mem_of_getElem? (i := 10) rfl)
theorem w_275 : Cond.methodLink RX8 75 yX8_has ∈ wsL_law := wc_12 _ (List.mem_of_getElem? (i := 11) rfl)
theorem w_276 : Cond.static yX8_has ∈ wsL_law := wc_12 _ (List.mem_of_getElem? (i := 12) rfl)
theorem w_277 : Cond.code yX8_has cX8_has 2 (some .boolean) ∈ wsL_law := wc_12 _ (List.mem_of_getElem? (i := 13) rfl)
theorem w_278 : Cond.methodLink RX8 179 yX8_comesTo ∈ wsL_law := wc_12 _ (List.mem_of_getElem? (i := 14) rfl)
theorem w_279 : Cond.instanceMethod yX8_comesTo ∈ wsL_law := wc_12 _ (List.mem_of_getElem? (i := 15) rfl)
theorem w_280 : Cond.selects RX8 yX8_comesTo yX8_comesTo ∈ wsL_law := wc_12 _ (List.mem_of_getElem? (i := 16) rfl)
theorem w_281 : Cond.code yX8_comesTo cX8_comesTo 6 (some .boolean) ∈ wsL_law := wc_12 _ (List.mem_of_getElem? (i := 17) rfl)
theorem w_282 : Cond.methodLink RL 31 yX7_prior ∈ wsL_law := wc_12 _ (List.mem_of_getElem? (i := 18) rfl)
theorem w_283 : Cond.instanceMethod yX7_prior ∈ wsL_law := wc_12 _ (List.mem_of_getElem? (i := 19) rfl)
theorem w_284 : Cond.selects RX7 yX7_prior yX7_prior ∈ wsL_law := wc_12 _ (List.mem_of_getElem? (i := 20) rfl)
theorem w_285 : Cond.code yX7_prior cX7_prior 2 (some .int) ∈ wsL_law := wc_12 _ (List.mem_of_getElem? (i := 21) rfl)
theorem w_286 : Cond.methodLink RX7 90 yX6_changePrior ∈ wsL_law := wc_12 _ (List.mem_of_getElem? (i := 22) rfl)
theorem w_287 : Cond.instanceMethod yX6_changePrior ∈ wsL_law := wc_12 _ (List.mem_of_getElem? (i := 23) rfl)
theorem w_288 : Cond.selects RX6 yX6_changePrior yX6_changePrior ∈ wsL_law := wc_13 _ (List.mem_of_getElem? (i := 0) rfl)
theorem w_289 : Cond.code yX6_changePrior cX6_changePrior 3 (some .int) ∈ wsL_law := wc_13 _ (List.mem_of_getElem? (i := 1) rfl)
theorem w_290 : Cond.methodLink RL 34 yX8_prior ∈ wsL_law := wc_13 _ (List.mem_of_getElem? (i := 2) rfl)
theorem w_291 : Cond.instanceMethod yX8_prior ∈ wsL_law := wc_13 _ (List.mem_of_getElem? (i := 3) rfl)
theorem w_292 : Cond.selects RX8 yX8_prior yX8_prior ∈ wsL_law := wc_13 _ (List.mem_of_getElem? (i := 4) rfl)
theorem w_293 : Cond.code yX8_prior cX8_prior 2 (some .int) ∈ wsL_law := wc_13 _ (List.mem_of_getElem? (i := 5) rfl)
theorem w_294 : Cond.methodLink RX8 206 yX8_sets ∈ wsL_law := wc_13 _ (List.mem_of_getElem? (i := 6) rfl)
theorem w_295 : Cond.instanceMethod yX8_sets ∈ wsL_law := wc_13 _ (List.mem_of_getElem? (i := 7) rfl)
theorem w_296 : Cond.selects RX8 yX8_sets yX8_sets ∈ wsL_law := wc_13 _ (List.mem_of_getElem? (i := 8) rfl)
theorem w_297 : Cond.code yX8_sets cX8_sets 3 (some .int) ∈ wsL_law := wc_13 _ (List.mem_of_getElem? (i := 9) rfl)
theorem w_298 : Cond.methodLink RL 35 yX7_tell ∈ wsL_law := wc_13 _ (List.mem_of_getElem? (i := 10) rfl)
theorem w_299 : Cond.instanceMethod yX7_tell ∈ wsL_law := wc_13 _ (List.mem_of_getElem? (i := 11) rfl)
theorem w_300 : Cond.selects RX7 yX7_tell yX7_tell ∈ wsL_law := wc_13 _ (List.mem_of_getElem? (i := 12) rfl)
theorem w_301 : Cond.code yX7_tell cX7_tell 3 (some .int) ∈ wsL_law := wc_13 _ (List.mem_of_getElem? (i := 13) rfl)
theorem w_302 : Cond.methodLink RX7 93 yX6_changeRules ∈ wsL_law := wc_13 _ (List.mem_of_getElem? (i := 14) rfl)
theorem w_303 : Cond.instanceMethod yX6_changeRules ∈ wsL_law := wc_13 _ (List.mem_of_getElem? (i := 15) rfl)
theorem w_304 : Cond.selects RX6 yX6_changeRules yX6_changeRules ∈ wsL_law := wc_13 _ (List.mem_of_getElem? (i := 16) rfl)
theorem w_305 : Cond.code yX6_changeRules cX6_changeRules 3 (some .int) ∈ wsL_law := wc_13 _ (List.mem_of_getElem? (i := 17) rfl)
theorem w_306 : Cond.methodLink RX6 80 yX6_changeSpan ∈ wsL_law := wc_13 _ (List.mem_of_getElem? (i := 18) rfl)
theorem w_307 : Cond.instanceMethod yX6_changeSpan ∈ wsL_law := wc_13 _ (List.mem_of_getElem? (i := 19) rfl)
theorem w_308 : Cond.selects RX6 yX6_changeSpan yX6_changeSpan ∈ wsL_law := wc_13 _ (List.mem_of_getElem? (i := 20) rfl)
theorem w_309 : Cond.code yX6_changeSpan cX6_changeSpan 3 (some .int) ∈ wsL_law := wc_13 _ (List.mem_of_getElem? (i := 21) rfl)
theorem w_310 : Cond.methodLink RX6 83 yX6_changeBound ∈ wsL_law := wc_13 _ (List.mem_of_getElem? (i := 22) rfl)
theorem w_311 : Cond.instanceMethod yX6_changeBound ∈ wsL_law := wc_13 _ (List.mem_of_getElem? (i := 23) rfl)
theorem w_312 : Cond.selects RX6 yX6_changeBound yX6_changeBound ∈ wsL_law := wc_14 _ (List.mem_of_getElem? (i := 0) rfl)
theorem w_313 : Cond.code yX6_changeBound cX6_changeBound 3 (some .int) ∈ wsL_law := wc_14 _ (List.mem_of_getElem? (i := 1) rfl)
theorem w_314 : Cond.methodLink RX6 86 yX6_changeRule ∈ wsL_law := wc_14 _ (List.mem_of_getElem? (i := 2) rfl)
theorem w_315 : Cond.instanceMethod yX6_changeRule ∈ wsL_law := wc_14 _ (List.mem_of_getElem? (i := 3) rfl)
theorem w_316 : Cond.selects RX6 yX6_changeRule yX6_changeRule ∈ wsL_law := wc_14 _ (List.mem_of_getElem? (i := 4) rfl)
theorem w_317 : Cond.code yX6_changeRule cX6_changeRule 3 (some .int) ∈ wsL_law := wc_14 _ (List.mem_of_getElem? (i := 5) rfl)
theorem w_318 : Cond.methodLink RL 38 yX8_tell ∈ wsL_law := wc_14 _ (List.mem_of_getElem? (i := 6) rfl)
theorem w_319 : Cond.instanceMethod yX8_tell ∈ wsL_law := wc_14 _ (List.mem_of_getElem? (i := 7) rfl)
theorem w_320 : Cond.selects RX8 yX8_tell yX8_tell ∈ wsL_law := wc_14 _ (List.mem_of_getElem? (i := 8) rfl)
theorem w_321 : Cond.code yX8_tell cX8_tell 3 (some .int) ∈ wsL_law := wc_14 _ (List.mem_of_getElem? (i := 9) rfl)
theorem w_322 : Cond.methodLink RX8 209 yX8_tells ∈ wsL_law := wc_14 _ (List.mem_of_getElem? (i := 10) rfl)
theorem w_323 : Cond.instanceMethod yX8_tells ∈ wsL_law := wc_14 _ (List.mem_of_getElem? (i := 11) rfl)
theorem w_324 : Cond.selects RX8 yX8_tells yX8_tells ∈ wsL_law := wc_14 _ (List.mem_of_getElem? (i := 12) rfl)
theorem w_325 : Cond.code yX8_tells cX8_tells 5 (some .int) ∈ wsL_law := wc_14 _ (List.mem_of_getElem? (i := 13) rfl)
theorem w_326 : Cond.constantLong RX8 182 (4) ∈ wsL_law := wc_14 _ (List.mem_of_getElem? (i := 14) rfl)
theorem w_327 : Cond.constantLong RX8 184 (20) ∈ wsL_law := wc_14 _ (List.mem_of_getElem? (i := 15) rfl)
theorem w_328 : Cond.constantLong RX8 186 (2) ∈ wsL_law := wc_14 _ (List.mem_of_getElem? (i := 16) rfl)
theorem w_329 : Cond.methodLink RL 39 yX7_move ∈ wsL_law := wc_14 _ (List.mem_of_getElem? (i := 17) rfl)
theorem w_330 : Cond.instanceMethod yX7_move ∈ wsL_law := wc_14 _ (List.mem_of_getElem? (i := 18) rfl)
theorem w_331 : Cond.selects RX7 yX7_move yX7_move ∈ wsL_law := wc_14 _ (List.mem_of_getElem? (i := 19) rfl)
theorem w_332 : Cond.code yX7_move cX7_move 3 (some .int) ∈ wsL_law := wc_14 _ (List.mem_of_getElem? (i := 20) rfl)
theorem w_333 : Cond.methodLink RX7 96 yX6_moveBook ∈ wsL_law := wc_14 _ (List.mem_of_getElem? (i := 21) rfl)
theorem w_334 : Cond.instanceMethod yX6_moveBook ∈ wsL_law := wc_14 _ (List.mem_of_getElem? (i := 22) rfl)
theorem w_335 : Cond.selects RX6 yX6_moveBook yX6_moveBook ∈ wsL_law := wc_14 _ (List.mem_of_getElem? (i := 23) rfl)
theorem w_336 : Cond.code yX6_moveBook cX6_moveBook 5 (some .int) ∈ wsL_law := wc_15 _ (List.mem_of_getElem? (i := 0) rfl)
theorem w_337 : Cond.methodLink RL 42 yX8_move ∈ wsL_law := wc_15 _ (List.mem_of_getElem? (i := 1) rfl)
theorem w_338 : Cond.instanceMethod yX8_move ∈ wsL_law := wc_15 _ (List.mem_of_getElem? (i := 2) rfl)
theorem w_339 : Cond.selects RX8 yX8_move yX8_move ∈ wsL_law := wc_15 _ (List.mem_of_getElem? (i := 3) rfl)
theorem w_340 : Cond.code yX8_move cX8_move 3 (some .int) ∈ wsL_law := wc_15 _ (List.mem_of_getElem? (i := 4) rfl)
theorem w_341 : Cond.methodLink RX8 212 yX8_shifts ∈ wsL_law := wc_15 _ (List.mem_of_getElem? (i := 5) rfl)
theorem w_342 : Cond.instanceMethod yX8_shifts ∈ wsL_law := wc_15 _ (List.mem_of_getElem? (i := 6) rfl)
theorem w_343 : Cond.selects RX8 yX8_shifts yX8_shifts ∈ wsL_law := wc_15 _ (List.mem_of_getElem? (i := 7) rfl)
theorem w_344 : Cond.code yX8_shifts cX8_shifts 6 (some .int) ∈ wsL_law := wc_15 _ (List.mem_of_getElem? (i := 8) rfl)
theorem w_345 : Cond.methodLink RL 43 yX7_settle ∈ wsL_law := wc_15 _ (List.mem_of_getElem? (i := 9) rfl)
theorem w_346 : Cond.instanceMethod yX7_settle ∈ wsL_law := wc_15 _ (List.mem_of_getElem? (i := 10) rfl)
theorem w_347 : Cond.selects RX7 yX7_settle yX7_settle ∈ wsL_law := wc_15 _ (List.mem_of_getElem? (i := 11) rfl)
theorem w_348 : Cond.code yX7_settle cX7_settle 2 (some .int) ∈ wsL_law := wc_15 _ (List.mem_of_getElem? (i := 12) rfl)
theorem w_349 : Cond.fieldLink RX7 99 "ReadingStages$State" "n" "I" ∈ wsL_law := wc_15 _ (List.mem_of_getElem? (i := 13) rfl)
theorem w_350 : Cond.fieldLink RX7 107 "ReadingStages$Search" "found" "[I" ∈ wsL_law := wc_15 _ (List.mem_of_getElem? (i := 14) rfl)
theorem w_351 : Cond.methodLink RX7 103 yX7_seekBestOrGrown ∈ wsL_law := wc_15 _ (List.mem_of_getElem? (i := 15) rfl)
theorem w_352 : Cond.instanceMethod yX7_seekBestOrGrown ∈ wsL_law := wc_15 _ (List.mem_of_getElem? (i := 16) rfl)
theorem w_353 : Cond.selects RX7 yX7_seekBestOrGrown yX7_seekBestOrGrown ∈ wsL_law := wc_15 _ (List.mem_of_getElem? (i := 17) rfl)
theorem w_354 : Cond.code yX7_seekBestOrGrown cX7_seekBestOrGrown 2 none ∈ wsL_law := wc_15 _ (List.mem_of_getElem? (i := 18) rfl)
theorem w_355 : Cond.methodLink RX7 191 yX4_prepare ∈ wsL_law := wc_15 _ (List.mem_of_getElem? (i := 19) rfl)
theorem w_356 : Cond.instanceMethod yX4_prepare ∈ wsL_law := wc_15 _ (List.mem_of_getElem? (i := 20) rfl)
theorem w_357 : Cond.selects RX4 yX4_prepare yX4_prepare ∈ wsL_law := wc_15 _ (List.mem_of_getElem? (i := 21) rfl)
theorem w_358 : Cond.code yX4_prepare cX4_prepare 3 none ∈ wsL_law := wc_15 _ (List.mem_of_getElem? (i := 22) rfl)
theorem w_359 : Cond.fieldLink RX4 41 "ReadingStages$State" "n" "I" ∈ wsL_law := wc_15 _ (List.mem_of_getElem? (i := 23) rfl)
theorem w_360 : Cond.fieldLink RX4 47 "ReadingStages$Search" "n" "I" ∈ wsL_law := wc_16 _ (List.mem_of_getElem? (i := 0) rfl)
theorem w_361 : Cond.fieldLink RX4 58 "ReadingStages$Search" "onlyBetter" "Z" ∈ wsL_law := wc_16 _ (List.mem_of_getElem? (i := 1) rfl)
theorem w_362 : Cond.fieldLink RX4 62 "ReadingStages$Search" "wanted" "I" ∈ wsL_law := wc_16 _ (List.mem_of_getElem? (i := 2) rfl)
theorem w_363 : Cond.fieldLink RX4 65 "ReadingStages$Search" "count" "I" ∈ wsL_law := wc_16 _ (List.mem_of_getElem? (i := 3) rfl)
theorem w_364 : Cond.fieldLink RX4 68 "ReadingStages$Search" "peak" "I" ∈ wsL_law := wc_16 _ (List.mem_of_getElem? (i := 4) rfl)
theorem w_365 : Cond.fieldLink RX4 71 "ReadingStages$Search" "loss" "I" ∈ wsL_law := wc_16 _ (List.mem_of_getElem? (i := 5) rfl)
theorem w_366 : Cond.methodLink RX4 37 yX3_begin ∈ wsL_law := wc_16 _ (List.mem_of_getElem? (i := 6) rfl)
theorem w_367 : Cond.instanceMethod yX3_begin ∈ wsL_law := wc_16 _ (List.mem_of_getElem? (i := 7) rfl)
theorem w_368 : Cond.selects RX3 yX3_begin yX3_begin ∈ wsL_law := wc_16 _ (List.mem_of_getElem? (i := 8) rfl)
theorem w_369 : Cond.code yX3_begin cX3_begin 3 none ∈ wsL_law := wc_16 _ (List.mem_of_getElem? (i := 9) rfl)
theorem w_370 : Cond.fieldLink RX3 38 "ReadingStages$State" "n" "I" ∈ wsL_law := wc_16 _ (List.mem_of_getElem? (i := 10) rfl)
theorem w_371 : Cond.fieldLink RX3 44 "ReadingStages$Reading" "places" "I" ∈ wsL_law := wc_16 _ (List.mem_of_getElem? (i := 11) rfl)
theorem w_372 : Cond.fieldLink RX3 47 "ReadingStages$State" "span" "I" ∈ wsL_law := wc_16 _ (List.mem_of_getElem? (i := 12) rfl)
theorem w_373 : Cond.fieldLink RX3 50 "ReadingStages$State" "rule" "I" ∈ wsL_law := wc_16 _ (List.mem_of_getElem? (i := 13) rfl)
theorem w_374 : Cond.methodLink RX3 53 yX3_factor ∈ wsL_law := wc_16 _ (List.mem_of_getElem? (i := 14) rfl)
theorem w_375 : Cond.static yX3_factor ∈ wsL_law := wc_16 _ (List.mem_of_getElem? (i := 15) rfl)
theorem w_376 : Cond.code yX3_factor cX3_factor 2 (some .int) ∈ wsL_law := wc_16 _ (List.mem_of_getElem? (i := 16) rfl)
theorem w_377 : Cond.methodLink RX4 48 yX6_wordsThatCount ∈ wsL_law := wc_16 _ (List.mem_of_getElem? (i := 17) rfl)
theorem w_378 : Cond.instanceMethod yX6_wordsThatCount ∈ wsL_law := wc_16 _ (List.mem_of_getElem? (i := 18) rfl)
theorem w_379 : Cond.selects RX6 yX6_wordsThatCount yX6_wordsThatCount ∈ wsL_law := wc_16 _ (List.mem_of_getElem? (i := 19) rfl)
theorem w_380 : Cond.code yX6_wordsThatCount cX6_wordsThatCount 2 (some .int) ∈ wsL_law := wc_16 _ (List.mem_of_getElem? (i := 20) rfl)
theorem w_381 : Cond.methodLink RX4 52 yX6_leaders ∈ wsL_law := wc_16 _ (List.mem_of_getElem? (i := 21) rfl)
theorem w_382 : Cond.instanceMethod yX6_leaders ∈ wsL_law := wc_16 _ (List.mem_of_getElem? (i := 22) rfl)
theorem w_383 : Cond.selects RX6 yX6_leaders yX6_leaders ∈ wsL_law := wc_16 _ (List.mem_of_getElem? (i := 23) rfl)
theorem w_384 : Cond.code yX6_leaders cX6_leaders 4 (some .int) ∈ wsL_law := wc_17 _ (List.mem_of_getElem? (i := 0) rfl)
theorem w_385 : Cond.methodLink RX4 54 yX4_limitFresh ∈ wsL_law := wc_17 _ (List.mem_of_getElem? (i := 1) rfl)
theorem w_386 : Cond.instanceMethod yX4_limitFresh ∈ wsL_law := wc_17 _ (List.mem_of_getElem? (i := 2) rfl)
theorem w_387 : Cond.selects RX4 yX4_limitFresh yX4_limitFresh ∈ wsL_law := wc_17 _ (List.mem_of_getElem? (i := 3) rfl)
theorem w_388 : Cond.code yX4_limitFresh cX4_limitFresh 3 none ∈ wsL_law := wc_17 _ (List.mem_of_getElem? (i := 4) rfl)
theorem w_389 : Cond.methodLink RX7 310 yX4_grow ∈ wsL_law := wc_17 _ (List.mem_of_getElem? (i := 5) rfl)
theorem w_390 : Cond.instanceMethod yX4_grow ∈ wsL_law := wc_17 _ (List.mem_of_getElem? (i := 6) rfl)
theorem w_391 : Cond.selects RX4 yX4_grow yX4_grow ∈ wsL_law := wc_17 _ (List.mem_of_getElem? (i := 7) rfl)
theorem w_392 : Cond.code yX4_grow cX4_grow 4 none ∈ wsL_law := wc_17 _ (List.mem_of_getElem? (i := 8) rfl)
theorem w_393 : Cond.methodLink RX4 121 yX4_nextGrown ∈ wsL_law := wc_17 _ (List.mem_of_getElem? (i := 9) rfl)
theorem w_394 : Cond.instanceMethod yX4_nextGrown ∈ wsL_law := wc_17 _ (List.mem_of_getElem? (i := 10) rfl)
theorem w_395 : Cond.selects RX4 yX4_nextGrown yX4_nextGrown ∈ wsL_law := wc_17 _ (List.mem_of_getElem? (i := 11) rfl)
theorem w_396 : Cond.code yX4_nextGrown cX4_nextGrown 11 (some .int) ∈ wsL_law := wc_17 _ (List.mem_of_getElem? (i := 12) rfl)
theorem w_397 : Cond.methodLink RX4 129 yX3_knownAhead ∈ wsL_law := wc_17 _ (List.mem_of_getElem? (i := 13) rfl)
theorem w_398 : Cond.instanceMethod yX3_knownAhead ∈ wsL_law := wc_17 _ (List.mem_of_getElem? (i := 14) rfl)
theorem w_399 : Cond.selects RX3 yX3_knownAhead yX3_knownAhead ∈ wsL_law := wc_17 _ (List.mem_of_getElem? (i := 15) rfl)
theorem w_400 : Cond.code yX3_knownAhead cX3_knownAhead 2 (some .int) ∈ wsL_law := wc_17 _ (List.mem_of_getElem? (i := 16) rfl)
theorem w_401 : Cond.methodLink RX4 95 yJ6_bitCount_0f7a4 ∈ wsL_law := wc_17 _ (List.mem_of_getElem? (i := 17) rfl)
theorem w_402 : Cond.static yJ6_bitCount_0f7a4 ∈ wsL_law := wc_17 _ (List.mem_of_getElem? (i := 18) rfl)
theorem w_403 : Cond.initialized RJ6 ∈ wsL_law := wc_17 _ (List.mem_of_getElem? (i := 19) rfl)
theorem w_404 : Cond.code yJ6_bitCount_0f7a4 cJ6_bitCount_0f7a4 1 (some .int) ∈ wsL_law := wc_17 _ (List.mem_of_getElem? (i := 20) rfl)
theorem w_405 : Cond.constant RJ6 265 (1431655765) ∈ wsL_law := wc_17 _ (List.mem_of_getElem? (i := 21) rfl)
theorem w_406 : Cond.constant RJ6 266 (858993459) ∈ wsL_law := wc_17 _ (List.mem_of_getElem? (i := 22) rfl)
theorem w_407 : Cond.constant RJ6 267 (252645135) ∈ wsL_law := wc_17 _ (List.mem_of_getElem? (i := 23) rfl)
theorem w_408 : Cond.methodLink RX4 85 yX4_mayCome ∈ wsL_law := wc_18 _ (List.mem_of_getElem? (i := 0) rfl)
theorem w_409 : Cond.instanceMethod yX4_mayCome ∈ wsL_law := wc_18 _ (List.mem_of_getElem? (i := 1) rfl)
theorem w_410 : Cond.selects RX4 yX4_mayCome yX4_mayCome ∈ wsL_law := wc_18 _ (List.mem_of_getElem? (i := 2) rfl)
theorem w_411 : Cond.code yX4_mayCome cX4_mayCome 3 (some .boolean) ∈ wsL_law := wc_18 _ (List.mem_of_getElem? (i := 3) rfl)
theorem w_412 : Cond.methodLink RX4 89 yX3_step ∈ wsL_law := wc_18 _ (List.mem_of_getElem? (i := 4) rfl)
theorem w_413 : Cond.instanceMethod yX3_step ∈ wsL_law := wc_18 _ (List.mem_of_getElem? (i := 5) rfl)
theorem w_414 : Cond.selects RX3 yX3_step yX3_step ∈ wsL_law := wc_18 _ (List.mem_of_getElem? (i := 6) rfl)
theorem w_415 : Cond.code yX3_step cX3_step 9 none ∈ wsL_law := wc_18 _ (List.mem_of_getElem? (i := 7) rfl)
theorem w_416 : Cond.methodLink RX3 72 yX3_knownAhead ∈ wsL_law := wc_18 _ (List.mem_of_getElem? (i := 8) rfl)
theorem w_417 : Cond.methodLink RX3 75 yX3_ofStrength ∈ wsL_law := wc_18 _ (List.mem_of_getElem? (i := 9) rfl)
theorem w_418 : Cond.static yX3_ofStrength ∈ wsL_law := wc_18 _ (List.mem_of_getElem? (i := 10) rfl)
theorem w_419 : Cond.code yX3_ofStrength cX3_ofStrength 4 (some .int) ∈ wsL_law := wc_18 _ (List.mem_of_getElem? (i := 11) rfl)
theorem w_420 : Cond.methodLink RX4 124 yX3_peak ∈ wsL_law := wc_18 _ (List.mem_of_getElem? (i := 12) rfl)
theorem w_421 : Cond.instanceMethod yX3_peak ∈ wsL_law := wc_18 _ (List.mem_of_getElem? (i := 13) rfl)
theorem w_422 : Cond.selects RX3 yX3_peak yX3_peak ∈ wsL_law := wc_18 _ (List.mem_of_getElem? (i := 14) rfl)
theorem w_423 : Cond.code yX3_peak cX3_peak 3 (some .int) ∈ wsL_law := wc_18 _ (List.mem_of_getElem? (i := 15) rfl)
theorem w_424 : Cond.methodLink RX3 84 Lib.Math.max.name ∈ wsL_law := wc_18 _ (List.mem_of_getElem? (i := 16) rfl)
theorem w_425 : Cond.methodLink RX3 79 yJ6_bitCount_0f7a4 ∈ wsL_law := wc_18 _ (List.mem_of_getElem? (i := 17) rfl)
theorem w_426 : Cond.methodLink RX4 127 yX3_loss ∈ wsL_law := wc_18 _ (List.mem_of_getElem? (i := 18) rfl)
theorem w_427 : Cond.instanceMethod yX3_loss ∈ wsL_law := wc_18 _ (List.mem_of_getElem? (i := 19) rfl)
theorem w_428 : Cond.selects RX3 yX3_loss yX3_loss ∈ wsL_law := wc_18 _ (List.mem_of_getElem? (i := 20) rfl)
theorem w_429 : Cond.code yX3_loss cX3_loss 3 (some .int) ∈ wsL_law := wc_18 _ (List.mem_of_getElem? (i := 21) rfl)
theorem w_430 : Cond.methodLink RX7 313 yX4_seekLeast ∈ wsL_law := wc_18 _ (List.mem_of_getElem? (i := 22) rfl)
theorem w_431 : Cond.instanceMethod yX4_seekLeast ∈ wsL_law := wc_18 _ (List.mem_of_getElem? (i := 23) rfl)
theorem w_432 : Cond.selects RX4 yX4_seekLeast yX4_seekLeast ∈ wsL_law := wc_19 _ (List.mem_of_getElem? (i := 0) rfl)
theorem w_433 : Cond.code yX4_seekLeast cX4_seekLeast 1 none ∈ wsL_law := wc_19 _ (List.mem_of_getElem? (i := 1) rfl)
theorem w_434 : Cond.methodLink RX4 78 yX4_seek ∈ wsL_law := wc_19 _ (List.mem_of_getElem? (i := 2) rfl)
theorem w_435 : Cond.instanceMethod yX4_seek ∈ wsL_law := wc_19 _ (List.mem_of_getElem? (i := 3) rfl)
theorem w_436 : Cond.selects RX4 yX4_seek yX4_seek ∈ wsL_law := wc_19 _ (List.mem_of_getElem? (i := 4) rfl)
theorem w_437 : Cond.code yX4_seek cX4_seek 1 none ∈ wsL_law := wc_19 _ (List.mem_of_getElem? (i := 5) rfl)
theorem w_438 : Cond.methodLink RX4 74 yX4_goThrough ∈ wsL_law := wc_19 _ (List.mem_of_getElem? (i := 6) rfl)
theorem w_439 : Cond.static yX4_goThrough ∈ wsL_law := wc_19 _ (List.mem_of_getElem? (i := 7) rfl)
theorem w_440 : Cond.code yX4_goThrough cX4_goThrough 9 none ∈ wsL_law := wc_19 _ (List.mem_of_getElem? (i := 8) rfl)
theorem w_441 : Cond.fieldLink RX4 92 "ReadingStages$Reading" "fresh" "[I" ∈ wsL_law := wc_19 _ (List.mem_of_getElem? (i := 9) rfl)
theorem w_442 : Cond.methodLink RX4 100 Lib.Math.max.name ∈ wsL_law := wc_19 _ (List.mem_of_getElem? (i := 10) rfl)
theorem w_443 : Cond.fieldLink RX4 106 "ReadingStages$Reading" "lost" "[I" ∈ wsL_law := wc_19 _ (List.mem_of_getElem? (i := 11) rfl)
theorem w_444 : Cond.methodLink RX4 81 yX4_keepFound ∈ wsL_law := wc_19 _ (List.mem_of_getElem? (i := 12) rfl)
theorem w_445 : Cond.instanceMethod yX4_keepFound ∈ wsL_law := wc_19 _ (List.mem_of_getElem? (i := 13) rfl)
theorem w_446 : Cond.selects RX4 yX4_keepFound yX4_keepFound ∈ wsL_law := wc_19 _ (List.mem_of_getElem? (i := 14) rfl)
theorem w_447 : Cond.code yX4_keepFound cX4_keepFound 3 none ∈ wsL_law := wc_19 _ (List.mem_of_getElem? (i := 15) rfl)
theorem w_448 : Cond.methodLink RX4 115 arraycopyName ∈ wsL_law := wc_19 _ (List.mem_of_getElem? (i := 16) rfl)
theorem w_449 : Cond.methodLink RX4 109 yX4_isWanted ∈ wsL_law := wc_19 _ (List.mem_of_getElem? (i := 17) rfl)
theorem w_450 : Cond.instanceMethod yX4_isWanted ∈ wsL_law := wc_19 _ (List.mem_of_getElem? (i := 18) rfl)
theorem w_451 : Cond.selects RX4 yX4_isWanted yX4_isWanted ∈ wsL_law := wc_19 _ (List.mem_of_getElem? (i := 19) rfl)
theorem w_452 : Cond.code yX4_isWanted cX4_isWanted 3 (some .boolean) ∈ wsL_law := wc_19 _ (List.mem_of_getElem? (i := 20) rfl)
theorem w_453 : Cond.methodLink RX7 111 yX6_changeOrder ∈ wsL_law := wc_19 _ (List.mem_of_getElem? (i := 21) rfl)
theorem w_454 : Cond.instanceMethod yX6_changeOrder ∈ wsL_law := wc_19 _ (List.mem_of_getElem? (i := 22) rfl)
theorem w_455 : Cond.selects RX6 yX6_changeOrder yX6_changeOrder ∈ wsL_law := wc_19 _ (List.mem_of_getElem? (i := 23) rfl)
theorem w_456 : Cond.code yX6_changeOrder cX6_changeOrder 3 (some .int) ∈ wsL_law := wc_20 _ (List.mem_of_getElem? (i := 0) rfl)
theorem w_457 : Cond.methodLink RX6 89 yX6_number ∈ wsL_law := wc_20 _ (List.mem_of_getElem? (i := 1) rfl)
theorem w_458 : Cond.instanceMethod yX6_number ∈ wsL_law := wc_20 _ (List.mem_of_getElem? (i := 2) rfl)
theorem w_459 : Cond.selects RX6 yX6_number yX6_number ∈ wsL_law := wc_20 _ (List.mem_of_getElem? (i := 3) rfl)
theorem w_460 : Cond.code yX6_number cX6_number 4 (some .int) ∈ wsL_law := wc_20 _ (List.mem_of_getElem? (i := 4) rfl)
theorem w_461 : Cond.methodLink RL 46 yX8_settle ∈ wsL_law := wc_20 _ (List.mem_of_getElem? (i := 5) rfl)
theorem w_462 : Cond.instanceMethod yX8_settle ∈ wsL_law := wc_20 _ (List.mem_of_getElem? (i := 6) rfl)
theorem w_463 : Cond.selects RX8 yX8_settle yX8_settle ∈ wsL_law := wc_20 _ (List.mem_of_getElem? (i := 7) rfl)
theorem w_464 : Cond.code yX8_settle cX8_settle 2 (some .int) ∈ wsL_law := wc_20 _ (List.mem_of_getElem? (i := 8) rfl)
theorem w_465 : Cond.methodLink RX8 215 yX8_settles ∈ wsL_law := wc_20 _ (List.mem_of_getElem? (i := 9) rfl)
theorem w_466 : Cond.instanceMethod yX8_settles ∈ wsL_law := wc_20 _ (List.mem_of_getElem? (i := 10) rfl)
theorem w_467 : Cond.selects RX8 yX8_settles yX8_settles ∈ wsL_law := wc_20 _ (List.mem_of_getElem? (i := 11) rfl)
theorem w_468 : Cond.code yX8_settles cX8_settles 6 (some .int) ∈ wsL_law := wc_20 _ (List.mem_of_getElem? (i := 12) rfl)
theorem w_469 : Cond.fieldLink RX8 131 "ReadingStagesModel" "bestNumber" "I" ∈ wsL_law := wc_20 _ (List.mem_of_getElem? (i := 13) rfl)
theorem w_470 : Cond.methodLink RX8 96 yX8_takesOrder ∈ wsL_law := wc_20 _ (List.mem_of_getElem? (i := 14) rfl)
theorem w_471 : Cond.instanceMethod yX8_takesOrder ∈ wsL_law := wc_20 _ (List.mem_of_getElem? (i := 15) rfl)
theorem w_472 : Cond.selects RX8 yX8_takesOrder yX8_takesOrder ∈ wsL_law := wc_20 _ (List.mem_of_getElem? (i := 16) rfl)
theorem w_473 : Cond.code yX8_takesOrder cX8_takesOrder 2 none ∈ wsL_law := wc_20 _ (List.mem_of_getElem? (i := 17) rfl)
theorem w_474 : Cond.methodLink RX8 114 yX8_number ∈ wsL_law := wc_20 _ (List.mem_of_getElem? (i := 18) rfl)
theorem w_475 : Cond.instanceMethod yX8_number ∈ wsL_law := wc_20 _ (List.mem_of_getElem? (i := 19) rfl)
theorem w_476 : Cond.selects RX8 yX8_number yX8_number ∈ wsL_law := wc_20 _ (List.mem_of_getElem? (i := 20) rfl)
theorem w_477 : Cond.code yX8_number cX8_number 3 (some .int) ∈ wsL_law := wc_20 _ (List.mem_of_getElem? (i := 21) rfl)
theorem w_478 : Cond.methodLink RX8 148 yX8_laysBest ∈ wsL_law := wc_20 _ (List.mem_of_getElem? (i := 22) rfl)
theorem w_479 : Cond.instanceMethod yX8_laysBest ∈ wsL_law := wc_20 _ (List.mem_of_getElem? (i := 23) rfl)
theorem w_480 : Cond.selects RX8 yX8_laysBest yX8_laysBest ∈ wsL_law := wc_21 _ (List.mem_of_getElem? (i := 0) rfl)
theorem w_481 : Cond.code yX8_laysBest cX8_laysBest 4 none ∈ wsL_law := wc_21 _ (List.mem_of_getElem? (i := 1) rfl)
theorem w_482 : Cond.fieldLink RX8 137 "ReadingStagesModel" "bestPeak" "I" ∈ wsL_law := wc_21 _ (List.mem_of_getElem? (i := 2) rfl)
theorem w_483 : Cond.fieldLink RX8 140 "ReadingStagesModel" "bestLoss" "I" ∈ wsL_law := wc_21 _ (List.mem_of_getElem? (i := 3) rfl)
theorem w_484 : Cond.methodLink RX8 134 yX8_firstOrder ∈ wsL_law := wc_21 _ (List.mem_of_getElem? (i := 4) rfl)
theorem w_485 : Cond.instanceMethod yX8_firstOrder ∈ wsL_law := wc_21 _ (List.mem_of_getElem? (i := 5) rfl)
theorem w_486 : Cond.selects RX8 yX8_firstOrder yX8_firstOrder ∈ wsL_law := wc_21 _ (List.mem_of_getElem? (i := 6) rfl)
theorem w_487 : Cond.code yX8_firstOrder cX8_firstOrder 2 none ∈ wsL_law := wc_21 _ (List.mem_of_getElem? (i := 7) rfl)
theorem w_488 : Cond.methodLink RX8 124 yX8_isHolding ∈ wsL_law := wc_21 _ (List.mem_of_getElem? (i := 8) rfl)
theorem w_489 : Cond.instanceMethod yX8_isHolding ∈ wsL_law := wc_21 _ (List.mem_of_getElem? (i := 9) rfl)
theorem w_490 : Cond.selects RX8 yX8_isHolding yX8_isHolding ∈ wsL_law := wc_21 _ (List.mem_of_getElem? (i := 10) rfl)
theorem w_491 : Cond.code yX8_isHolding cX8_isHolding 4 (some .boolean) ∈ wsL_law := wc_21 _ (List.mem_of_getElem? (i := 11) rfl)
theorem w_492 : Cond.methodLink RX8 99 yX8_readsOrder ∈ wsL_law := wc_21 _ (List.mem_of_getElem? (i := 12) rfl)
theorem w_493 : Cond.instanceMethod yX8_readsOrder ∈ wsL_law := wc_21 _ (List.mem_of_getElem? (i := 13) rfl)
theorem w_494 : Cond.selects RX8 yX8_readsOrder yX8_readsOrder ∈ wsL_law := wc_21 _ (List.mem_of_getElem? (i := 14) rfl)
theorem w_495 : Cond.code yX8_readsOrder cX8_readsOrder 2 none ∈ wsL_law := wc_21 _ (List.mem_of_getElem? (i := 15) rfl)
theorem w_496 : Cond.methodLink RX8 83 yX8_begins ∈ wsL_law := wc_21 _ (List.mem_of_getElem? (i := 16) rfl)
theorem w_497 : Cond.instanceMethod yX8_begins ∈ wsL_law := wc_21 _ (List.mem_of_getElem? (i := 17) rfl)
theorem w_498 : Cond.selects RX8 yX8_begins yX8_begins ∈ wsL_law := wc_21 _ (List.mem_of_getElem? (i := 18) rfl)
theorem w_499 : Cond.code yX8_begins cX8_begins 2 none ∈ wsL_law := wc_21 _ (List.mem_of_getElem? (i := 19) rfl)
theorem w_500 : Cond.methodLink RX8 86 yX8_wordsAt ∈ wsL_law := wc_21 _ (List.mem_of_getElem? (i := 20) rfl)
theorem w_501 : Cond.instanceMethod yX8_wordsAt ∈ wsL_law := wc_21 _ (List.mem_of_getElem? (i := 21) rfl)
theorem w_502 : Cond.selects RX8 yX8_wordsAt yX8_wordsAt ∈ wsL_law := wc_21 _ (List.mem_of_getElem? (i := 22) rfl)
theorem w_503 : Cond.code yX8_wordsAt cX8_wordsAt 2 (some .int) ∈ wsL_law := wc_21 _ (List.mem_of_getElem? (i := 23) rfl)
theorem w_504 : Cond.methodLink RX8 89 yX8_reads ∈ wsL_law := wc_22 _ (List.mem_of_getElem? (i := 0) rfl)
theorem w_505 : Cond.instanceMethod yX8_reads ∈ wsL_law := wc_22 _ (List.mem_of_getElem? (i := 1) rfl)
theorem w_506 : Cond.selects RX8 yX8_reads yX8_reads ∈ wsL_law := wc_22 _ (List.mem_of_getElem? (i := 2) rfl)
theorem w_507 : Cond.code yX8_reads cX8_reads 4 none ∈ wsL_law := wc_22 _ (List.mem_of_getElem? (i := 3) rfl)
theorem w_508 : Cond.methodLink RX8 79 yX8_lasts ∈ wsL_law := wc_22 _ (List.mem_of_getElem? (i := 4) rfl)
theorem w_509 : Cond.instanceMethod yX8_lasts ∈ wsL_law := wc_22 _ (List.mem_of_getElem? (i := 5) rfl)
theorem w_510 : Cond.selects RX8 yX8_lasts yX8_lasts ∈ wsL_law := wc_22 _ (List.mem_of_getElem? (i := 6) rfl)
theorem w_511 : Cond.code yX8_lasts cX8_lasts 4 (some .int) ∈ wsL_law := wc_22 _ (List.mem_of_getElem? (i := 7) rfl)
theorem w_512 : Cond.methodLink RX8 118 yX8_peak ∈ wsL_law := wc_22 _ (List.mem_of_getElem? (i := 8) rfl)
theorem w_513 : Cond.instanceMethod yX8_peak ∈ wsL_law := wc_22 _ (List.mem_of_getElem? (i := 9) rfl)
theorem w_514 : Cond.selects RX8 yX8_peak yX8_peak ∈ wsL_law := wc_22 _ (List.mem_of_getElem? (i := 10) rfl)
theorem w_515 : Cond.code yX8_peak cX8_peak 3 (some .int) ∈ wsL_law := wc_22 _ (List.mem_of_getElem? (i := 11) rfl)
theorem w_516 : Cond.methodLink RX8 93 yX8_sizeOf ∈ wsL_law := wc_22 _ (List.mem_of_getElem? (i := 12) rfl)
theorem w_517 : Cond.static yX8_sizeOf ∈ wsL_law := wc_22 _ (List.mem_of_getElem? (i := 13) rfl)
theorem w_518 : Cond.code yX8_sizeOf cX8_sizeOf 3 (some .int) ∈ wsL_law := wc_22 _ (List.mem_of_getElem? (i := 14) rfl)
theorem w_519 : Cond.methodLink RX8 121 yX8_loss ∈ wsL_law := wc_22 _ (List.mem_of_getElem? (i := 15) rfl)
theorem w_520 : Cond.instanceMethod yX8_loss ∈ wsL_law := wc_22 _ (List.mem_of_getElem? (i := 16) rfl)
theorem w_521 : Cond.selects RX8 yX8_loss yX8_loss ∈ wsL_law := wc_22 _ (List.mem_of_getElem? (i := 17) rfl)
theorem w_522 : Cond.code yX8_loss cX8_loss 3 (some .int) ∈ wsL_law := wc_22 _ (List.mem_of_getElem? (i := 18) rfl)
theorem w_523 : Cond.methodLink RX8 143 yX8_nextOrder ∈ wsL_law := wc_22 _ (List.mem_of_getElem? (i := 19) rfl)
theorem w_524 : Cond.instanceMethod yX8_nextOrder ∈ wsL_law := wc_22 _ (List.mem_of_getElem? (i := 20) rfl)
theorem w_525 : Cond.selects RX8 yX8_nextOrder yX8_nextOrder ∈ wsL_law := wc_22 _ (List.mem_of_getElem? (i := 21) rfl)
theorem w_526 : Cond.code yX8_nextOrder cX8_nextOrder 7 (some .boolean) ∈ wsL_law := wc_22 _ (List.mem_of_getElem? (i := 22) rfl)
theorem w_527 : Cond.methodLink RX8 151 yX8_grows ∈ wsL_law := wc_22 _ (List.mem_of_getElem? (i := 23) rfl)
theorem w_528 : Cond.instanceMethod yX8_grows ∈ wsL_law := wc_23 _ (List.mem_of_getElem? (i := 0) rfl)
theorem w_529 : Cond.selects RX8 yX8_grows yX8_grows ∈ wsL_law := wc_23 _ (List.mem_of_getElem? (i := 1) rfl)
theorem w_530 : Cond.code yX8_grows cX8_grows 11 none ∈ wsL_law := wc_23 _ (List.mem_of_getElem? (i := 2) rfl)
theorem w_531 : Cond.methodLink RX8 108 yX8_aheadOf ∈ wsL_law := wc_23 _ (List.mem_of_getElem? (i := 3) rfl)
theorem w_532 : Cond.instanceMethod yX8_aheadOf ∈ wsL_law := wc_23 _ (List.mem_of_getElem? (i := 4) rfl)
theorem w_533 : Cond.selects RX8 yX8_aheadOf yX8_aheadOf ∈ wsL_law := wc_23 _ (List.mem_of_getElem? (i := 5) rfl)
theorem w_534 : Cond.code yX8_aheadOf cX8_aheadOf 4 (some .int) ∈ wsL_law := wc_23 _ (List.mem_of_getElem? (i := 6) rfl)
theorem w_535 : Cond.methodLink RL 47 yX7_place ∈ wsL_law := wc_23 _ (List.mem_of_getElem? (i := 7) rfl)
theorem w_536 : Cond.instanceMethod yX7_place ∈ wsL_law := wc_23 _ (List.mem_of_getElem? (i := 8) rfl)
theorem w_537 : Cond.selects RX7 yX7_place yX7_place ∈ wsL_law := wc_23 _ (List.mem_of_getElem? (i := 9) rfl)
theorem w_538 : Cond.code yX7_place cX7_place 3 (some .int) ∈ wsL_law := wc_23 _ (List.mem_of_getElem? (i := 10) rfl)
theorem w_539 : Cond.fieldLink RX7 122 "ReadingStages$State" "order" "[I" ∈ wsL_law := wc_23 _ (List.mem_of_getElem? (i := 11) rfl)
theorem w_540 : Cond.fieldLink RX7 125 "ReadingStages$Reading" "fresh" "[I" ∈ wsL_law := wc_23 _ (List.mem_of_getElem? (i := 12) rfl)
theorem w_541 : Cond.fieldLink RX7 133 "ReadingStages$Reading" "again" "[I" ∈ wsL_law := wc_23 _ (List.mem_of_getElem? (i := 13) rfl)
theorem w_542 : Cond.fieldLink RX7 136 "ReadingStages$Reading" "lost" "[I" ∈ wsL_law := wc_23 _ (List.mem_of_getElem? (i := 14) rfl)
theorem w_543 : Cond.methodLink RX7 115 yX6_isBook ∈ wsL_law := wc_23 _ (List.mem_of_getElem? (i := 15) rfl)
theorem w_544 : Cond.methodLink RX7 119 yX3_readOrder ∈ wsL_law := wc_23 _ (List.mem_of_getElem? (i := 16) rfl)
theorem w_545 : Cond.instanceMethod yX3_readOrder ∈ wsL_law := wc_23 _ (List.mem_of_getElem? (i := 17) rfl)
theorem w_546 : Cond.selects RX3 yX3_readOrder yX3_readOrder ∈ wsL_law := wc_23 _ (List.mem_of_getElem? (i := 18) rfl)
theorem w_547 : Cond.code yX3_readOrder cX3_readOrder 3 none ∈ wsL_law := wc_23 _ (List.mem_of_getElem? (i := 19) rfl)
theorem w_548 : Cond.fieldLink RX3 61 "ReadingStages$State" "order" "[I" ∈ wsL_law := wc_23 _ (List.mem_of_getElem? (i := 20) rfl)
theorem w_549 : Cond.methodLink RX3 57 yX3_begin ∈ wsL_law := wc_23 _ (List.mem_of_getElem? (i := 21) rfl)
theorem w_550 : Cond.methodLink RX3 64 yX6_wordsThatCount ∈ wsL_law := wc_23 _ (List.mem_of_getElem? (i := 22) rfl)
theorem w_551 : Cond.methodLink RX3 68 yX3_step ∈ wsL_law := wc_23 _ (List.mem_of_getElem? (i := 23) rfl)
theorem w_552 : Cond.methodLink RX7 128 yJ6_bitCount_0f7a4 ∈ wsL_law := wc_24 _ (List.mem_of_getElem? (i := 0) rfl)
theorem w_553 : Cond.methodLink RX7 139 yX3_knownAhead ∈ wsL_law := wc_24 _ (List.mem_of_getElem? (i := 1) rfl)
theorem w_554 : Cond.methodLink RL 50 yX8_place ∈ wsL_law := wc_24 _ (List.mem_of_getElem? (i := 2) rfl)
theorem w_555 : Cond.instanceMethod yX8_place ∈ wsL_law := wc_24 _ (List.mem_of_getElem? (i := 3) rfl)
theorem w_556 : Cond.selects RX8 yX8_place yX8_place ∈ wsL_law := wc_24 _ (List.mem_of_getElem? (i := 4) rfl)
theorem w_557 : Cond.code yX8_place cX8_place 3 (some .int) ∈ wsL_law := wc_24 _ (List.mem_of_getElem? (i := 5) rfl)
theorem w_558 : Cond.methodLink RL 51 yX7_word ∈ wsL_law := wc_24 _ (List.mem_of_getElem? (i := 6) rfl)
theorem w_559 : Cond.instanceMethod yX7_word ∈ wsL_law := wc_24 _ (List.mem_of_getElem? (i := 7) rfl)
theorem w_560 : Cond.selects RX7 yX7_word yX7_word ∈ wsL_law := wc_24 _ (List.mem_of_getElem? (i := 8) rfl)
theorem w_561 : Cond.code yX7_word cX7_word 3 (some .int) ∈ wsL_law := wc_24 _ (List.mem_of_getElem? (i := 9) rfl)
theorem w_562 : Cond.fieldLink RX7 152 "ReadingStages$State" "sets" "[I" ∈ wsL_law := wc_24 _ (List.mem_of_getElem? (i := 10) rfl)
theorem w_563 : Cond.methodLink RX7 142 yX7_firstWith ∈ wsL_law := wc_24 _ (List.mem_of_getElem? (i := 11) rfl)
theorem w_564 : Cond.instanceMethod yX7_firstWith ∈ wsL_law := wc_24 _ (List.mem_of_getElem? (i := 12) rfl)
theorem w_565 : Cond.selects RX7 yX7_firstWith yX7_firstWith ∈ wsL_law := wc_24 _ (List.mem_of_getElem? (i := 13) rfl)
theorem w_566 : Cond.code yX7_firstWith cX7_firstWith 4 (some .int) ∈ wsL_law := wc_24 _ (List.mem_of_getElem? (i := 14) rfl)
theorem w_567 : Cond.methodLink RX7 325 yX7_hasBit ∈ wsL_law := wc_24 _ (List.mem_of_getElem? (i := 15) rfl)
theorem w_568 : Cond.methodLink RX7 146 yX3_strengthBehindAll ∈ wsL_law := wc_24 _ (List.mem_of_getElem? (i := 16) rfl)
theorem w_569 : Cond.instanceMethod yX3_strengthBehindAll ∈ wsL_law := wc_24 _ (List.mem_of_getElem? (i := 17) rfl)
theorem w_570 : Cond.selects RX3 yX3_strengthBehindAll yX3_strengthBehindAll ∈ wsL_law := wc_24 _ (List.mem_of_getElem? (i := 18) rfl)
theorem w_571 : Cond.code yX3_strengthBehindAll cX3_strengthBehindAll 5 (some .int) ∈ wsL_law := wc_24 _ (List.mem_of_getElem? (i := 19) rfl)
theorem w_572 : Cond.methodLink RX7 149 yX7_howManyWith ∈ wsL_law := wc_24 _ (List.mem_of_getElem? (i := 20) rfl)
theorem w_573 : Cond.instanceMethod yX7_howManyWith ∈ wsL_law := wc_24 _ (List.mem_of_getElem? (i := 21) rfl)
theorem w_574 : Cond.selects RX7 yX7_howManyWith yX7_howManyWith ∈ wsL_law := wc_24 _ (List.mem_of_getElem? (i := 22) rfl)
theorem w_575 : Cond.code yX7_howManyWith cX7_howManyWith 5 (some .int) ∈ wsL_law := wc_24 _ (List.mem_of_getElem? (i := 23) rfl)
theorem w_576 : Cond.methodLink RL 54 yX8_word ∈ wsL_law := wc_25 _ (List.mem_of_getElem? (i := 0) rfl)
theorem w_577 : Cond.instanceMethod yX8_word ∈ wsL_law := wc_25 _ (List.mem_of_getElem? (i := 1) rfl)
theorem w_578 : Cond.selects RX8 yX8_word yX8_word ∈ wsL_law := wc_25 _ (List.mem_of_getElem? (i := 2) rfl)
theorem w_579 : Cond.code yX8_word cX8_word 8 (some .int) ∈ wsL_law := wc_25 _ (List.mem_of_getElem? (i := 3) rfl)
theorem w_580 : Cond.constantLong RX8 102 (19) ∈ wsL_law := wc_25 _ (List.mem_of_getElem? (i := 4) rfl)
theorem w_581 : Cond.methodLink RL 55 yX7_told ∈ wsL_law := wc_25 _ (List.mem_of_getElem? (i := 5) rfl)
theorem w_582 : Cond.instanceMethod yX7_told ∈ wsL_law := wc_25 _ (List.mem_of_getElem? (i := 6) rfl)
theorem w_583 : Cond.selects RX7 yX7_told yX7_told ∈ wsL_law := wc_25 _ (List.mem_of_getElem? (i := 7) rfl)
theorem w_584 : Cond.code yX7_told cX7_told 3 (some .int) ∈ wsL_law := wc_25 _ (List.mem_of_getElem? (i := 8) rfl)
theorem w_585 : Cond.fieldLink RX7 155 "ReadingStages$State" "followers" "[I" ∈ wsL_law := wc_25 _ (List.mem_of_getElem? (i := 9) rfl)
theorem w_586 : Cond.methodLink RX7 158 yX6_leaders ∈ wsL_law := wc_25 _ (List.mem_of_getElem? (i := 10) rfl)
theorem w_587 : Cond.methodLink RX7 161 yX6_placeOf ∈ wsL_law := wc_25 _ (List.mem_of_getElem? (i := 11) rfl)
theorem w_588 : Cond.methodLink RL 58 yX8_told ∈ wsL_law := wc_25 _ (List.mem_of_getElem? (i := 12) rfl)
theorem w_589 : Cond.instanceMethod yX8_told ∈ wsL_law := wc_25 _ (List.mem_of_getElem? (i := 13) rfl)
theorem w_590 : Cond.selects RX8 yX8_told yX8_told ∈ wsL_law := wc_25 _ (List.mem_of_getElem? (i := 14) rfl)
theorem w_591 : Cond.code yX8_told cX8_told 3 (some .int) ∈ wsL_law := wc_25 _ (List.mem_of_getElem? (i := 15) rfl)
theorem w_592 : Cond.methodLink RL 59 yX7_count ∈ wsL_law := wc_25 _ (List.mem_of_getElem? (i := 16) rfl)
theorem w_593 : Cond.instanceMethod yX7_count ∈ wsL_law := wc_25 _ (List.mem_of_getElem? (i := 17) rfl)
theorem w_594 : Cond.selects RX7 yX7_count yX7_count ∈ wsL_law := wc_25 _ (List.mem_of_getElem? (i := 18) rfl)
theorem w_595 : Cond.code yX7_count cX7_count 2 (some .int) ∈ wsL_law := wc_25 _ (List.mem_of_getElem? (i := 19) rfl)
theorem w_596 : Cond.fieldLink RX7 164 "ReadingStages$State" "prior" "I" ∈ wsL_law := wc_25 _ (List.mem_of_getElem? (i := 20) rfl)
theorem w_597 : Cond.fieldLink RX7 167 "ReadingStages$State" "span" "I" ∈ wsL_law := wc_25 _ (List.mem_of_getElem? (i := 21) rfl)
theorem w_598 : Cond.fieldLink RX7 170 "ReadingStages$State" "bound" "I" ∈ wsL_law := wc_25 _ (List.mem_of_getElem? (i := 22) rfl)
theorem w_599 : Cond.fieldLink RX7 173 "ReadingStages$State" "rule" "I" ∈ wsL_law := wc_25 _ (List.mem_of_getElem? (i := 23) rfl)
theorem w_600 : Cond.fieldLink RX7 179 "ReadingStages$Past" "size" "I" ∈ wsL_law := wc_26 _ (List.mem_of_getElem? (i := 0) rfl)
theorem w_601 : Cond.methodLink RX7 176 yX6_number ∈ wsL_law := wc_26 _ (List.mem_of_getElem? (i := 1) rfl)
theorem w_602 : Cond.methodLink RX7 182 yX7_countOfReading ∈ wsL_law := wc_26 _ (List.mem_of_getElem? (i := 2) rfl)
theorem w_603 : Cond.instanceMethod yX7_countOfReading ∈ wsL_law := wc_26 _ (List.mem_of_getElem? (i := 3) rfl)
theorem w_604 : Cond.selects RX7 yX7_countOfReading yX7_countOfReading ∈ wsL_law := wc_26 _ (List.mem_of_getElem? (i := 4) rfl)
theorem w_605 : Cond.code yX7_countOfReading cX7_countOfReading 3 (some .int) ∈ wsL_law := wc_26 _ (List.mem_of_getElem? (i := 5) rfl)
theorem w_606 : Cond.methodLink RX7 316 yX6_holds ∈ wsL_law := wc_26 _ (List.mem_of_getElem? (i := 6) rfl)
theorem w_607 : Cond.instanceMethod yX6_holds ∈ wsL_law := wc_26 _ (List.mem_of_getElem? (i := 7) rfl)
theorem w_608 : Cond.selects RX6 yX6_holds yX6_holds ∈ wsL_law := wc_26 _ (List.mem_of_getElem? (i := 8) rfl)
theorem w_609 : Cond.code yX6_holds cX6_holds 3 (some .boolean) ∈ wsL_law := wc_26 _ (List.mem_of_getElem? (i := 9) rfl)
theorem w_610 : Cond.methodLink RX6 93 yX6_leaders ∈ wsL_law := wc_26 _ (List.mem_of_getElem? (i := 10) rfl)
theorem w_611 : Cond.methodLink RX7 320 yX3_peak ∈ wsL_law := wc_26 _ (List.mem_of_getElem? (i := 11) rfl)
theorem w_612 : Cond.methodLink RX7 323 yX3_loss ∈ wsL_law := wc_26 _ (List.mem_of_getElem? (i := 12) rfl)
theorem w_613 : Cond.methodLink RL 62 yX8_count ∈ wsL_law := wc_26 _ (List.mem_of_getElem? (i := 13) rfl)
theorem w_614 : Cond.instanceMethod yX8_count ∈ wsL_law := wc_26 _ (List.mem_of_getElem? (i := 14) rfl)
theorem w_615 : Cond.selects RX8 yX8_count yX8_count ∈ wsL_law := wc_26 _ (List.mem_of_getElem? (i := 15) rfl)
theorem w_616 : Cond.code yX8_count cX8_count 2 (some .int) ∈ wsL_law := wc_26 _ (List.mem_of_getElem? (i := 16) rfl)
theorem w_617 : Cond.methodLink RL 63 yX7_best ∈ wsL_law := wc_26 _ (List.mem_of_getElem? (i := 17) rfl)
theorem w_618 : Cond.instanceMethod yX7_best ∈ wsL_law := wc_26 _ (List.mem_of_getElem? (i := 18) rfl)
theorem w_619 : Cond.selects RX7 yX7_best yX7_best ∈ wsL_law := wc_26 _ (List.mem_of_getElem? (i := 19) rfl)
theorem w_620 : Cond.code yX7_best cX7_best 2 (some .int) ∈ wsL_law := wc_26 _ (List.mem_of_getElem? (i := 20) rfl)
theorem w_621 : Cond.fieldLink RX7 185 "ReadingStages$Search" "peak" "I" ∈ wsL_law := wc_26 _ (List.mem_of_getElem? (i := 21) rfl)
theorem w_622 : Cond.fieldLink RX7 188 "ReadingStages$Search" "loss" "I" ∈ wsL_law := wc_26 _ (List.mem_of_getElem? (i := 22) rfl)
theorem w_623 : Cond.methodLink RL 66 yX8_best ∈ wsL_law := wc_26 _ (List.mem_of_getElem? (i := 23) rfl)
theorem w_624 : Cond.instanceMethod yX8_best ∈ wsL_law := wc_27 _ (List.mem_of_getElem? (i := 0) rfl)
theorem w_625 : Cond.selects RX8 yX8_best yX8_best ∈ wsL_law := wc_27 _ (List.mem_of_getElem? (i := 1) rfl)
theorem w_626 : Cond.code yX8_best cX8_best 2 (some .int) ∈ wsL_law := wc_27 _ (List.mem_of_getElem? (i := 2) rfl)
theorem w_627 : Cond.constantLong RX8 146 (5) ∈ wsL_law := wc_27 _ (List.mem_of_getElem? (i := 3) rfl)
theorem w_628 : Cond.methodLink RL 67 yX7_many ∈ wsL_law := wc_27 _ (List.mem_of_getElem? (i := 4) rfl)
theorem w_629 : Cond.instanceMethod yX7_many ∈ wsL_law := wc_27 _ (List.mem_of_getElem? (i := 5) rfl)
theorem w_630 : Cond.selects RX7 yX7_many yX7_many ∈ wsL_law := wc_27 _ (List.mem_of_getElem? (i := 6) rfl)
theorem w_631 : Cond.code yX7_many cX7_many 2 (some .int) ∈ wsL_law := wc_27 _ (List.mem_of_getElem? (i := 7) rfl)
theorem w_632 : Cond.fieldLink RX7 200 "ReadingStages$Search" "count" "I" ∈ wsL_law := wc_27 _ (List.mem_of_getElem? (i := 8) rfl)
theorem w_633 : Cond.methodLink RX7 194 yX4_limitFresh ∈ wsL_law := wc_27 _ (List.mem_of_getElem? (i := 9) rfl)
theorem w_634 : Cond.methodLink RX7 197 yX4_seek ∈ wsL_law := wc_27 _ (List.mem_of_getElem? (i := 10) rfl)
theorem w_635 : Cond.methodLink RL 70 yX8_many ∈ wsL_law := wc_27 _ (List.mem_of_getElem? (i := 11) rfl)
theorem w_636 : Cond.instanceMethod yX8_many ∈ wsL_law := wc_27 _ (List.mem_of_getElem? (i := 12) rfl)
theorem w_637 : Cond.selects RX8 yX8_many yX8_many ∈ wsL_law := wc_27 _ (List.mem_of_getElem? (i := 13) rfl)
theorem w_638 : Cond.code yX8_many cX8_many 5 (some .int) ∈ wsL_law := wc_27 _ (List.mem_of_getElem? (i := 14) rfl)
theorem w_639 : Cond.methodLink RL 71 yX7_fit ∈ wsL_law := wc_27 _ (List.mem_of_getElem? (i := 15) rfl)
theorem w_640 : Cond.instanceMethod yX7_fit ∈ wsL_law := wc_27 _ (List.mem_of_getElem? (i := 16) rfl)
theorem w_641 : Cond.selects RX7 yX7_fit yX7_fit ∈ wsL_law := wc_27 _ (List.mem_of_getElem? (i := 17) rfl)
theorem w_642 : Cond.code yX7_fit cX7_fit 2 (some .int) ∈ wsL_law := wc_27 _ (List.mem_of_getElem? (i := 18) rfl)
theorem w_643 : Cond.fieldLink RX7 203 "ReadingStages$Search" "wanted" "I" ∈ wsL_law := wc_27 _ (List.mem_of_getElem? (i := 19) rfl)
theorem w_644 : Cond.methodLink RL 74 yX8_fit ∈ wsL_law := wc_27 _ (List.mem_of_getElem? (i := 20) rfl)
theorem w_645 : Cond.instanceMethod yX8_fit ∈ wsL_law := wc_27 _ (List.mem_of_getElem? (i := 21) rfl)
theorem w_646 : Cond.selects RX8 yX8_fit yX8_fit ∈ wsL_law := wc_27 _ (List.mem_of_getElem? (i := 22) rfl)
theorem w_647 : Cond.code yX8_fit cX8_fit 4 (some .int) ∈ wsL_law := wc_27 _ (List.mem_of_getElem? (i := 23) rfl)
theorem w_648 : Cond.methodLink RL 75 yX7_kept ∈ wsL_law := wc_28 _ (List.mem_of_getElem? (i := 0) rfl)
theorem w_649 : Cond.instanceMethod yX7_kept ∈ wsL_law := wc_28 _ (List.mem_of_getElem? (i := 1) rfl)
theorem w_650 : Cond.selects RX7 yX7_kept yX7_kept ∈ wsL_law := wc_28 _ (List.mem_of_getElem? (i := 2) rfl)
theorem w_651 : Cond.code yX7_kept cX7_kept 8 (some .int) ∈ wsL_law := wc_28 _ (List.mem_of_getElem? (i := 3) rfl)
theorem w_652 : Cond.methodLink RX7 206 yX7_placesWith ∈ wsL_law := wc_28 _ (List.mem_of_getElem? (i := 4) rfl)
theorem w_653 : Cond.instanceMethod yX7_placesWith ∈ wsL_law := wc_28 _ (List.mem_of_getElem? (i := 5) rfl)
theorem w_654 : Cond.selects RX7 yX7_placesWith yX7_placesWith ∈ wsL_law := wc_28 _ (List.mem_of_getElem? (i := 6) rfl)
theorem w_655 : Cond.code yX7_placesWith cX7_placesWith 4 (some .int) ∈ wsL_law := wc_28 _ (List.mem_of_getElem? (i := 7) rfl)
theorem w_656 : Cond.methodLink RX7 328 yX6_wordsThatCount ∈ wsL_law := wc_28 _ (List.mem_of_getElem? (i := 8) rfl)
theorem w_657 : Cond.methodLink RX7 209 yX7_waysToKeep ∈ wsL_law := wc_28 _ (List.mem_of_getElem? (i := 9) rfl)
theorem w_658 : Cond.instanceMethod yX7_waysToKeep ∈ wsL_law := wc_28 _ (List.mem_of_getElem? (i := 10) rfl)
theorem w_659 : Cond.selects RX7 yX7_waysToKeep yX7_waysToKeep ∈ wsL_law := wc_28 _ (List.mem_of_getElem? (i := 11) rfl)
theorem w_660 : Cond.code yX7_waysToKeep cX7_waysToKeep 7 (some .int) ∈ wsL_law := wc_28 _ (List.mem_of_getElem? (i := 12) rfl)
theorem w_661 : Cond.methodLink RX7 331 yX3_begin ∈ wsL_law := wc_28 _ (List.mem_of_getElem? (i := 13) rfl)
theorem w_662 : Cond.methodLink RX7 334 yX3_keepsWordMetAt ∈ wsL_law := wc_28 _ (List.mem_of_getElem? (i := 14) rfl)
theorem w_663 : Cond.instanceMethod yX3_keepsWordMetAt ∈ wsL_law := wc_28 _ (List.mem_of_getElem? (i := 15) rfl)
theorem w_664 : Cond.selects RX3 yX3_keepsWordMetAt yX3_keepsWordMetAt ∈ wsL_law := wc_28 _ (List.mem_of_getElem? (i := 16) rfl)
theorem w_665 : Cond.code yX3_keepsWordMetAt cX3_keepsWordMetAt 3 (some .boolean) ∈ wsL_law := wc_28 _ (List.mem_of_getElem? (i := 17) rfl)
theorem w_666 : Cond.methodLink RX7 212 yX7_power ∈ wsL_law := wc_28 _ (List.mem_of_getElem? (i := 18) rfl)
theorem w_667 : Cond.static yX7_power ∈ wsL_law := wc_28 _ (List.mem_of_getElem? (i := 19) rfl)
theorem w_668 : Cond.code yX7_power cX7_power 4 (some .int) ∈ wsL_law := wc_28 _ (List.mem_of_getElem? (i := 20) rfl)
theorem w_669 : Cond.methodLink RX7 215 yX7_greatestDivisor ∈ wsL_law := wc_28 _ (List.mem_of_getElem? (i := 21) rfl)
theorem w_670 : Cond.static yX7_greatestDivisor ∈ wsL_law := wc_28 _ (List.mem_of_getElem? (i := 22) rfl)
theorem w_671 : Cond.code yX7_greatestDivisor cX7_greatestDivisor 6 (some .int) ∈ wsL_law := wc_28 _ (List.mem_of_getElem? (i := 23) rfl)
theorem w_672 : Cond.methodLink RL 79 yX8_kept ∈ wsL_law := wc_29 _ (List.mem_of_getElem? (i := 0) rfl)
theorem w_673 : Cond.instanceMethod yX8_kept ∈ wsL_law := wc_29 _ (List.mem_of_getElem? (i := 1) rfl)
theorem w_674 : Cond.selects RX8 yX8_kept yX8_kept ∈ wsL_law := wc_29 _ (List.mem_of_getElem? (i := 2) rfl)
theorem w_675 : Cond.code yX8_kept cX8_kept 9 (some .int) ∈ wsL_law := wc_29 _ (List.mem_of_getElem? (i := 3) rfl)
theorem w_676 : Cond.constantLong RX8 154 (10) ∈ wsL_law := wc_29 _ (List.mem_of_getElem? (i := 4) rfl)
theorem w_677 : Cond.methodLink RL 80 yX7_letter ∈ wsL_law := wc_29 _ (List.mem_of_getElem? (i := 5) rfl)
theorem w_678 : Cond.instanceMethod yX7_letter ∈ wsL_law := wc_29 _ (List.mem_of_getElem? (i := 6) rfl)
theorem w_679 : Cond.selects RX7 yX7_letter yX7_letter ∈ wsL_law := wc_29 _ (List.mem_of_getElem? (i := 7) rfl)
theorem w_680 : Cond.code yX7_letter cX7_letter 2 (some .int) ∈ wsL_law := wc_29 _ (List.mem_of_getElem? (i := 8) rfl)
theorem w_681 : Cond.fieldLink RX7 221 "ReadingStages$Letters" "size" "I" ∈ wsL_law := wc_29 _ (List.mem_of_getElem? (i := 9) rfl)
theorem w_682 : Cond.methodLink RX7 218 yX7_writeNote ∈ wsL_law := wc_29 _ (List.mem_of_getElem? (i := 10) rfl)
theorem w_683 : Cond.instanceMethod yX7_writeNote ∈ wsL_law := wc_29 _ (List.mem_of_getElem? (i := 11) rfl)
theorem w_684 : Cond.selects RX7 yX7_writeNote yX7_writeNote ∈ wsL_law := wc_29 _ (List.mem_of_getElem? (i := 12) rfl)
theorem w_685 : Cond.code yX7_writeNote cX7_writeNote 2 none ∈ wsL_law := wc_29 _ (List.mem_of_getElem? (i := 13) rfl)
theorem w_686 : Cond.methodLink RX7 339 yJ0_length_8abf5 ∈ wsL_law := wc_29 _ (List.mem_of_getElem? (i := 14) rfl)
theorem w_687 : Cond.instanceMethod yJ0_length_8abf5 ∈ wsL_law := wc_29 _ (List.mem_of_getElem? (i := 15) rfl)
theorem w_688 : Cond.selects RJ0 yJ0_length_8abf5 yJ0_length_8abf5 ∈ wsL_law := wc_29 _ (List.mem_of_getElem? (i := 16) rfl)
theorem w_689 : Cond.initialized RJ0 ∈ wsL_law := wc_29 _ (List.mem_of_getElem? (i := 17) rfl)
theorem w_690 : Cond.code yJ0_length_8abf5 cJ0_length_8abf5 1 (some .int) ∈ wsL_law := wc_29 _ (List.mem_of_getElem? (i := 18) rfl)
theorem w_691 : Cond.fieldLink RJ0 9 "java/lang/String" "value" "[B" ∈ wsL_law := wc_29 _ (List.mem_of_getElem? (i := 19) rfl)
theorem w_692 : Cond.methodLink RJ0 335 yJ0_coder_7d493 ∈ wsL_law := wc_29 _ (List.mem_of_getElem? (i := 20) rfl)
theorem w_693 : Cond.instanceMethod yJ0_coder_7d493 ∈ wsL_law := wc_29 _ (List.mem_of_getElem? (i := 21) rfl)
theorem w_694 : Cond.selects RJ0 yJ0_coder_7d493 yJ0_coder_7d493 ∈ wsL_law := wc_29 _ (List.mem_of_getElem? (i := 22) rfl)
theorem w_695 : Cond.code yJ0_coder_7d493 cJ0_coder_7d493 1 (some .byte) ∈ wsL_law := wc_29 _ (List.mem_of_getElem? (i := 23) rfl)
theorem w_696 : Cond.fieldLink RJ0 38 "java/lang/String" "COMPACT_STRINGS" "Z" ∈ wsL_law := wc_30 _ (List.mem_of_getElem? (i := 0) rfl)
theorem w_697 : Cond.fieldLink RJ0 15 "java/lang/String" "coder" "B" ∈ wsL_law := wc_30 _ (List.mem_of_getElem? (i := 1) rfl)
theorem w_698 : Cond.methodLink RX7 344 yJ0_charAt_5068e ∈ wsL_law := wc_30 _ (List.mem_of_getElem? (i := 2) rfl)
theorem w_699 : Cond.instanceMethod yJ0_charAt_5068e ∈ wsL_law := wc_30 _ (List.mem_of_getElem? (i := 3) rfl)
theorem w_700 : Cond.selects RJ0 yJ0_charAt_5068e yJ0_charAt_5068e ∈ wsL_law := wc_30 _ (List.mem_of_getElem? (i := 4) rfl)
theorem w_701 : Cond.code yJ0_charAt_5068e cJ0_charAt_5068e 2 (some .char) ∈ wsL_law := wc_30 _ (List.mem_of_getElem? (i := 5) rfl)
theorem w_702 : Cond.methodLink RJ0 492 yJ0_isLatin1_aae02 ∈ wsL_law := wc_30 _ (List.mem_of_getElem? (i := 6) rfl)
theorem w_703 : Cond.instanceMethod yJ0_isLatin1_aae02 ∈ wsL_law := wc_30 _ (List.mem_of_getElem? (i := 7) rfl)
theorem w_704 : Cond.selects RJ0 yJ0_isLatin1_aae02 yJ0_isLatin1_aae02 ∈ wsL_law := wc_30 _ (List.mem_of_getElem? (i := 8) rfl)
theorem w_705 : Cond.code yJ0_isLatin1_aae02 cJ0_isLatin1_aae02 1 (some .boolean) ∈ wsL_law := wc_30 _ (List.mem_of_getElem? (i := 9) rfl)
theorem w_706 : Cond.methodLink RJ0 495 yJ1_charAt_3b067 ∈ wsL_law := wc_30 _ (List.mem_of_getElem? (i := 10) rfl)
theorem w_707 : Cond.static yJ1_charAt_3b067 ∈ wsL_law := wc_30 _ (List.mem_of_getElem? (i := 11) rfl)
theorem w_708 : Cond.initialized RJ1 ∈ wsL_law := wc_30 _ (List.mem_of_getElem? (i := 12) rfl)
theorem w_709 : Cond.code yJ1_charAt_3b067 cJ1_charAt_3b067 2 (some .char) ∈ wsL_law := wc_30 _ (List.mem_of_getElem? (i := 13) rfl)
theorem w_710 : Cond.methodLink RJ1 9 yJ0_checkIndex_df160 ∈ wsL_law := wc_30 _ (List.mem_of_getElem? (i := 14) rfl)
theorem w_711 : Cond.static yJ0_checkIndex_df160 ∈ wsL_law := wc_30 _ (List.mem_of_getElem? (i := 15) rfl)
theorem w_712 : Cond.code yJ0_checkIndex_df160 cJ0_checkIndex_df160 2 none ∈ wsL_law := wc_30 _ (List.mem_of_getElem? (i := 16) rfl)
theorem w_713 : Cond.fieldLink RJ0 1053 "jdk/internal/util/Preconditions" "SIOOBE_FORMATTER" "Ljava/util/function/BiFunction;" ∈ wsL_law := wc_30 _ (List.mem_of_getElem? (i := 17) rfl)
theorem w_714 : Cond.methodLink RJ0 1059 yJ3_checkIndex_8e157 ∈ wsL_law := wc_30 _ (List.mem_of_getElem? (i := 18) rfl)
theorem w_715 : Cond.static yJ3_checkIndex_8e157 ∈ wsL_law := wc_30 _ (List.mem_of_getElem? (i := 19) rfl)
theorem w_716 : Cond.initialized RJ3 ∈ wsL_law := wc_30 _ (List.mem_of_getElem? (i := 20) rfl)
theorem w_717 : Cond.code yJ3_checkIndex_8e157 cJ3_checkIndex_8e157 3 (some .int) ∈ wsL_law := wc_30 _ (List.mem_of_getElem? (i := 21) rfl)
theorem w_718 : Cond.methodLink RJ0 498 yJ2_charAt_3b067 ∈ wsL_law := wc_30 _ (List.mem_of_getElem? (i := 22) rfl)
theorem w_719 : Cond.static yJ2_charAt_3b067 ∈ wsL_law := wc_30 _ (List.mem_of_getElem? (i := 23) rfl)
theorem w_720 : Cond.initialized RJ2 ∈ wsL_law := wc_31 _ (List.mem_of_getElem? (i := 0) rfl)
theorem w_721 : Cond.code yJ2_charAt_3b067 cJ2_charAt_3b067 2 (some .char) ∈ wsL_law := wc_31 _ (List.mem_of_getElem? (i := 1) rfl)
theorem w_722 : Cond.methodLink RJ2 67 yJ2_checkIndex_2214a ∈ wsL_law := wc_31 _ (List.mem_of_getElem? (i := 2) rfl)
theorem w_723 : Cond.static yJ2_checkIndex_2214a ∈ wsL_law := wc_31 _ (List.mem_of_getElem? (i := 3) rfl)
theorem w_724 : Cond.code yJ2_checkIndex_2214a cJ2_checkIndex_2214a 2 none ∈ wsL_law := wc_31 _ (List.mem_of_getElem? (i := 4) rfl)
theorem w_725 : Cond.methodLink RJ2 48 yJ2_length_9d52b ∈ wsL_law := wc_31 _ (List.mem_of_getElem? (i := 5) rfl)
theorem w_726 : Cond.static yJ2_length_9d52b ∈ wsL_law := wc_31 _ (List.mem_of_getElem? (i := 6) rfl)
theorem w_727 : Cond.code yJ2_length_9d52b cJ2_length_9d52b 1 (some .int) ∈ wsL_law := wc_31 _ (List.mem_of_getElem? (i := 7) rfl)
theorem w_728 : Cond.methodLink RJ2 414 yJ0_checkIndex_df160 ∈ wsL_law := wc_31 _ (List.mem_of_getElem? (i := 8) rfl)
theorem w_729 : Cond.methodLink RJ2 71 yJ2_getChar_3b067 ∈ wsL_law := wc_31 _ (List.mem_of_getElem? (i := 9) rfl)
theorem w_730 : Cond.static yJ2_getChar_3b067 ∈ wsL_law := wc_31 _ (List.mem_of_getElem? (i := 10) rfl)
theorem w_731 : Cond.code yJ2_getChar_3b067 cJ2_getChar_3b067 2 (some .char) ∈ wsL_law := wc_31 _ (List.mem_of_getElem? (i := 11) rfl)
theorem w_732 : Cond.fieldLink RJ2 44 "java/lang/StringUTF16" "$assertionsDisabled" "Z" ∈ wsL_law := wc_31 _ (List.mem_of_getElem? (i := 12) rfl)
theorem w_733 : Cond.fieldLink RJ2 59 "java/lang/StringUTF16" "HI_BYTE_SHIFT" "I" ∈ wsL_law := wc_31 _ (List.mem_of_getElem? (i := 13) rfl)
theorem w_734 : Cond.fieldLink RJ2 63 "java/lang/StringUTF16" "LO_BYTE_SHIFT" "I" ∈ wsL_law := wc_31 _ (List.mem_of_getElem? (i := 14) rfl)
theorem w_735 : Cond.methodLink RX7 229 yX0_add ∈ wsL_law := wc_31 _ (List.mem_of_getElem? (i := 15) rfl)
theorem w_736 : Cond.instanceMethod yX0_add ∈ wsL_law := wc_31 _ (List.mem_of_getElem? (i := 16) rfl)
theorem w_737 : Cond.selects RX0 yX0_add yX0_add ∈ wsL_law := wc_31 _ (List.mem_of_getElem? (i := 17) rfl)
theorem w_738 : Cond.code yX0_add cX0_add 2 (some .boolean) ∈ wsL_law := wc_31 _ (List.mem_of_getElem? (i := 18) rfl)
theorem w_739 : Cond.fieldLink RX0 13 "ReadingStages$Letters" "size" "I" ∈ wsL_law := wc_31 _ (List.mem_of_getElem? (i := 19) rfl)
theorem w_740 : Cond.methodLink RX7 347 yX0_addNumber ∈ wsL_law := wc_31 _ (List.mem_of_getElem? (i := 20) rfl)
theorem w_741 : Cond.instanceMethod yX0_addNumber ∈ wsL_law := wc_31 _ (List.mem_of_getElem? (i := 21) rfl)
theorem w_742 : Cond.selects RX0 yX0_addNumber yX0_addNumber ∈ wsL_law := wc_31 _ (List.mem_of_getElem? (i := 22) rfl)
theorem w_743 : Cond.code yX0_addNumber cX0_addNumber 2 none ∈ wsL_law := wc_31 _ (List.mem_of_getElem? (i := 23) rfl)
theorem w_744 : Cond.methodLink RX0 17 yX0_add ∈ wsL_law := wc_32 _ (List.mem_of_getElem? (i := 0) rfl)
theorem w_745 : Cond.methodLink RX7 222 yX0_at ∈ wsL_law := wc_32 _ (List.mem_of_getElem? (i := 1) rfl)
theorem w_746 : Cond.instanceMethod yX0_at ∈ wsL_law := wc_32 _ (List.mem_of_getElem? (i := 2) rfl)
theorem w_747 : Cond.selects RX0 yX0_at yX0_at ∈ wsL_law := wc_32 _ (List.mem_of_getElem? (i := 3) rfl)
theorem w_748 : Cond.code yX0_at cX0_at 2 (some .char) ∈ wsL_law := wc_32 _ (List.mem_of_getElem? (i := 4) rfl)
theorem w_749 : Cond.methodLink RL 83 yX8_letter ∈ wsL_law := wc_32 _ (List.mem_of_getElem? (i := 5) rfl)
theorem w_750 : Cond.instanceMethod yX8_letter ∈ wsL_law := wc_32 _ (List.mem_of_getElem? (i := 6) rfl)
theorem w_751 : Cond.selects RX8 yX8_letter yX8_letter ∈ wsL_law := wc_32 _ (List.mem_of_getElem? (i := 7) rfl)
theorem w_752 : Cond.code yX8_letter cX8_letter 2 (some .int) ∈ wsL_law := wc_32 _ (List.mem_of_getElem? (i := 8) rfl)
theorem w_753 : Cond.fieldLink RX8 156 "ReadingStagesModel" "noted" "I" ∈ wsL_law := wc_32 _ (List.mem_of_getElem? (i := 9) rfl)
theorem w_754 : Cond.methodLink RX8 166 yX8_writesNote ∈ wsL_law := wc_32 _ (List.mem_of_getElem? (i := 10) rfl)
theorem w_755 : Cond.instanceMethod yX8_writesNote ∈ wsL_law := wc_32 _ (List.mem_of_getElem? (i := 11) rfl)
theorem w_756 : Cond.selects RX8 yX8_writesNote yX8_writesNote ∈ wsL_law := wc_32 _ (List.mem_of_getElem? (i := 12) rfl)
theorem w_757 : Cond.code yX8_writesNote cX8_writesNote 2 none ∈ wsL_law := wc_32 _ (List.mem_of_getElem? (i := 13) rfl)
theorem w_758 : Cond.methodLink RX8 159 yX8_writes ∈ wsL_law := wc_32 _ (List.mem_of_getElem? (i := 14) rfl)
theorem w_759 : Cond.instanceMethod yX8_writes ∈ wsL_law := wc_32 _ (List.mem_of_getElem? (i := 15) rfl)
theorem w_760 : Cond.selects RX8 yX8_writes yX8_writes ∈ wsL_law := wc_32 _ (List.mem_of_getElem? (i := 16) rfl)
theorem w_761 : Cond.code yX8_writes cX8_writes 2 none ∈ wsL_law := wc_32 _ (List.mem_of_getElem? (i := 17) rfl)
theorem w_762 : Cond.methodLink RX8 163 yX8_writesNumber ∈ wsL_law := wc_32 _ (List.mem_of_getElem? (i := 18) rfl)
theorem w_763 : Cond.instanceMethod yX8_writesNumber ∈ wsL_law := wc_32 _ (List.mem_of_getElem? (i := 19) rfl)
theorem w_764 : Cond.selects RX8 yX8_writesNumber yX8_writesNumber ∈ wsL_law := wc_32 _ (List.mem_of_getElem? (i := 20) rfl)
theorem w_765 : Cond.code yX8_writesNumber cX8_writesNumber 2 none ∈ wsL_law := wc_32 _ (List.mem_of_getElem? (i := 21) rfl)
theorem w_766 : Cond.methodLink RL 84 yX7_type ∈ wsL_law := wc_32 _ (List.mem_of_getElem? (i := 22) rfl)
theorem w_767 : Cond.instanceMethod yX7_type ∈ wsL_law := wc_32 _ (List.mem_of_getElem? (i := 23) rfl)
theorem w_768 : Cond.selects RX7 yX7_type yX7_type ∈ wsL_law := wc_33 _ (List.mem_of_getElem? (i := 0) rfl)
theorem w_769 : Cond.code yX7_type cX7_type 2 (some .int) ∈ wsL_law := wc_33 _ (List.mem_of_getElem? (i := 1) rfl)
theorem w_770 : Cond.fieldLink RX7 226 "ReadingStages$Parser" "tape" "LReadingStages$Letters;" ∈ wsL_law := wc_33 _ (List.mem_of_getElem? (i := 2) rfl)
theorem w_771 : Cond.methodLink RL 87 yX8_type ∈ wsL_law := wc_33 _ (List.mem_of_getElem? (i := 3) rfl)
theorem w_772 : Cond.instanceMethod yX8_type ∈ wsL_law := wc_33 _ (List.mem_of_getElem? (i := 4) rfl)
theorem w_773 : Cond.selects RX8 yX8_type yX8_type ∈ wsL_law := wc_33 _ (List.mem_of_getElem? (i := 5) rfl)
theorem w_774 : Cond.code yX8_type cX8_type 2 (some .int) ∈ wsL_law := wc_33 _ (List.mem_of_getElem? (i := 6) rfl)
theorem w_775 : Cond.constantLong RX8 218 (32) ∈ wsL_law := wc_33 _ (List.mem_of_getElem? (i := 7) rfl)
theorem w_776 : Cond.constantLong RX8 220 (126) ∈ wsL_law := wc_33 _ (List.mem_of_getElem? (i := 8) rfl)
theorem w_777 : Cond.fieldLink RX8 222 "ReadingStagesModel" "typed" "I" ∈ wsL_law := wc_33 _ (List.mem_of_getElem? (i := 9) rfl)
theorem w_778 : Cond.methodLink RL 88 yX7_read ∈ wsL_law := wc_33 _ (List.mem_of_getElem? (i := 10) rfl)
theorem w_779 : Cond.instanceMethod yX7_read ∈ wsL_law := wc_33 _ (List.mem_of_getElem? (i := 11) rfl)
theorem w_780 : Cond.selects RX7 yX7_read yX7_read ∈ wsL_law := wc_33 _ (List.mem_of_getElem? (i := 12) rfl)
theorem w_781 : Cond.code yX7_read cX7_read 2 (some .int) ∈ wsL_law := wc_33 _ (List.mem_of_getElem? (i := 13) rfl)
theorem w_782 : Cond.fieldLink RX7 237 "ReadingStages$Parser" "at" "I" ∈ wsL_law := wc_33 _ (List.mem_of_getElem? (i := 14) rfl)
theorem w_783 : Cond.fieldLink RX7 242 "ReadingStages$Parser" "draft" "LReadingStages$State;" ∈ wsL_law := wc_33 _ (List.mem_of_getElem? (i := 15) rfl)
theorem w_784 : Cond.methodLink RX7 233 yX1_parses ∈ wsL_law := wc_33 _ (List.mem_of_getElem? (i := 16) rfl)
theorem w_785 : Cond.instanceMethod yX1_parses ∈ wsL_law := wc_33 _ (List.mem_of_getElem? (i := 17) rfl)
theorem w_786 : Cond.selects RX1 yX1_parses yX1_parses ∈ wsL_law := wc_33 _ (List.mem_of_getElem? (i := 18) rfl)
theorem w_787 : Cond.code yX1_parses cX1_parses 3 (some .boolean) ∈ wsL_law := wc_33 _ (List.mem_of_getElem? (i := 19) rfl)
theorem w_788 : Cond.fieldLink RX1 31 "ReadingStages$State" "n" "I" ∈ wsL_law := wc_33 _ (List.mem_of_getElem? (i := 20) rfl)
theorem w_789 : Cond.fieldLink RX1 35 "ReadingStages$Parser" "at" "I" ∈ wsL_law := wc_33 _ (List.mem_of_getElem? (i := 21) rfl)
theorem w_790 : Cond.methodLink RX1 27 yX6_takeFrom ∈ wsL_law := wc_33 _ (List.mem_of_getElem? (i := 22) rfl)
theorem w_791 : Cond.methodLink RX1 38 yX1_takesRule ∈ wsL_law := wc_33 _ (List.mem_of_getElem? (i := 23) rfl)
theorem w_792 : Cond.instanceMethod yX1_takesRule ∈ wsL_law := wc_34 _ (List.mem_of_getElem? (i := 0) rfl)
theorem w_793 : Cond.selects RX1 yX1_takesRule yX1_takesRule ∈ wsL_law := wc_34 _ (List.mem_of_getElem? (i := 1) rfl)
theorem w_794 : Cond.code yX1_takesRule cX1_takesRule 3 (some .boolean) ∈ wsL_law := wc_34 _ (List.mem_of_getElem? (i := 2) rfl)
theorem w_795 : Cond.fieldLink RX1 58 "ReadingStages$Letters" "size" "I" ∈ wsL_law := wc_34 _ (List.mem_of_getElem? (i := 3) rfl)
theorem w_796 : Cond.fieldLink RX1 76 "ReadingStages$State" "rule" "I" ∈ wsL_law := wc_34 _ (List.mem_of_getElem? (i := 4) rfl)
theorem w_797 : Cond.methodLink RX1 64 yX1_next ∈ wsL_law := wc_34 _ (List.mem_of_getElem? (i := 5) rfl)
theorem w_798 : Cond.instanceMethod yX1_next ∈ wsL_law := wc_34 _ (List.mem_of_getElem? (i := 6) rfl)
theorem w_799 : Cond.selects RX1 yX1_next yX1_next ∈ wsL_law := wc_34 _ (List.mem_of_getElem? (i := 7) rfl)
theorem w_800 : Cond.code yX1_next cX1_next 1 (some .char) ∈ wsL_law := wc_34 _ (List.mem_of_getElem? (i := 8) rfl)
theorem w_801 : Cond.methodLink RX1 61 yX0_at ∈ wsL_law := wc_34 _ (List.mem_of_getElem? (i := 9) rfl)
theorem w_802 : Cond.methodLink RX1 68 yX1_nameOf ∈ wsL_law := wc_34 _ (List.mem_of_getElem? (i := 10) rfl)
theorem w_803 : Cond.static yX1_nameOf ∈ wsL_law := wc_34 _ (List.mem_of_getElem? (i := 11) rfl)
theorem w_804 : Cond.code yX1_nameOf cX1_nameOf 1 (some (.object "java/lang/String")) ∈ wsL_law := wc_34 _ (List.mem_of_getElem? (i := 12) rfl)
theorem w_805 : Cond.methodLink RX1 72 yX1_isName ∈ wsL_law := wc_34 _ (List.mem_of_getElem? (i := 13) rfl)
theorem w_806 : Cond.instanceMethod yX1_isName ∈ wsL_law := wc_34 _ (List.mem_of_getElem? (i := 14) rfl)
theorem w_807 : Cond.selects RX1 yX1_isName yX1_isName ∈ wsL_law := wc_34 _ (List.mem_of_getElem? (i := 15) rfl)
theorem w_808 : Cond.code yX1_isName cX1_isName 5 (some .boolean) ∈ wsL_law := wc_34 _ (List.mem_of_getElem? (i := 16) rfl)
theorem w_809 : Cond.methodLink RX1 85 yJ0_length_8abf5 ∈ wsL_law := wc_34 _ (List.mem_of_getElem? (i := 17) rfl)
theorem w_810 : Cond.methodLink RX1 91 yJ0_charAt_5068e ∈ wsL_law := wc_34 _ (List.mem_of_getElem? (i := 18) rfl)
theorem w_811 : Cond.methodLink RX1 42 yX1_takesSpan ∈ wsL_law := wc_34 _ (List.mem_of_getElem? (i := 19) rfl)
theorem w_812 : Cond.instanceMethod yX1_takesSpan ∈ wsL_law := wc_34 _ (List.mem_of_getElem? (i := 20) rfl)
theorem w_813 : Cond.selects RX1 yX1_takesSpan yX1_takesSpan ∈ wsL_law := wc_34 _ (List.mem_of_getElem? (i := 21) rfl)
theorem w_814 : Cond.code yX1_takesSpan cX1_takesSpan 2 (some .boolean) ∈ wsL_law := wc_34 _ (List.mem_of_getElem? (i := 22) rfl)
theorem w_815 : Cond.fieldLink RX1 97 "ReadingStages$State" "span" "I" ∈ wsL_law := wc_34 _ (List.mem_of_getElem? (i := 23) rfl)
theorem w_816 : Cond.methodLink RX1 94 yX1_nextFigure ∈ wsL_law := wc_35 _ (List.mem_of_getElem? (i := 0) rfl)
theorem w_817 : Cond.instanceMethod yX1_nextFigure ∈ wsL_law := wc_35 _ (List.mem_of_getElem? (i := 1) rfl)
theorem w_818 : Cond.selects RX1 yX1_nextFigure yX1_nextFigure ∈ wsL_law := wc_35 _ (List.mem_of_getElem? (i := 2) rfl)
theorem w_819 : Cond.code yX1_nextFigure cX1_nextFigure 2 (some .int) ∈ wsL_law := wc_35 _ (List.mem_of_getElem? (i := 3) rfl)
theorem w_820 : Cond.methodLink RX1 45 yX1_takesSign ∈ wsL_law := wc_35 _ (List.mem_of_getElem? (i := 4) rfl)
theorem w_821 : Cond.instanceMethod yX1_takesSign ∈ wsL_law := wc_35 _ (List.mem_of_getElem? (i := 5) rfl)
theorem w_822 : Cond.selects RX1 yX1_takesSign yX1_takesSign ∈ wsL_law := wc_35 _ (List.mem_of_getElem? (i := 6) rfl)
theorem w_823 : Cond.code yX1_takesSign cX1_takesSign 2 (some .boolean) ∈ wsL_law := wc_35 _ (List.mem_of_getElem? (i := 7) rfl)
theorem w_824 : Cond.methodLink RX1 49 yX1_takesBooks ∈ wsL_law := wc_35 _ (List.mem_of_getElem? (i := 8) rfl)
theorem w_825 : Cond.instanceMethod yX1_takesBooks ∈ wsL_law := wc_35 _ (List.mem_of_getElem? (i := 9) rfl)
theorem w_826 : Cond.selects RX1 yX1_takesBooks yX1_takesBooks ∈ wsL_law := wc_35 _ (List.mem_of_getElem? (i := 10) rfl)
theorem w_827 : Cond.code yX1_takesBooks cX1_takesBooks 2 (some .boolean) ∈ wsL_law := wc_35 _ (List.mem_of_getElem? (i := 11) rfl)
theorem w_828 : Cond.methodLink RX1 100 yX1_takesBook ∈ wsL_law := wc_35 _ (List.mem_of_getElem? (i := 12) rfl)
theorem w_829 : Cond.instanceMethod yX1_takesBook ∈ wsL_law := wc_35 _ (List.mem_of_getElem? (i := 13) rfl)
theorem w_830 : Cond.selects RX1 yX1_takesBook yX1_takesBook ∈ wsL_law := wc_35 _ (List.mem_of_getElem? (i := 14) rfl)
theorem w_831 : Cond.code yX1_takesBook cX1_takesBook 2 (some .boolean) ∈ wsL_law := wc_35 _ (List.mem_of_getElem? (i := 15) rfl)
theorem w_832 : Cond.methodLink RX1 103 yX6_addBook ∈ wsL_law := wc_35 _ (List.mem_of_getElem? (i := 16) rfl)
theorem w_833 : Cond.methodLink RX1 52 yX1_isAtEnd ∈ wsL_law := wc_35 _ (List.mem_of_getElem? (i := 17) rfl)
theorem w_834 : Cond.instanceMethod yX1_isAtEnd ∈ wsL_law := wc_35 _ (List.mem_of_getElem? (i := 18) rfl)
theorem w_835 : Cond.selects RX1 yX1_isAtEnd yX1_isAtEnd ∈ wsL_law := wc_35 _ (List.mem_of_getElem? (i := 19) rfl)
theorem w_836 : Cond.code yX1_isAtEnd cX1_isAtEnd 1 (some .boolean) ∈ wsL_law := wc_35 _ (List.mem_of_getElem? (i := 20) rfl)
theorem w_837 : Cond.methodLink RX1 55 yX1_takesPairs ∈ wsL_law := wc_35 _ (List.mem_of_getElem? (i := 21) rfl)
theorem w_838 : Cond.instanceMethod yX1_takesPairs ∈ wsL_law := wc_35 _ (List.mem_of_getElem? (i := 22) rfl)
theorem w_839 : Cond.selects RX1 yX1_takesPairs yX1_takesPairs ∈ wsL_law := wc_35 _ (List.mem_of_getElem? (i := 23) rfl)
theorem w_840 : Cond.code yX1_takesPairs cX1_takesPairs 2 (some .boolean) ∈ wsL_law := wc_36 _ (List.mem_of_getElem? (i := 0) rfl)
theorem w_841 : Cond.methodLink RX1 107 yX1_takesPair ∈ wsL_law := wc_36 _ (List.mem_of_getElem? (i := 1) rfl)
theorem w_842 : Cond.instanceMethod yX1_takesPair ∈ wsL_law := wc_36 _ (List.mem_of_getElem? (i := 2) rfl)
theorem w_843 : Cond.selects RX1 yX1_takesPair yX1_takesPair ∈ wsL_law := wc_36 _ (List.mem_of_getElem? (i := 3) rfl)
theorem w_844 : Cond.code yX1_takesPair cX1_takesPair 3 (some .boolean) ∈ wsL_law := wc_36 _ (List.mem_of_getElem? (i := 4) rfl)
theorem w_845 : Cond.fieldLink RX1 114 "ReadingStages$State" "followers" "[I" ∈ wsL_law := wc_36 _ (List.mem_of_getElem? (i := 5) rfl)
theorem w_846 : Cond.methodLink RX1 110 yX6_isBook ∈ wsL_law := wc_36 _ (List.mem_of_getElem? (i := 6) rfl)
theorem w_847 : Cond.methodLink RX1 122 yX6_turnAhead ∈ wsL_law := wc_36 _ (List.mem_of_getElem? (i := 7) rfl)
theorem w_848 : Cond.methodLink RL 92 yX8_read ∈ wsL_law := wc_36 _ (List.mem_of_getElem? (i := 8) rfl)
theorem w_849 : Cond.instanceMethod yX8_read ∈ wsL_law := wc_36 _ (List.mem_of_getElem? (i := 9) rfl)
theorem w_850 : Cond.selects RX8 yX8_read yX8_read ∈ wsL_law := wc_36 _ (List.mem_of_getElem? (i := 10) rfl)
theorem w_851 : Cond.code yX8_read cX8_read 3 (some .int) ∈ wsL_law := wc_36 _ (List.mem_of_getElem? (i := 11) rfl)
theorem w_852 : Cond.fieldLink RX8 225 "ReadingStagesModel" "place" "I" ∈ wsL_law := wc_36 _ (List.mem_of_getElem? (i := 12) rfl)
theorem w_853 : Cond.methodLink RX8 261 yX8_readsAll ∈ wsL_law := wc_36 _ (List.mem_of_getElem? (i := 13) rfl)
theorem w_854 : Cond.instanceMethod yX8_readsAll ∈ wsL_law := wc_36 _ (List.mem_of_getElem? (i := 14) rfl)
theorem w_855 : Cond.selects RX8 yX8_readsAll yX8_readsAll ∈ wsL_law := wc_36 _ (List.mem_of_getElem? (i := 15) rfl)
theorem w_856 : Cond.code yX8_readsAll cX8_readsAll 4 (some .boolean) ∈ wsL_law := wc_36 _ (List.mem_of_getElem? (i := 16) rfl)
theorem w_857 : Cond.methodLink RX8 249 yX8_rule ∈ wsL_law := wc_36 _ (List.mem_of_getElem? (i := 17) rfl)
theorem w_858 : Cond.instanceMethod yX8_rule ∈ wsL_law := wc_36 _ (List.mem_of_getElem? (i := 18) rfl)
theorem w_859 : Cond.selects RX8 yX8_rule yX8_rule ∈ wsL_law := wc_36 _ (List.mem_of_getElem? (i := 19) rfl)
theorem w_860 : Cond.code yX8_rule cX8_rule 1 (some .int) ∈ wsL_law := wc_36 _ (List.mem_of_getElem? (i := 20) rfl)
theorem w_861 : Cond.methodLink RX8 232 yX8_here ∈ wsL_law := wc_36 _ (List.mem_of_getElem? (i := 21) rfl)
theorem w_862 : Cond.instanceMethod yX8_here ∈ wsL_law := wc_36 _ (List.mem_of_getElem? (i := 22) rfl)
theorem w_863 : Cond.selects RX8 yX8_here yX8_here ∈ wsL_law := wc_36 _ (List.mem_of_getElem? (i := 23) rfl)
theorem w_864 : Cond.code yX8_here cX8_here 1 (some .int) ∈ wsL_law := wc_37 _ (List.mem_of_getElem? (i := 0) rfl)
theorem w_865 : Cond.methodLink RX8 235 yX8_isWord ∈ wsL_law := wc_37 _ (List.mem_of_getElem? (i := 1) rfl)
theorem w_866 : Cond.instanceMethod yX8_isWord ∈ wsL_law := wc_37 _ (List.mem_of_getElem? (i := 2) rfl)
theorem w_867 : Cond.selects RX8 yX8_isWord yX8_isWord ∈ wsL_law := wc_37 _ (List.mem_of_getElem? (i := 3) rfl)
theorem w_868 : Cond.code yX8_isWord cX8_isWord 6 (some .boolean) ∈ wsL_law := wc_37 _ (List.mem_of_getElem? (i := 4) rfl)
theorem w_869 : Cond.methodLink RX8 228 yX8_isAt ∈ wsL_law := wc_37 _ (List.mem_of_getElem? (i := 5) rfl)
theorem w_870 : Cond.instanceMethod yX8_isAt ∈ wsL_law := wc_37 _ (List.mem_of_getElem? (i := 6) rfl)
theorem w_871 : Cond.selects RX8 yX8_isAt yX8_isAt ∈ wsL_law := wc_37 _ (List.mem_of_getElem? (i := 7) rfl)
theorem w_872 : Cond.code yX8_isAt cX8_isAt 4 (some .boolean) ∈ wsL_law := wc_37 _ (List.mem_of_getElem? (i := 8) rfl)
theorem w_873 : Cond.methodLink RX8 239 yX8_isMore ∈ wsL_law := wc_37 _ (List.mem_of_getElem? (i := 9) rfl)
theorem w_874 : Cond.instanceMethod yX8_isMore ∈ wsL_law := wc_37 _ (List.mem_of_getElem? (i := 10) rfl)
theorem w_875 : Cond.selects RX8 yX8_isMore yX8_isMore ∈ wsL_law := wc_37 _ (List.mem_of_getElem? (i := 11) rfl)
theorem w_876 : Cond.code yX8_isMore cX8_isMore 6 (some .boolean) ∈ wsL_law := wc_37 _ (List.mem_of_getElem? (i := 12) rfl)
theorem w_877 : Cond.methodLink RX8 246 yX8_figure ∈ wsL_law := wc_37 _ (List.mem_of_getElem? (i := 13) rfl)
theorem w_878 : Cond.instanceMethod yX8_figure ∈ wsL_law := wc_37 _ (List.mem_of_getElem? (i := 14) rfl)
theorem w_879 : Cond.selects RX8 yX8_figure yX8_figure ∈ wsL_law := wc_37 _ (List.mem_of_getElem? (i := 15) rfl)
theorem w_880 : Cond.code yX8_figure cX8_figure 4 (some .int) ∈ wsL_law := wc_37 _ (List.mem_of_getElem? (i := 16) rfl)
theorem w_881 : Cond.methodLink RX8 252 yX8_takes ∈ wsL_law := wc_37 _ (List.mem_of_getElem? (i := 17) rfl)
theorem w_882 : Cond.instanceMethod yX8_takes ∈ wsL_law := wc_37 _ (List.mem_of_getElem? (i := 18) rfl)
theorem w_883 : Cond.selects RX8 yX8_takes yX8_takes ∈ wsL_law := wc_37 _ (List.mem_of_getElem? (i := 19) rfl)
theorem w_884 : Cond.code yX8_takes cX8_takes 3 (some .boolean) ∈ wsL_law := wc_37 _ (List.mem_of_getElem? (i := 20) rfl)
theorem w_885 : Cond.methodLink RX8 255 yX8_readsBook ∈ wsL_law := wc_37 _ (List.mem_of_getElem? (i := 21) rfl)
theorem w_886 : Cond.instanceMethod yX8_readsBook ∈ wsL_law := wc_37 _ (List.mem_of_getElem? (i := 22) rfl)
theorem w_887 : Cond.selects RX8 yX8_readsBook yX8_readsBook ∈ wsL_law := wc_37 _ (List.mem_of_getElem? (i := 23) rfl)
theorem w_888 : Cond.code yX8_readsBook cX8_readsBook 2 (some .boolean) ∈ wsL_law := wc_38 _ (List.mem_of_getElem? (i := 0) rfl)
theorem w_889 : Cond.constantLong RX8 242 (97) ∈ wsL_law := wc_38 _ (List.mem_of_getElem? (i := 1) rfl)
theorem w_890 : Cond.constantLong RX8 244 (116) ∈ wsL_law := wc_38 _ (List.mem_of_getElem? (i := 2) rfl)
theorem w_891 : Cond.methodLink RX8 258 yX8_readsPair ∈ wsL_law := wc_38 _ (List.mem_of_getElem? (i := 3) rfl)
theorem w_892 : Cond.instanceMethod yX8_readsPair ∈ wsL_law := wc_38 _ (List.mem_of_getElem? (i := 4) rfl)
theorem w_893 : Cond.selects RX8 yX8_readsPair yX8_readsPair ∈ wsL_law := wc_38 _ (List.mem_of_getElem? (i := 5) rfl)
theorem w_894 : Cond.code yX8_readsPair cX8_readsPair 3 (some .boolean) ∈ wsL_law := wc_38 _ (List.mem_of_getElem? (i := 6) rfl)
theorem w_895 : Cond.methodLink RL 93 yX7_drift ∈ wsL_law := wc_38 _ (List.mem_of_getElem? (i := 7) rfl)
theorem w_896 : Cond.instanceMethod yX7_drift ∈ wsL_law := wc_38 _ (List.mem_of_getElem? (i := 8) rfl)
theorem w_897 : Cond.selects RX7 yX7_drift yX7_drift ∈ wsL_law := wc_38 _ (List.mem_of_getElem? (i := 9) rfl)
theorem w_898 : Cond.code yX7_drift cX7_drift 3 (some .int) ∈ wsL_law := wc_38 _ (List.mem_of_getElem? (i := 10) rfl)
theorem w_899 : Cond.methodLink RX7 245 yX7_takeTurn ∈ wsL_law := wc_38 _ (List.mem_of_getElem? (i := 11) rfl)
theorem w_900 : Cond.instanceMethod yX7_takeTurn ∈ wsL_law := wc_38 _ (List.mem_of_getElem? (i := 12) rfl)
theorem w_901 : Cond.selects RX7 yX7_takeTurn yX7_takeTurn ∈ wsL_law := wc_38 _ (List.mem_of_getElem? (i := 13) rfl)
theorem w_902 : Cond.code yX7_takeTurn cX7_takeTurn 5 none ∈ wsL_law := wc_38 _ (List.mem_of_getElem? (i := 14) rfl)
theorem w_903 : Cond.fieldLink RX7 251 "ReadingStages$State" "draw" "I" ∈ wsL_law := wc_38 _ (List.mem_of_getElem? (i := 15) rfl)
theorem w_904 : Cond.constant RX7 308 (65536) ∈ wsL_law := wc_38 _ (List.mem_of_getElem? (i := 16) rfl)
theorem w_905 : Cond.constant RX7 309 (1048576) ∈ wsL_law := wc_38 _ (List.mem_of_getElem? (i := 17) rfl)
theorem w_906 : Cond.methodLink RX7 305 yX6_goOn ∈ wsL_law := wc_38 _ (List.mem_of_getElem? (i := 18) rfl)
theorem w_907 : Cond.instanceMethod yX6_goOn ∈ wsL_law := wc_38 _ (List.mem_of_getElem? (i := 19) rfl)
theorem w_908 : Cond.selects RX6 yX6_goOn yX6_goOn ∈ wsL_law := wc_38 _ (List.mem_of_getElem? (i := 20) rfl)
theorem w_909 : Cond.code yX6_goOn cX6_goOn 1 none ∈ wsL_law := wc_38 _ (List.mem_of_getElem? (i := 21) rfl)
theorem w_910 : Cond.constant RX6 46 (1103515245) ∈ wsL_law := wc_38 _ (List.mem_of_getElem? (i := 22) rfl)
theorem w_911 : Cond.constant RX6 47 (2147483647) ∈ wsL_law := wc_38 _ (List.mem_of_getElem? (i := 23) rfl)
theorem w_912 : Cond.methodLink RL 96 yX8_drift ∈ wsL_law := wc_39 _ (List.mem_of_getElem? (i := 0) rfl)
theorem w_913 : Cond.instanceMethod yX8_drift ∈ wsL_law := wc_39 _ (List.mem_of_getElem? (i := 1) rfl)
theorem w_914 : Cond.selects RX8 yX8_drift yX8_drift ∈ wsL_law := wc_39 _ (List.mem_of_getElem? (i := 2) rfl)
theorem w_915 : Cond.code yX8_drift cX8_drift 5 (some .int) ∈ wsL_law := wc_39 _ (List.mem_of_getElem? (i := 3) rfl)
theorem w_916 : Cond.constantLong RX8 270 (40) ∈ wsL_law := wc_39 _ (List.mem_of_getElem? (i := 4) rfl)
theorem w_917 : Cond.constant RX8 272 (65536) ∈ wsL_law := wc_39 _ (List.mem_of_getElem? (i := 5) rfl)
theorem w_918 : Cond.constant RX8 276 (1048576) ∈ wsL_law := wc_39 _ (List.mem_of_getElem? (i := 6) rfl)
theorem w_919 : Cond.fieldLink RX8 280 "ReadingStagesModel" "lastTold" "I" ∈ wsL_law := wc_39 _ (List.mem_of_getElem? (i := 7) rfl)
theorem w_920 : Cond.methodLink RX8 273 yX8_draws ∈ wsL_law := wc_39 _ (List.mem_of_getElem? (i := 8) rfl)
theorem w_921 : Cond.instanceMethod yX8_draws ∈ wsL_law := wc_39 _ (List.mem_of_getElem? (i := 9) rfl)
theorem w_922 : Cond.selects RX8 yX8_draws yX8_draws ∈ wsL_law := wc_39 _ (List.mem_of_getElem? (i := 10) rfl)
theorem w_923 : Cond.code yX8_draws cX8_draws 2 (some .int) ∈ wsL_law := wc_39 _ (List.mem_of_getElem? (i := 11) rfl)
theorem w_924 : Cond.constantLong RX8 264 (1103515245) ∈ wsL_law := wc_39 _ (List.mem_of_getElem? (i := 12) rfl)
theorem w_925 : Cond.constantLong RX8 266 (12345) ∈ wsL_law := wc_39 _ (List.mem_of_getElem? (i := 13) rfl)
theorem w_926 : Cond.constantLong RX8 268 (2147483647) ∈ wsL_law := wc_39 _ (List.mem_of_getElem? (i := 14) rfl)
theorem w_927 : Cond.methodLink RX8 277 yX8_does ∈ wsL_law := wc_39 _ (List.mem_of_getElem? (i := 15) rfl)
theorem w_928 : Cond.instanceMethod yX8_does ∈ wsL_law := wc_39 _ (List.mem_of_getElem? (i := 16) rfl)
theorem w_929 : Cond.selects RX8 yX8_does yX8_does ∈ wsL_law := wc_39 _ (List.mem_of_getElem? (i := 17) rfl)
theorem w_930 : Cond.code yX8_does cX8_does 5 (some .int) ∈ wsL_law := wc_39 _ (List.mem_of_getElem? (i := 18) rfl)
theorem w_931 : Cond.methodLink RL 97 yX7_undo ∈ wsL_law := wc_39 _ (List.mem_of_getElem? (i := 19) rfl)
theorem w_932 : Cond.instanceMethod yX7_undo ∈ wsL_law := wc_39 _ (List.mem_of_getElem? (i := 20) rfl)
theorem w_933 : Cond.selects RX7 yX7_undo yX7_undo ∈ wsL_law := wc_39 _ (List.mem_of_getElem? (i := 21) rfl)
theorem w_934 : Cond.code yX7_undo cX7_undo 1 (some .int) ∈ wsL_law := wc_39 _ (List.mem_of_getElem? (i := 22) rfl)
theorem w_935 : Cond.methodLink RX7 248 yX2_bringBack ∈ wsL_law := wc_39 _ (List.mem_of_getElem? (i := 23) rfl)
theorem w_936 : Cond.instanceMethod yX2_bringBack ∈ wsL_law := wc_40 _ (List.mem_of_getElem? (i := 0) rfl)
theorem w_937 : Cond.selects RX2 yX2_bringBack yX2_bringBack ∈ wsL_law := wc_40 _ (List.mem_of_getElem? (i := 1) rfl)
theorem w_938 : Cond.code yX2_bringBack cX2_bringBack 2 (some .boolean) ∈ wsL_law := wc_40 _ (List.mem_of_getElem? (i := 2) rfl)
theorem w_939 : Cond.methodLink RL 100 yX8_undo ∈ wsL_law := wc_40 _ (List.mem_of_getElem? (i := 3) rfl)
theorem w_940 : Cond.instanceMethod yX8_undo ∈ wsL_law := wc_40 _ (List.mem_of_getElem? (i := 4) rfl)
theorem w_941 : Cond.selects RX8 yX8_undo yX8_undo ∈ wsL_law := wc_40 _ (List.mem_of_getElem? (i := 5) rfl)
theorem w_942 : Cond.code yX8_undo cX8_undo 2 (some .int) ∈ wsL_law := wc_40 _ (List.mem_of_getElem? (i := 6) rfl)
theorem w_943 : Cond.methodLink RL 101 yX7_seed ∈ wsL_law := wc_40 _ (List.mem_of_getElem? (i := 7) rfl)
theorem w_944 : Cond.instanceMethod yX7_seed ∈ wsL_law := wc_40 _ (List.mem_of_getElem? (i := 8) rfl)
theorem w_945 : Cond.selects RX7 yX7_seed yX7_seed ∈ wsL_law := wc_40 _ (List.mem_of_getElem? (i := 9) rfl)
theorem w_946 : Cond.code yX7_seed cX7_seed 3 (some .int) ∈ wsL_law := wc_40 _ (List.mem_of_getElem? (i := 10) rfl)
theorem w_947 : Cond.methodLink RL 104 yX8_seed ∈ wsL_law := wc_40 _ (List.mem_of_getElem? (i := 11) rfl)
theorem w_948 : Cond.instanceMethod yX8_seed ∈ wsL_law := wc_40 _ (List.mem_of_getElem? (i := 12) rfl)
theorem w_949 : Cond.selects RX8 yX8_seed yX8_seed ∈ wsL_law := wc_40 _ (List.mem_of_getElem? (i := 13) rfl)
theorem w_950 : Cond.code yX8_seed cX8_seed 3 (some .int) ∈ wsL_law := wc_40 _ (List.mem_of_getElem? (i := 14) rfl)
theorem w_951 : Cond.methodLink RL 105 yX7_image ∈ wsL_law := wc_40 _ (List.mem_of_getElem? (i := 15) rfl)
theorem w_952 : Cond.instanceMethod yX7_image ∈ wsL_law := wc_40 _ (List.mem_of_getElem? (i := 16) rfl)
theorem w_953 : Cond.selects RX7 yX7_image yX7_image ∈ wsL_law := wc_40 _ (List.mem_of_getElem? (i := 17) rfl)
theorem w_954 : Cond.code yX7_image cX7_image 1 (some .int) ∈ wsL_law := wc_40 _ (List.mem_of_getElem? (i := 18) rfl)
theorem w_955 : Cond.fieldLink RX7 257 "ReadingStages" "hasImage" "Z" ∈ wsL_law := wc_40 _ (List.mem_of_getElem? (i := 19) rfl)
theorem w_956 : Cond.methodLink RX7 254 yX2_takeFrom ∈ wsL_law := wc_40 _ (List.mem_of_getElem? (i := 20) rfl)
theorem w_957 : Cond.instanceMethod yX2_takeFrom ∈ wsL_law := wc_40 _ (List.mem_of_getElem? (i := 21) rfl)
theorem w_958 : Cond.selects RX2 yX2_takeFrom yX2_takeFrom ∈ wsL_law := wc_40 _ (List.mem_of_getElem? (i := 22) rfl)
theorem w_959 : Cond.code yX2_takeFrom cX2_takeFrom 3 none ∈ wsL_law := wc_40 _ (List.mem_of_getElem? (i := 23) rfl)
theorem w_960 : Cond.methodLink RL 108 yX8_image ∈ wsL_law := wc_41 _ (List.mem_of_getElem? (i := 0) rfl)
theorem w_961 : Cond.instanceMethod yX8_image ∈ wsL_law := wc_41 _ (List.mem_of_getElem? (i := 1) rfl)
theorem w_962 : Cond.selects RX8 yX8_image yX8_image ∈ wsL_law := wc_41 _ (List.mem_of_getElem? (i := 2) rfl)
theorem w_963 : Cond.code yX8_image cX8_image 2 (some .int) ∈ wsL_law := wc_41 _ (List.mem_of_getElem? (i := 3) rfl)
theorem w_964 : Cond.methodLink RL 109 yX7_restore ∈ wsL_law := wc_41 _ (List.mem_of_getElem? (i := 4) rfl)
theorem w_965 : Cond.instanceMethod yX7_restore ∈ wsL_law := wc_41 _ (List.mem_of_getElem? (i := 5) rfl)
theorem w_966 : Cond.selects RX7 yX7_restore yX7_restore ∈ wsL_law := wc_41 _ (List.mem_of_getElem? (i := 6) rfl)
theorem w_967 : Cond.code yX7_restore cX7_restore 1 (some .int) ∈ wsL_law := wc_41 _ (List.mem_of_getElem? (i := 7) rfl)
theorem w_968 : Cond.methodLink RL 112 yX8_restore ∈ wsL_law := wc_41 _ (List.mem_of_getElem? (i := 8) rfl)
theorem w_969 : Cond.instanceMethod yX8_restore ∈ wsL_law := wc_41 _ (List.mem_of_getElem? (i := 9) rfl)
theorem w_970 : Cond.selects RX8 yX8_restore yX8_restore ∈ wsL_law := wc_41 _ (List.mem_of_getElem? (i := 10) rfl)
theorem w_971 : Cond.code yX8_restore cX8_restore 2 (some .int) ∈ wsL_law := wc_41 _ (List.mem_of_getElem? (i := 11) rfl)
theorem w_972 : Cond.methodLink RL 113 yX7_seen ∈ wsL_law := wc_41 _ (List.mem_of_getElem? (i := 12) rfl)
theorem w_973 : Cond.instanceMethod yX7_seen ∈ wsL_law := wc_41 _ (List.mem_of_getElem? (i := 13) rfl)
theorem w_974 : Cond.selects RX7 yX7_seen yX7_seen ∈ wsL_law := wc_41 _ (List.mem_of_getElem? (i := 14) rfl)
theorem w_975 : Cond.code yX7_seen cX7_seen 8 (some .int) ∈ wsL_law := wc_41 _ (List.mem_of_getElem? (i := 15) rfl)
theorem w_976 : Cond.fieldLink RX7 268 "ReadingStages$Sheet" "items" "[J" ∈ wsL_law := wc_41 _ (List.mem_of_getElem? (i := 16) rfl)
theorem w_977 : Cond.constantLong RX7 272 (20) ∈ wsL_law := wc_41 _ (List.mem_of_getElem? (i := 17) rfl)
theorem w_978 : Cond.methodLink RX7 261 yX7_faultOfRow ∈ wsL_law := wc_41 _ (List.mem_of_getElem? (i := 18) rfl)
theorem w_979 : Cond.instanceMethod yX7_faultOfRow ∈ wsL_law := wc_41 _ (List.mem_of_getElem? (i := 19) rfl)
theorem w_980 : Cond.selects RX7 yX7_faultOfRow yX7_faultOfRow ∈ wsL_law := wc_41 _ (List.mem_of_getElem? (i := 20) rfl)
theorem w_981 : Cond.code yX7_faultOfRow cX7_faultOfRow 5 (some .int) ∈ wsL_law := wc_41 _ (List.mem_of_getElem? (i := 21) rfl)
theorem w_982 : Cond.fieldLink RX7 291 "ReadingStages$Sheet" "lane" "I" ∈ wsL_law := wc_41 _ (List.mem_of_getElem? (i := 22) rfl)
theorem w_983 : Cond.methodLink RX7 282 yX7_isSheet ∈ wsL_law := wc_41 _ (List.mem_of_getElem? (i := 23) rfl)
theorem w_984 : Cond.static yX7_isSheet ∈ wsL_law := wc_42 _ (List.mem_of_getElem? (i := 0) rfl)
theorem w_985 : Cond.code yX7_isSheet cX7_isSheet 1 (some .boolean) ∈ wsL_law := wc_42 _ (List.mem_of_getElem? (i := 1) rfl)
theorem w_986 : Cond.methodLink RX7 285 yX7_isLane ∈ wsL_law := wc_42 _ (List.mem_of_getElem? (i := 2) rfl)
theorem w_987 : Cond.static yX7_isLane ∈ wsL_law := wc_42 _ (List.mem_of_getElem? (i := 3) rfl)
theorem w_988 : Cond.code yX7_isLane cX7_isLane 1 (some .boolean) ∈ wsL_law := wc_42 _ (List.mem_of_getElem? (i := 4) rfl)
theorem w_989 : Cond.methodLink RX7 295 yX5_has ∈ wsL_law := wc_42 _ (List.mem_of_getElem? (i := 5) rfl)
theorem w_990 : Cond.instanceMethod yX5_has ∈ wsL_law := wc_42 _ (List.mem_of_getElem? (i := 6) rfl)
theorem w_991 : Cond.selects RX5 yX5_has yX5_has ∈ wsL_law := wc_42 _ (List.mem_of_getElem? (i := 7) rfl)
theorem w_992 : Cond.code yX5_has cX5_has 3 (some .boolean) ∈ wsL_law := wc_42 _ (List.mem_of_getElem? (i := 8) rfl)
theorem w_993 : Cond.fieldLink RX5 19 "ReadingStages$Sheet" "size" "I" ∈ wsL_law := wc_42 _ (List.mem_of_getElem? (i := 9) rfl)
theorem w_994 : Cond.methodLink RX7 265 yX4_forgetLeaders ∈ wsL_law := wc_42 _ (List.mem_of_getElem? (i := 10) rfl)
theorem w_995 : Cond.instanceMethod yX4_forgetLeaders ∈ wsL_law := wc_42 _ (List.mem_of_getElem? (i := 11) rfl)
theorem w_996 : Cond.selects RX4 yX4_forgetLeaders yX4_forgetLeaders ∈ wsL_law := wc_42 _ (List.mem_of_getElem? (i := 12) rfl)
theorem w_997 : Cond.code yX4_forgetLeaders cX4_forgetLeaders 2 none ∈ wsL_law := wc_42 _ (List.mem_of_getElem? (i := 13) rfl)
theorem w_998 : Cond.methodLink RX7 274 yX4_wantFresh ∈ wsL_law := wc_42 _ (List.mem_of_getElem? (i := 14) rfl)
theorem w_999 : Cond.instanceMethod yX4_wantFresh ∈ wsL_law := wc_42 _ (List.mem_of_getElem? (i := 15) rfl)
theorem w_1000 : Cond.selects RX4 yX4_wantFresh yX4_wantFresh ∈ wsL_law := wc_42 _ (List.mem_of_getElem? (i := 16) rfl)
theorem w_1001 : Cond.code yX4_wantFresh cX4_wantFresh 3 none ∈ wsL_law := wc_42 _ (List.mem_of_getElem? (i := 17) rfl)
theorem w_1002 : Cond.methodLink RL 116 yX8_seen ∈ wsL_law := wc_42 _ (List.mem_of_getElem? (i := 18) rfl)
theorem w_1003 : Cond.instanceMethod yX8_seen ∈ wsL_law := wc_42 _ (List.mem_of_getElem? (i := 19) rfl)
theorem w_1004 : Cond.selects RX8 yX8_seen yX8_seen ∈ wsL_law := wc_42 _ (List.mem_of_getElem? (i := 20) rfl)
theorem w_1005 : Cond.code yX8_seen cX8_seen 10 (some .int) ∈ wsL_law := wc_42 _ (List.mem_of_getElem? (i := 21) rfl)
theorem w_1006 : Cond.constantLong RX8 283 (3) ∈ wsL_law := wc_42 _ (List.mem_of_getElem? (i := 22) rfl)
theorem w_1007 : Cond.methodLink RX8 285 yX8_isSheet ∈ wsL_law := wc_42 _ (List.mem_of_getElem? (i := 23) rfl)
theorem w_1008 : Cond.static yX8_isSheet ∈ wsL_law := wc_43 _ (List.mem_of_getElem? (i := 0) rfl)
theorem w_1009 : Cond.code yX8_isSheet cX8_isSheet 1 (some .boolean) ∈ wsL_law := wc_43 _ (List.mem_of_getElem? (i := 1) rfl)
theorem w_1010 : Cond.methodLink RX8 288 yX8_found ∈ wsL_law := wc_43 _ (List.mem_of_getElem? (i := 2) rfl)
theorem w_1011 : Cond.instanceMethod yX8_found ∈ wsL_law := wc_43 _ (List.mem_of_getElem? (i := 3) rfl)
theorem w_1012 : Cond.selects RX8 yX8_found yX8_found ∈ wsL_law := wc_43 _ (List.mem_of_getElem? (i := 4) rfl)
theorem w_1013 : Cond.code yX8_found cX8_found 5 (some .int) ∈ wsL_law := wc_43 _ (List.mem_of_getElem? (i := 5) rfl)
theorem w_1014 : Cond.methodLink RL 117 yX7_film ∈ wsL_law := wc_43 _ (List.mem_of_getElem? (i := 6) rfl)
theorem w_1015 : Cond.instanceMethod yX7_film ∈ wsL_law := wc_43 _ (List.mem_of_getElem? (i := 7) rfl)
theorem w_1016 : Cond.selects RX7 yX7_film yX7_film ∈ wsL_law := wc_43 _ (List.mem_of_getElem? (i := 8) rfl)
theorem w_1017 : Cond.code yX7_film cX7_film 6 (some .int) ∈ wsL_law := wc_43 _ (List.mem_of_getElem? (i := 9) rfl)
theorem w_1018 : Cond.methodLink RX7 278 yX5_put ∈ wsL_law := wc_43 _ (List.mem_of_getElem? (i := 10) rfl)
theorem w_1019 : Cond.instanceMethod yX5_put ∈ wsL_law := wc_43 _ (List.mem_of_getElem? (i := 11) rfl)
theorem w_1020 : Cond.selects RX5 yX5_put yX5_put ∈ wsL_law := wc_43 _ (List.mem_of_getElem? (i := 12) rfl)
theorem w_1021 : Cond.code yX5_put cX5_put 4 none ∈ wsL_law := wc_43 _ (List.mem_of_getElem? (i := 13) rfl)
theorem w_1022 : Cond.methodLink RX5 22 yX5_cut ∈ wsL_law := wc_43 _ (List.mem_of_getElem? (i := 14) rfl)
theorem w_1023 : Cond.instanceMethod yX5_cut ∈ wsL_law := wc_43 _ (List.mem_of_getElem? (i := 15) rfl)
theorem w_1024 : Cond.selects RX5 yX5_cut yX5_cut ∈ wsL_law := wc_43 _ (List.mem_of_getElem? (i := 16) rfl)
theorem w_1025 : Cond.code yX5_cut cX5_cut 3 (some .long) ∈ wsL_law := wc_43 _ (List.mem_of_getElem? (i := 17) rfl)
theorem w_1026 : Cond.methodLink RL 120 yX8_film ∈ wsL_law := wc_43 _ (List.mem_of_getElem? (i := 18) rfl)
theorem w_1027 : Cond.instanceMethod yX8_film ∈ wsL_law := wc_43 _ (List.mem_of_getElem? (i := 19) rfl)
theorem w_1028 : Cond.selects RX8 yX8_film yX8_film ∈ wsL_law := wc_43 _ (List.mem_of_getElem? (i := 20) rfl)
theorem w_1029 : Cond.code yX8_film cX8_film 6 (some .int) ∈ wsL_law := wc_43 _ (List.mem_of_getElem? (i := 21) rfl)
theorem w_1030 : Cond.methodLink RL 121 yX7_sheet ∈ wsL_law := wc_43 _ (List.mem_of_getElem? (i := 22) rfl)
theorem w_1031 : Cond.instanceMethod yX7_sheet ∈ wsL_law := wc_43 _ (List.mem_of_getElem? (i := 23) rfl)
theorem w_1032 : Cond.selects RX7 yX7_sheet yX7_sheet ∈ wsL_law := wc_44 _ (List.mem_of_getElem? (i := 0) rfl)
theorem w_1033 : Cond.code yX7_sheet cX7_sheet 4 (some .int) ∈ wsL_law := wc_44 _ (List.mem_of_getElem? (i := 1) rfl)
theorem w_1034 : Cond.methodLink RX7 288 yX5_renew ∈ wsL_law := wc_44 _ (List.mem_of_getElem? (i := 2) rfl)
theorem w_1035 : Cond.instanceMethod yX5_renew ∈ wsL_law := wc_44 _ (List.mem_of_getElem? (i := 3) rfl)
theorem w_1036 : Cond.selects RX5 yX5_renew yX5_renew ∈ wsL_law := wc_44 _ (List.mem_of_getElem? (i := 4) rfl)
theorem w_1037 : Cond.code yX5_renew cX5_renew 4 none ∈ wsL_law := wc_44 _ (List.mem_of_getElem? (i := 5) rfl)
theorem w_1038 : Cond.methodLink RL 124 yX8_sheet ∈ wsL_law := wc_44 _ (List.mem_of_getElem? (i := 6) rfl)
theorem w_1039 : Cond.instanceMethod yX8_sheet ∈ wsL_law := wc_44 _ (List.mem_of_getElem? (i := 7) rfl)
theorem w_1040 : Cond.selects RX8 yX8_sheet yX8_sheet ∈ wsL_law := wc_44 _ (List.mem_of_getElem? (i := 8) rfl)
theorem w_1041 : Cond.code yX8_sheet cX8_sheet 5 (some .int) ∈ wsL_law := wc_44 _ (List.mem_of_getElem? (i := 9) rfl)
theorem w_1042 : Cond.methodLink RL 125 yX7_drop ∈ wsL_law := wc_44 _ (List.mem_of_getElem? (i := 10) rfl)
theorem w_1043 : Cond.instanceMethod yX7_drop ∈ wsL_law := wc_44 _ (List.mem_of_getElem? (i := 11) rfl)
theorem w_1044 : Cond.selects RX7 yX7_drop yX7_drop ∈ wsL_law := wc_44 _ (List.mem_of_getElem? (i := 12) rfl)
theorem w_1045 : Cond.code yX7_drop cX7_drop 3 (some .int) ∈ wsL_law := wc_44 _ (List.mem_of_getElem? (i := 13) rfl)
theorem w_1046 : Cond.fieldLink RX7 294 "ReadingStages$Sheet" "size" "I" ∈ wsL_law := wc_44 _ (List.mem_of_getElem? (i := 14) rfl)
theorem w_1047 : Cond.methodLink RL 128 yX8_drop ∈ wsL_law := wc_44 _ (List.mem_of_getElem? (i := 15) rfl)
theorem w_1048 : Cond.instanceMethod yX8_drop ∈ wsL_law := wc_44 _ (List.mem_of_getElem? (i := 16) rfl)
theorem w_1049 : Cond.selects RX8 yX8_drop yX8_drop ∈ wsL_law := wc_44 _ (List.mem_of_getElem? (i := 17) rfl)
theorem w_1050 : Cond.code yX8_drop cX8_drop 2 (some .int) ∈ wsL_law := wc_44 _ (List.mem_of_getElem? (i := 18) rfl)
theorem w_1051 : Cond.methodLink RL 131 yX7_item ∈ wsL_law := wc_44 _ (List.mem_of_getElem? (i := 19) rfl)
theorem w_1052 : Cond.instanceMethod yX7_item ∈ wsL_law := wc_44 _ (List.mem_of_getElem? (i := 20) rfl)
theorem w_1053 : Cond.selects RX7 yX7_item yX7_item ∈ wsL_law := wc_44 _ (List.mem_of_getElem? (i := 21) rfl)
theorem w_1054 : Cond.code yX7_item cX7_item 7 (some .int) ∈ wsL_law := wc_44 _ (List.mem_of_getElem? (i := 22) rfl)
theorem w_1055 : Cond.methodLink RL 135 yX8_item ∈ wsL_law := wc_44 _ (List.mem_of_getElem? (i := 23) rfl)
theorem w_1056 : Cond.instanceMethod yX8_item ∈ wsL_law := wc_45 _ (List.mem_of_getElem? (i := 0) rfl)
theorem w_1057 : Cond.selects RX8 yX8_item yX8_item ∈ wsL_law := wc_45 _ (List.mem_of_getElem? (i := 1) rfl)
theorem w_1058 : Cond.code yX8_item cX8_item 7 (some .int) ∈ wsL_law := wc_45 _ (List.mem_of_getElem? (i := 2) rfl)
theorem w_1059 : Cond.methodLink RX8 292 yX8_cut ∈ wsL_law := wc_45 _ (List.mem_of_getElem? (i := 3) rfl)
theorem w_1060 : Cond.static yX8_cut ∈ wsL_law := wc_45 _ (List.mem_of_getElem? (i := 4) rfl)
theorem w_1061 : Cond.code yX8_cut cX8_cut 3 (some .long) ∈ wsL_law := wc_45 _ (List.mem_of_getElem? (i := 5) rfl)
theorem w_1062 : Cond.methodLink RL 136 yX7_copy ∈ wsL_law := wc_45 _ (List.mem_of_getElem? (i := 6) rfl)
theorem w_1063 : Cond.instanceMethod yX7_copy ∈ wsL_law := wc_45 _ (List.mem_of_getElem? (i := 7) rfl)
theorem w_1064 : Cond.selects RX7 yX7_copy yX7_copy ∈ wsL_law := wc_45 _ (List.mem_of_getElem? (i := 8) rfl)
theorem w_1065 : Cond.code yX7_copy cX7_copy 8 (some .int) ∈ wsL_law := wc_45 _ (List.mem_of_getElem? (i := 9) rfl)
theorem w_1066 : Cond.methodLink RX7 299 arraycopyName ∈ wsL_law := wc_45 _ (List.mem_of_getElem? (i := 10) rfl)
theorem w_1067 : Cond.methodLink RL 140 yX8_copy ∈ wsL_law := wc_45 _ (List.mem_of_getElem? (i := 11) rfl)
theorem w_1068 : Cond.instanceMethod yX8_copy ∈ wsL_law := wc_45 _ (List.mem_of_getElem? (i := 12) rfl)
theorem w_1069 : Cond.selects RX8 yX8_copy yX8_copy ∈ wsL_law := wc_45 _ (List.mem_of_getElem? (i := 13) rfl)
theorem w_1070 : Cond.code yX8_copy cX8_copy 7 (some .int) ∈ wsL_law := wc_45 _ (List.mem_of_getElem? (i := 14) rfl)
theorem mt_yJ6_bitCount_0f7a4 : zMth yJ6_bitCount_0f7a4 RJ6 cJ6_bitCount_0f7a4 1 (some .int) 1 := ⟨by decide +kernel, by decide, w_403, w_404⟩
theorem ms_yJ6_bitCount_0f7a4 : Cond.static yJ6_bitCount_0f7a4 ∈ wsL_law := w_402
theorem mt_yX0_add : zMth yX0_add RX0 cX0_add 2 (some .boolean) 1 := ⟨by decide +kernel, by decide, w_30, w_738⟩
theorem mv_yX0_add : Cond.instanceMethod yX0_add ∈ wsL_law ∧ Cond.selects RX0 yX0_add yX0_add ∈ wsL_law := ⟨w_736, w_737⟩
theorem mt_yX0_addNumber : zMth yX0_addNumber RX0 cX0_addNumber 2 none 1 := ⟨by decide +kernel, by decide, w_30, w_743⟩
theorem mv_yX0_addNumber : Cond.instanceMethod yX0_addNumber ∈ wsL_law ∧ Cond.selects RX0 yX0_addNumber yX0_addNumber ∈ wsL_law := ⟨w_741, w_742⟩
theorem mt_yX0_at : zMth yX0_at RX0 cX0_at 2 (some .char) 1 := ⟨by decide +kernel, by decide, w_30, w_748⟩
theorem mv_yX0_at : Cond.instanceMethod yX0_at ∈ wsL_law ∧ Cond.selects RX0 yX0_at yX0_at ∈ wsL_law := ⟨w_746, w_747⟩
theorem mt_yX0_init : zMth yX0_init RX0 cX0_init 2 none 1 := ⟨by decide +kernel, by decide, w_30, w_70⟩
theorem mt_yX1_init : zMth yX1_init RX1 cX1_init 1 none 0 := ⟨by decide +kernel, by decide, w_26, w_62⟩
theorem mt_yX1_isAtEnd : zMth yX1_isAtEnd RX1 cX1_isAtEnd 1 (some .boolean) 0 := ⟨by decide +kernel, by decide, w_26, w_836⟩
theorem mv_yX1_isAtEnd : Cond.instanceMethod yX1_isAtEnd ∈ wsL_law ∧ Cond.selects RX1 yX1_isAtEnd yX1_isAtEnd ∈ wsL_law := ⟨w_834, w_835⟩
theorem mt_yX1_isName : zMth yX1_isName RX1 cX1_isName 5 (some .boolean) 3 := ⟨by decide +kernel, by decide, w_26, w_808⟩
theorem mv_yX1_isName : Cond.instanceMethod yX1_isName ∈ wsL_law ∧ Cond.selects RX1 yX1_isName yX1_isName ∈ wsL_law := ⟨w_806, w_807⟩
theorem mt_yX1_nameOf : zMth yX1_nameOf RX1 cX1_nameOf 1 (some (.object "java/lang/String")) 1 := ⟨by decide +kernel, by decide, w_26, w_804⟩
theorem ms_yX1_nameOf : Cond.static yX1_nameOf ∈ wsL_law := w_803
theorem mt_yX1_next : zMth yX1_next RX1 cX1_next 1 (some .char) 0 := ⟨by decide +kernel, by decide, w_26, w_800⟩
theorem mv_yX1_next : Cond.instanceMethod yX1_next ∈ wsL_law ∧ Cond.selects RX1 yX1_next yX1_next ∈ wsL_law := ⟨w_798, w_799⟩
theorem mt_yX1_nextFigure : zMth yX1_nextFigure RX1 cX1_nextFigure 2 (some .int) 0 := ⟨by decide +kernel, by decide, w_26, w_819⟩
theorem mv_yX1_nextFigure : Cond.instanceMethod yX1_nextFigure ∈ wsL_law ∧ Cond.selects RX1 yX1_nextFigure yX1_nextFigure ∈ wsL_law := ⟨w_817, w_818⟩
theorem mt_yX1_parses : zMth yX1_parses RX1 cX1_parses 3 (some .boolean) 1 := ⟨by decide +kernel, by decide, w_26, w_787⟩
theorem mv_yX1_parses : Cond.instanceMethod yX1_parses ∈ wsL_law ∧ Cond.selects RX1 yX1_parses yX1_parses ∈ wsL_law := ⟨w_785, w_786⟩
theorem mt_yX1_takesBook : zMth yX1_takesBook RX1 cX1_takesBook 2 (some .boolean) 0 := ⟨by decide +kernel, by decide, w_26, w_831⟩
theorem mv_yX1_takesBook : Cond.instanceMethod yX1_takesBook ∈ wsL_law ∧ Cond.selects RX1 yX1_takesBook yX1_takesBook ∈ wsL_law := ⟨w_829, w_830⟩
theorem mt_yX1_takesBooks : zMth yX1_takesBooks RX1 cX1_takesBooks 2 (some .boolean) 0 := ⟨by decide +kernel, by decide, w_26, w_827⟩
theorem mv_yX1_takesBooks : Cond.instanceMethod yX1_takesBooks ∈ wsL_law ∧ Cond.selects RX1 yX1_takesBooks yX1_takesBooks ∈ wsL_law := ⟨w_825, w_826⟩
theorem mt_yX1_takesPair : zMth yX1_takesPair RX1 cX1_takesPair 3 (some .boolean) 0 := ⟨by decide +kernel, by decide, w_26, w_844⟩
theorem mv_yX1_takesPair : Cond.instanceMethod yX1_takesPair ∈ wsL_law ∧ Cond.selects RX1 yX1_takesPair yX1_takesPair ∈ wsL_law := ⟨w_842, w_843⟩
theorem mt_yX1_takesPairs : zMth yX1_takesPairs RX1 cX1_takesPairs 2 (some .boolean) 0 := ⟨by decide +kernel, by decide, w_26, w_840⟩
theorem mv_yX1_takesPairs : Cond.instanceMethod yX1_takesPairs ∈ wsL_law ∧ Cond.selects RX1 yX1_takesPairs yX1_takesPairs ∈ wsL_law := ⟨w_838, w_839⟩
theorem mt_yX1_takesRule : zMth yX1_takesRule RX1 cX1_takesRule 3 (some .boolean) 0 := ⟨by decide +kernel, by decide, w_26, w_794⟩
theorem mv_yX1_takesRule : Cond.instanceMethod yX1_takesRule ∈ wsL_law ∧ Cond.selects RX1 yX1_takesRule yX1_takesRule ∈ wsL_law := ⟨w_792, w_793⟩
theorem mt_yX1_takesSign : zMth yX1_takesSign RX1 cX1_takesSign 2 (some .boolean) 1 := ⟨by decide +kernel, by decide, w_26, w_823⟩
theorem mv_yX1_takesSign : Cond.instanceMethod yX1_takesSign ∈ wsL_law ∧ Cond.selects RX1 yX1_takesSign yX1_takesSign ∈ wsL_law := ⟨w_821, w_822⟩
theorem mt_yX1_takesSpan : zMth yX1_takesSpan RX1 cX1_takesSpan 2 (some .boolean) 0 := ⟨by decide +kernel, by decide, w_26, w_814⟩
theorem mv_yX1_takesSpan : Cond.instanceMethod yX1_takesSpan ∈ wsL_law ∧ Cond.selects RX1 yX1_takesSpan yX1_takesSpan ∈ wsL_law := ⟨w_812, w_813⟩
theorem mt_yX2_bringBack : zMth yX2_bringBack RX2 cX2_bringBack 2 (some .boolean) 1 := ⟨by decide +kernel, by decide, w_20, w_938⟩
theorem mv_yX2_bringBack : Cond.instanceMethod yX2_bringBack ∈ wsL_law ∧ Cond.selects RX2 yX2_bringBack yX2_bringBack ∈ wsL_law := ⟨w_936, w_937⟩
theorem mt_yX2_init : zMth yX2_init RX2 cX2_init 2 none 0 := ⟨by decide +kernel, by decide, w_20, w_57⟩
theorem mt_yX2_keep : zMth yX2_keep RX2 cX2_keep 2 none 1 := ⟨by decide +kernel, by decide, w_20, w_156⟩
theorem mv_yX2_keep : Cond.instanceMethod yX2_keep ∈ wsL_law ∧ Cond.selects RX2 yX2_keep yX2_keep ∈ wsL_law := ⟨w_154, w_155⟩
theorem mt_yX2_loseOldest : zMth yX2_loseOldest RX2 cX2_loseOldest 3 none 0 := ⟨by decide +kernel, by decide, w_20, w_161⟩
theorem mv_yX2_loseOldest : Cond.instanceMethod yX2_loseOldest ∈ wsL_law ∧ Cond.selects RX2 yX2_loseOldest yX2_loseOldest ∈ wsL_law := ⟨w_159, w_160⟩
theorem mt_yX2_takeFrom : zMth yX2_takeFrom RX2 cX2_takeFrom 3 none 1 := ⟨by decide +kernel, by decide, w_20, w_959⟩
theorem mv_yX2_takeFrom : Cond.instanceMethod yX2_takeFrom ∈ wsL_law ∧ Cond.selects RX2 yX2_takeFrom yX2_takeFrom ∈ wsL_law := ⟨w_957, w_958⟩
theorem mt_yX3_begin : zMth yX3_begin RX3 cX3_begin 3 none 1 := ⟨by decide +kernel, by decide, w_34, w_369⟩
theorem mv_yX3_begin : Cond.instanceMethod yX3_begin ∈ wsL_law ∧ Cond.selects RX3 yX3_begin yX3_begin ∈ wsL_law := ⟨w_367, w_368⟩
theorem mt_yX3_factor : zMth yX3_factor RX3 cX3_factor 2 (some .int) 2 := ⟨by decide +kernel, by decide, w_34, w_376⟩
theorem ms_yX3_factor : Cond.static yX3_factor ∈ wsL_law := w_375
theorem mt_yX3_init : zMth yX3_init RX3 cX3_init 1 none 0 := ⟨by decide +kernel, by decide, w_34, w_76⟩
theorem mt_yX3_keepsWordMetAt : zMth yX3_keepsWordMetAt RX3 cX3_keepsWordMetAt 3 (some .boolean) 1 := ⟨by decide +kernel, by decide, w_34, w_665⟩
theorem mv_yX3_keepsWordMetAt : Cond.instanceMethod yX3_keepsWordMetAt ∈ wsL_law ∧ Cond.selects RX3 yX3_keepsWordMetAt yX3_keepsWordMetAt ∈ wsL_law := ⟨w_663, w_664⟩
theorem mt_yX3_knownAhead : zMth yX3_knownAhead RX3 cX3_knownAhead 2 (some .int) 1 := ⟨by decide +kernel, by decide, w_34, w_400⟩
theorem mv_yX3_knownAhead : Cond.instanceMethod yX3_knownAhead ∈ wsL_law ∧ Cond.selects RX3 yX3_knownAhead yX3_knownAhead ∈ wsL_law := ⟨w_398, w_399⟩
theorem mt_yX3_loss : zMth yX3_loss RX3 cX3_loss 3 (some .int) 0 := ⟨by decide +kernel, by decide, w_34, w_429⟩
theorem mv_yX3_loss : Cond.instanceMethod yX3_loss ∈ wsL_law ∧ Cond.selects RX3 yX3_loss yX3_loss ∈ wsL_law := ⟨w_427, w_428⟩
theorem mt_yX3_ofStrength : zMth yX3_ofStrength RX3 cX3_ofStrength 4 (some .int) 4 := ⟨by decide +kernel, by decide, w_34, w_419⟩
theorem ms_yX3_ofStrength : Cond.static yX3_ofStrength ∈ wsL_law := w_418
theorem mt_yX3_peak : zMth yX3_peak RX3 cX3_peak 3 (some .int) 0 := ⟨by decide +kernel, by decide, w_34, w_423⟩
theorem mv_yX3_peak : Cond.instanceMethod yX3_peak ∈ wsL_law ∧ Cond.selects RX3 yX3_peak yX3_peak ∈ wsL_law := ⟨w_421, w_422⟩
theorem mt_yX3_readOrder : zMth yX3_readOrder RX3 cX3_readOrder 3 none 1 := ⟨by decide +kernel, by decide, w_34, w_547⟩
theorem mv_yX3_readOrder : Cond.instanceMethod yX3_readOrder ∈ wsL_law ∧ Cond.selects RX3 yX3_readOrder yX3_readOrder ∈ wsL_law := ⟨w_545, w_546⟩
theorem mt_yX3_step : zMth yX3_step RX3 cX3_step 9 none 2 := ⟨by decide +kernel, by decide, w_34, w_415⟩
theorem mv_yX3_step : Cond.instanceMethod yX3_step ∈ wsL_law ∧ Cond.selects RX3 yX3_step yX3_step ∈ wsL_law := ⟨w_413, w_414⟩
theorem mt_yX3_strengthBehindAll : zMth yX3_strengthBehindAll RX3 cX3_strengthBehindAll 5 (some .int) 1 := ⟨by decide +kernel, by decide, w_34, w_571⟩
theorem mv_yX3_strengthBehindAll : Cond.instanceMethod yX3_strengthBehindAll ∈ wsL_law ∧ Cond.selects RX3 yX3_strengthBehindAll yX3_strengthBehindAll ∈ wsL_law := ⟨w_569, w_570⟩
theorem mt_yX4_forgetLeaders : zMth yX4_forgetLeaders RX4 cX4_forgetLeaders 2 none 0 := ⟨by decide +kernel, by decide, w_38, w_997⟩
theorem mv_yX4_forgetLeaders : Cond.instanceMethod yX4_forgetLeaders ∈ wsL_law ∧ Cond.selects RX4 yX4_forgetLeaders yX4_forgetLeaders ∈ wsL_law := ⟨w_995, w_996⟩
theorem mt_yX4_goThrough : zMth yX4_goThrough RX4 cX4_goThrough 9 none 5 := ⟨by decide +kernel, by decide, w_38, w_440⟩
theorem ms_yX4_goThrough : Cond.static yX4_goThrough ∈ wsL_law := w_439
theorem mt_yX4_grow : zMth yX4_grow RX4 cX4_grow 4 none 0 := ⟨by decide +kernel, by decide, w_38, w_392⟩
theorem mv_yX4_grow : Cond.instanceMethod yX4_grow ∈ wsL_law ∧ Cond.selects RX4 yX4_grow yX4_grow ∈ wsL_law := ⟨w_390, w_391⟩
theorem mt_yX4_init : zMth yX4_init RX4 cX4_init 1 none 0 := ⟨by decide +kernel, by decide, w_38, w_88⟩
theorem mt_yX4_isWanted : zMth yX4_isWanted RX4 cX4_isWanted 3 (some .boolean) 2 := ⟨by decide +kernel, by decide, w_38, w_452⟩
theorem mv_yX4_isWanted : Cond.instanceMethod yX4_isWanted ∈ wsL_law ∧ Cond.selects RX4 yX4_isWanted yX4_isWanted ∈ wsL_law := ⟨w_450, w_451⟩
theorem mt_yX4_keepFound : zMth yX4_keepFound RX4 cX4_keepFound 3 none 2 := ⟨by decide +kernel, by decide, w_38, w_447⟩
theorem mv_yX4_keepFound : Cond.instanceMethod yX4_keepFound ∈ wsL_law ∧ Cond.selects RX4 yX4_keepFound yX4_keepFound ∈ wsL_law := ⟨w_445, w_446⟩
theorem mt_yX4_limitFresh : zMth yX4_limitFresh RX4 cX4_limitFresh 3 none 1 := ⟨by decide +kernel, by decide, w_38, w_388⟩
theorem mv_yX4_limitFresh : Cond.instanceMethod yX4_limitFresh ∈ wsL_law ∧ Cond.selects RX4 yX4_limitFresh yX4_limitFresh ∈ wsL_law := ⟨w_386, w_387⟩
theorem mt_yX4_mayCome : zMth yX4_mayCome RX4 cX4_mayCome 3 (some .boolean) 2 := ⟨by decide +kernel, by decide, w_38, w_411⟩
theorem mv_yX4_mayCome : Cond.instanceMethod yX4_mayCome ∈ wsL_law ∧ Cond.selects RX4 yX4_mayCome yX4_mayCome ∈ wsL_law := ⟨w_409, w_410⟩
theorem mt_yX4_nextGrown : zMth yX4_nextGrown RX4 cX4_nextGrown 11 (some .int) 2 := ⟨by decide +kernel, by decide, w_38, w_396⟩
theorem mv_yX4_nextGrown : Cond.instanceMethod yX4_nextGrown ∈ wsL_law ∧ Cond.selects RX4 yX4_nextGrown yX4_nextGrown ∈ wsL_law := ⟨w_394, w_395⟩
theorem mt_yX4_prepare : zMth yX4_prepare RX4 cX4_prepare 3 none 1 := ⟨by decide +kernel, by decide, w_38, w_358⟩
theorem mv_yX4_prepare : Cond.instanceMethod yX4_prepare ∈ wsL_law ∧ Cond.selects RX4 yX4_prepare yX4_prepare ∈ wsL_law := ⟨w_356, w_357⟩
theorem mt_yX4_seek : zMth yX4_seek RX4 cX4_seek 1 none 0 := ⟨by decide +kernel, by decide, w_38, w_437⟩
theorem mv_yX4_seek : Cond.instanceMethod yX4_seek ∈ wsL_law ∧ Cond.selects RX4 yX4_seek yX4_seek ∈ wsL_law := ⟨w_435, w_436⟩
theorem mt_yX4_seekLeast : zMth yX4_seekLeast RX4 cX4_seekLeast 1 none 0 := ⟨by decide +kernel, by decide, w_38, w_433⟩
theorem mv_yX4_seekLeast : Cond.instanceMethod yX4_seekLeast ∈ wsL_law ∧ Cond.selects RX4 yX4_seekLeast yX4_seekLeast ∈ wsL_law := ⟨w_431, w_432⟩
theorem mt_yX4_wantFresh : zMth yX4_wantFresh RX4 cX4_wantFresh 3 none 2 := ⟨by decide +kernel, by decide, w_38, w_1001⟩
theorem mv_yX4_wantFresh : Cond.instanceMethod yX4_wantFresh ∈ wsL_law ∧ Cond.selects RX4 yX4_wantFresh yX4_wantFresh ∈ wsL_law := ⟨w_999, w_1000⟩
theorem mt_yX5_cut : zMth yX5_cut RX5 cX5_cut 3 (some .long) 1 := ⟨by decide +kernel, by decide, w_43, w_1025⟩
theorem mv_yX5_cut : Cond.instanceMethod yX5_cut ∈ wsL_law ∧ Cond.selects RX5 yX5_cut yX5_cut ∈ wsL_law := ⟨w_1023, w_1024⟩
theorem mt_yX5_has : zMth yX5_has RX5 cX5_has 3 (some .boolean) 2 := ⟨by decide +kernel, by decide, w_43, w_992⟩
theorem mv_yX5_has : Cond.instanceMethod yX5_has ∈ wsL_law ∧ Cond.selects RX5 yX5_has yX5_has ∈ wsL_law := ⟨w_990, w_991⟩
theorem mt_yX5_init : zMth yX5_init RX5 cX5_init 1 none 0 := ⟨by decide +kernel, by decide, w_43, w_99⟩
theorem mt_yX5_put : zMth yX5_put RX5 cX5_put 4 none 2 := ⟨by decide +kernel, by decide, w_43, w_1021⟩
theorem mv_yX5_put : Cond.instanceMethod yX5_put ∈ wsL_law ∧ Cond.selects RX5 yX5_put yX5_put ∈ wsL_law := ⟨w_1019, w_1020⟩
theorem mt_yX5_renew : zMth yX5_renew RX5 cX5_renew 4 none 2 := ⟨by decide +kernel, by decide, w_43, w_1037⟩
theorem mv_yX5_renew : Cond.instanceMethod yX5_renew ∈ wsL_law ∧ Cond.selects RX5 yX5_renew yX5_renew ∈ wsL_law := ⟨w_1035, w_1036⟩
theorem mt_yX6_addBook : zMth yX6_addBook RX6 cX6_addBook 2 (some .int) 1 := ⟨by decide +kernel, by decide, w_15, w_144⟩
theorem mv_yX6_addBook : Cond.instanceMethod yX6_addBook ∈ wsL_law ∧ Cond.selects RX6 yX6_addBook yX6_addBook ∈ wsL_law := ⟨w_142, w_143⟩
theorem mt_yX6_allBehind : zMth yX6_allBehind RX6 cX6_allBehind 5 (some .int) 1 := ⟨by decide +kernel, by decide, w_15, w_266⟩
theorem mv_yX6_allBehind : Cond.instanceMethod yX6_allBehind ∈ wsL_law ∧ Cond.selects RX6 yX6_allBehind yX6_allBehind ∈ wsL_law := ⟨w_264, w_265⟩
theorem mt_yX6_changeBound : zMth yX6_changeBound RX6 cX6_changeBound 3 (some .int) 1 := ⟨by decide +kernel, by decide, w_15, w_313⟩
theorem mv_yX6_changeBound : Cond.instanceMethod yX6_changeBound ∈ wsL_law ∧ Cond.selects RX6 yX6_changeBound yX6_changeBound ∈ wsL_law := ⟨w_311, w_312⟩
theorem mt_yX6_changeOrder : zMth yX6_changeOrder RX6 cX6_changeOrder 3 (some .int) 1 := ⟨by decide +kernel, by decide, w_15, w_456⟩
theorem mv_yX6_changeOrder : Cond.instanceMethod yX6_changeOrder ∈ wsL_law ∧ Cond.selects RX6 yX6_changeOrder yX6_changeOrder ∈ wsL_law := ⟨w_454, w_455⟩
theorem mt_yX6_changePrior : zMth yX6_changePrior RX6 cX6_changePrior 3 (some .int) 1 := ⟨by decide +kernel, by decide, w_15, w_289⟩
theorem mv_yX6_changePrior : Cond.instanceMethod yX6_changePrior ∈ wsL_law ∧ Cond.selects RX6 yX6_changePrior yX6_changePrior ∈ wsL_law := ⟨w_287, w_288⟩
theorem mt_yX6_changeRule : zMth yX6_changeRule RX6 cX6_changeRule 3 (some .int) 1 := ⟨by decide +kernel, by decide, w_15, w_317⟩
theorem mv_yX6_changeRule : Cond.instanceMethod yX6_changeRule ∈ wsL_law ∧ Cond.selects RX6 yX6_changeRule yX6_changeRule ∈ wsL_law := ⟨w_315, w_316⟩
theorem mt_yX6_changeRules : zMth yX6_changeRules RX6 cX6_changeRules 3 (some .int) 2 := ⟨by decide +kernel, by decide, w_15, w_305⟩
theorem mv_yX6_changeRules : Cond.instanceMethod yX6_changeRules ∈ wsL_law ∧ Cond.selects RX6 yX6_changeRules yX6_changeRules ∈ wsL_law := ⟨w_303, w_304⟩
theorem mt_yX6_changeSpan : zMth yX6_changeSpan RX6 cX6_changeSpan 3 (some .int) 1 := ⟨by decide +kernel, by decide, w_15, w_309⟩
theorem mv_yX6_changeSpan : Cond.instanceMethod yX6_changeSpan ∈ wsL_law ∧ Cond.selects RX6 yX6_changeSpan yX6_changeSpan ∈ wsL_law := ⟨w_307, w_308⟩
theorem mt_yX6_changeWords : zMth yX6_changeWords RX6 cX6_changeWords 4 (some .int) 2 := ⟨by decide +kernel, by decide, w_15, w_198⟩
theorem mv_yX6_changeWords : Cond.instanceMethod yX6_changeWords ∈ wsL_law ∧ Cond.selects RX6 yX6_changeWords yX6_changeWords ∈ wsL_law := ⟨w_196, w_197⟩
theorem mt_yX6_closeGap : zMth yX6_closeGap RX6 cX6_closeGap 4 none 2 := ⟨by decide +kernel, by decide, w_15, w_230⟩
theorem mv_yX6_closeGap : Cond.instanceMethod yX6_closeGap ∈ wsL_law ∧ Cond.selects RX6 yX6_closeGap yX6_closeGap ∈ wsL_law := ⟨w_228, w_229⟩
theorem mt_yX6_goOn : zMth yX6_goOn RX6 cX6_goOn 1 none 0 := ⟨by decide +kernel, by decide, w_15, w_909⟩
theorem mv_yX6_goOn : Cond.instanceMethod yX6_goOn ∈ wsL_law ∧ Cond.selects RX6 yX6_goOn yX6_goOn ∈ wsL_law := ⟨w_907, w_908⟩
theorem mt_yX6_holds : zMth yX6_holds RX6 cX6_holds 3 (some .boolean) 0 := ⟨by decide +kernel, by decide, w_15, w_609⟩
theorem mv_yX6_holds : Cond.instanceMethod yX6_holds ∈ wsL_law ∧ Cond.selects RX6 yX6_holds yX6_holds ∈ wsL_law := ⟨w_607, w_608⟩
theorem mt_yX6_init : zMth yX6_init RX6 cX6_init 1 none 0 := ⟨by decide +kernel, by decide, w_15, w_45⟩
theorem mt_yX6_isBook : zMth yX6_isBook RX6 cX6_isBook 2 (some .boolean) 1 := ⟨by decide +kernel, by decide, w_15, w_202⟩
theorem mv_yX6_isBook : Cond.instanceMethod yX6_isBook ∈ wsL_law ∧ Cond.selects RX6 yX6_isBook yX6_isBook ∈ wsL_law := ⟨w_200, w_201⟩
theorem mt_yX6_isSetOfBook : zMth yX6_isSetOfBook RX6 cX6_isSetOfBook 1 (some .boolean) 1 := ⟨by decide +kernel, by decide, w_15, w_147⟩
theorem ms_yX6_isSetOfBook : Cond.static yX6_isSetOfBook ∈ wsL_law := w_146
theorem mt_yX6_leaders : zMth yX6_leaders RX6 cX6_leaders 4 (some .int) 1 := ⟨by decide +kernel, by decide, w_15, w_384⟩
theorem mv_yX6_leaders : Cond.instanceMethod yX6_leaders ∈ wsL_law ∧ Cond.selects RX6 yX6_leaders yX6_leaders ∈ wsL_law := ⟨w_382, w_383⟩
theorem mt_yX6_moveBook : zMth yX6_moveBook RX6 cX6_moveBook 5 (some .int) 2 := ⟨by decide +kernel, by decide, w_15, w_336⟩
theorem mv_yX6_moveBook : Cond.instanceMethod yX6_moveBook ∈ wsL_law ∧ Cond.selects RX6 yX6_moveBook yX6_moveBook ∈ wsL_law := ⟨w_334, w_335⟩
theorem mt_yX6_number : zMth yX6_number RX6 cX6_number 4 (some .int) 1 := ⟨by decide +kernel, by decide, w_15, w_460⟩
theorem mv_yX6_number : Cond.instanceMethod yX6_number ∈ wsL_law ∧ Cond.selects RX6 yX6_number yX6_number ∈ wsL_law := ⟨w_458, w_459⟩
theorem mt_yX6_placeOf : zMth yX6_placeOf RX6 cX6_placeOf 3 (some .int) 1 := ⟨by decide +kernel, by decide, w_15, w_226⟩
theorem mv_yX6_placeOf : Cond.instanceMethod yX6_placeOf ∈ wsL_law ∧ Cond.selects RX6 yX6_placeOf yX6_placeOf ∈ wsL_law := ⟨w_224, w_225⟩
theorem mt_yX6_removeBook : zMth yX6_removeBook RX6 cX6_removeBook 3 (some .int) 1 := ⟨by decide +kernel, by decide, w_15, w_222⟩
theorem mv_yX6_removeBook : Cond.instanceMethod yX6_removeBook ∈ wsL_law ∧ Cond.selects RX6 yX6_removeBook yX6_removeBook ∈ wsL_law := ⟨w_220, w_221⟩
theorem mt_yX6_takeFrom : zMth yX6_takeFrom RX6 cX6_takeFrom 2 none 1 := ⟨by decide +kernel, by decide, w_15, w_134⟩
theorem mv_yX6_takeFrom : Cond.instanceMethod yX6_takeFrom ∈ wsL_law ∧ Cond.selects RX6 yX6_takeFrom yX6_takeFrom ∈ wsL_law := ⟨w_132, w_133⟩
theorem mt_yX6_turnAhead : zMth yX6_turnAhead RX6 cX6_turnAhead 3 (some .int) 2 := ⟨by decide +kernel, by decide, w_15, w_260⟩
theorem mv_yX6_turnAhead : Cond.instanceMethod yX6_turnAhead ∈ wsL_law ∧ Cond.selects RX6 yX6_turnAhead yX6_turnAhead ∈ wsL_law := ⟨w_258, w_259⟩
theorem mt_yX6_withoutBit : zMth yX6_withoutBit RX6 cX6_withoutBit 4 (some .int) 2 := ⟨by decide +kernel, by decide, w_15, w_237⟩
theorem ms_yX6_withoutBit : Cond.static yX6_withoutBit ∈ wsL_law := w_236
theorem mt_yX6_wordsThatCount : zMth yX6_wordsThatCount RX6 cX6_wordsThatCount 2 (some .int) 1 := ⟨by decide +kernel, by decide, w_15, w_380⟩
theorem mv_yX6_wordsThatCount : Cond.instanceMethod yX6_wordsThatCount ∈ wsL_law ∧ Cond.selects RX6 yX6_wordsThatCount yX6_wordsThatCount ∈ wsL_law := ⟨w_378, w_379⟩
theorem mt_yX7_ahead : zMth yX7_ahead RX7 cX7_ahead 3 (some .int) 2 := ⟨by decide +kernel, by decide, w_2, w_256⟩
theorem mv_yX7_ahead : Cond.instanceMethod yX7_ahead ∈ wsL_law ∧ Cond.selects RX7 yX7_ahead yX7_ahead ∈ wsL_law := ⟨w_254, w_255⟩
theorem mt_yX7_best : zMth yX7_best RX7 cX7_best 2 (some .int) 1 := ⟨by decide +kernel, by decide, w_2, w_620⟩
theorem mv_yX7_best : Cond.instanceMethod yX7_best ∈ wsL_law ∧ Cond.selects RX7 yX7_best yX7_best ∈ wsL_law := ⟨w_618, w_619⟩
theorem mt_yX7_book : zMth yX7_book RX7 cX7_book 2 (some .int) 1 := ⟨by decide +kernel, by decide, w_2, w_130⟩
theorem mv_yX7_book : Cond.instanceMethod yX7_book ∈ wsL_law ∧ Cond.selects RX7 yX7_book yX7_book ∈ wsL_law := ⟨w_128, w_129⟩
theorem mt_yX7_copy : zMth yX7_copy RX7 cX7_copy 8 (some .int) 5 := ⟨by decide +kernel, by decide, w_2, w_1065⟩
theorem mv_yX7_copy : Cond.instanceMethod yX7_copy ∈ wsL_law ∧ Cond.selects RX7 yX7_copy yX7_copy ∈ wsL_law := ⟨w_1063, w_1064⟩
theorem mt_yX7_count : zMth yX7_count RX7 cX7_count 2 (some .int) 1 := ⟨by decide +kernel, by decide, w_2, w_595⟩
theorem mv_yX7_count : Cond.instanceMethod yX7_count ∈ wsL_law ∧ Cond.selects RX7 yX7_count yX7_count ∈ wsL_law := ⟨w_593, w_594⟩
theorem mt_yX7_countOfReading : zMth yX7_countOfReading RX7 cX7_countOfReading 3 (some .int) 1 := ⟨by decide +kernel, by decide, w_2, w_605⟩
theorem mv_yX7_countOfReading : Cond.instanceMethod yX7_countOfReading ∈ wsL_law ∧ Cond.selects RX7 yX7_countOfReading yX7_countOfReading ∈ wsL_law := ⟨w_603, w_604⟩
theorem mt_yX7_drift : zMth yX7_drift RX7 cX7_drift 3 (some .int) 1 := ⟨by decide +kernel, by decide, w_2, w_898⟩
theorem mv_yX7_drift : Cond.instanceMethod yX7_drift ∈ wsL_law ∧ Cond.selects RX7 yX7_drift yX7_drift ∈ wsL_law := ⟨w_896, w_897⟩
theorem mt_yX7_drop : zMth yX7_drop RX7 cX7_drop 3 (some .int) 1 := ⟨by decide +kernel, by decide, w_2, w_1045⟩
theorem mv_yX7_drop : Cond.instanceMethod yX7_drop ∈ wsL_law ∧ Cond.selects RX7 yX7_drop yX7_drop ∈ wsL_law := ⟨w_1043, w_1044⟩
theorem mt_yX7_faultOfRow : zMth yX7_faultOfRow RX7 cX7_faultOfRow 5 (some .int) 4 := ⟨by decide +kernel, by decide, w_2, w_981⟩
theorem mv_yX7_faultOfRow : Cond.instanceMethod yX7_faultOfRow ∈ wsL_law ∧ Cond.selects RX7 yX7_faultOfRow yX7_faultOfRow ∈ wsL_law := ⟨w_979, w_980⟩
theorem mt_yX7_film : zMth yX7_film RX7 cX7_film 6 (some .int) 3 := ⟨by decide +kernel, by decide, w_2, w_1017⟩
theorem mv_yX7_film : Cond.instanceMethod yX7_film ∈ wsL_law ∧ Cond.selects RX7 yX7_film yX7_film ∈ wsL_law := ⟨w_1015, w_1016⟩
theorem mt_yX7_firstWith : zMth yX7_firstWith RX7 cX7_firstWith 4 (some .int) 2 := ⟨by decide +kernel, by decide, w_2, w_566⟩
theorem mv_yX7_firstWith : Cond.instanceMethod yX7_firstWith ∈ wsL_law ∧ Cond.selects RX7 yX7_firstWith yX7_firstWith ∈ wsL_law := ⟨w_564, w_565⟩
theorem mt_yX7_fit : zMth yX7_fit RX7 cX7_fit 2 (some .int) 1 := ⟨by decide +kernel, by decide, w_2, w_642⟩
theorem mv_yX7_fit : Cond.instanceMethod yX7_fit ∈ wsL_law ∧ Cond.selects RX7 yX7_fit yX7_fit ∈ wsL_law := ⟨w_640, w_641⟩
theorem mt_yX7_greatestDivisor : zMth yX7_greatestDivisor RX7 cX7_greatestDivisor 6 (some .int) 2 := ⟨by decide +kernel, by decide, w_2, w_671⟩
theorem ms_yX7_greatestDivisor : Cond.static yX7_greatestDivisor ∈ wsL_law := w_670
theorem mt_yX7_hasBit : zMth yX7_hasBit RX7 cX7_hasBit 2 (some .boolean) 2 := ⟨by decide +kernel, by decide, w_2, w_262⟩
theorem ms_yX7_hasBit : Cond.static yX7_hasBit ∈ wsL_law := w_261
theorem mt_yX7_howManyWith : zMth yX7_howManyWith RX7 cX7_howManyWith 5 (some .int) 2 := ⟨by decide +kernel, by decide, w_2, w_575⟩
theorem mv_yX7_howManyWith : Cond.instanceMethod yX7_howManyWith ∈ wsL_law ∧ Cond.selects RX7 yX7_howManyWith yX7_howManyWith ∈ wsL_law := ⟨w_573, w_574⟩
theorem mt_yX7_image : zMth yX7_image RX7 cX7_image 1 (some .int) 0 := ⟨by decide +kernel, by decide, w_2, w_954⟩
theorem mv_yX7_image : Cond.instanceMethod yX7_image ∈ wsL_law ∧ Cond.selects RX7 yX7_image yX7_image ∈ wsL_law := ⟨w_952, w_953⟩
theorem mt_yX7_init : zMth yX7_init RX7 cX7_init 2 none 0 := ⟨by decide +kernel, by decide, w_2, w_9⟩
theorem mt_yX7_isLane : zMth yX7_isLane RX7 cX7_isLane 1 (some .boolean) 1 := ⟨by decide +kernel, by decide, w_2, w_988⟩
theorem ms_yX7_isLane : Cond.static yX7_isLane ∈ wsL_law := w_987
theorem mt_yX7_isSheet : zMth yX7_isSheet RX7 cX7_isSheet 1 (some .boolean) 1 := ⟨by decide +kernel, by decide, w_2, w_985⟩
theorem ms_yX7_isSheet : Cond.static yX7_isSheet ∈ wsL_law := w_984
theorem mt_yX7_item : zMth yX7_item RX7 cX7_item 7 (some .int) 4 := ⟨by decide +kernel, by decide, w_2, w_1054⟩
theorem mv_yX7_item : Cond.instanceMethod yX7_item ∈ wsL_law ∧ Cond.selects RX7 yX7_item yX7_item ∈ wsL_law := ⟨w_1052, w_1053⟩
theorem mt_yX7_kept : zMth yX7_kept RX7 cX7_kept 8 (some .int) 3 := ⟨by decide +kernel, by decide, w_2, w_651⟩
theorem mv_yX7_kept : Cond.instanceMethod yX7_kept ∈ wsL_law ∧ Cond.selects RX7 yX7_kept yX7_kept ∈ wsL_law := ⟨w_649, w_650⟩
theorem mt_yX7_letter : zMth yX7_letter RX7 cX7_letter 2 (some .int) 1 := ⟨by decide +kernel, by decide, w_2, w_680⟩
theorem mv_yX7_letter : Cond.instanceMethod yX7_letter ∈ wsL_law ∧ Cond.selects RX7 yX7_letter yX7_letter ∈ wsL_law := ⟨w_678, w_679⟩
theorem mt_yX7_lose : zMth yX7_lose RX7 cX7_lose 2 (some .int) 1 := ⟨by decide +kernel, by decide, w_2, w_218⟩
theorem mv_yX7_lose : Cond.instanceMethod yX7_lose ∈ wsL_law ∧ Cond.selects RX7 yX7_lose yX7_lose ∈ wsL_law := ⟨w_216, w_217⟩
theorem mt_yX7_many : zMth yX7_many RX7 cX7_many 2 (some .int) 1 := ⟨by decide +kernel, by decide, w_2, w_631⟩
theorem mv_yX7_many : Cond.instanceMethod yX7_many ∈ wsL_law ∧ Cond.selects RX7 yX7_many yX7_many ∈ wsL_law := ⟨w_629, w_630⟩
theorem mt_yX7_move : zMth yX7_move RX7 cX7_move 3 (some .int) 2 := ⟨by decide +kernel, by decide, w_2, w_332⟩
theorem mv_yX7_move : Cond.instanceMethod yX7_move ∈ wsL_law ∧ Cond.selects RX7 yX7_move yX7_move ∈ wsL_law := ⟨w_330, w_331⟩
theorem mt_yX7_place : zMth yX7_place RX7 cX7_place 3 (some .int) 2 := ⟨by decide +kernel, by decide, w_2, w_538⟩
theorem mv_yX7_place : Cond.instanceMethod yX7_place ∈ wsL_law ∧ Cond.selects RX7 yX7_place yX7_place ∈ wsL_law := ⟨w_536, w_537⟩
theorem mt_yX7_placesWith : zMth yX7_placesWith RX7 cX7_placesWith 4 (some .int) 1 := ⟨by decide +kernel, by decide, w_2, w_655⟩
theorem mv_yX7_placesWith : Cond.instanceMethod yX7_placesWith ∈ wsL_law ∧ Cond.selects RX7 yX7_placesWith yX7_placesWith ∈ wsL_law := ⟨w_653, w_654⟩
theorem mt_yX7_power : zMth yX7_power RX7 cX7_power 4 (some .int) 2 := ⟨by decide +kernel, by decide, w_2, w_668⟩
theorem ms_yX7_power : Cond.static yX7_power ∈ wsL_law := w_667
theorem mt_yX7_prior : zMth yX7_prior RX7 cX7_prior 2 (some .int) 1 := ⟨by decide +kernel, by decide, w_2, w_285⟩
theorem mv_yX7_prior : Cond.instanceMethod yX7_prior ∈ wsL_law ∧ Cond.selects RX7 yX7_prior yX7_prior ∈ wsL_law := ⟨w_283, w_284⟩
theorem mt_yX7_read : zMth yX7_read RX7 cX7_read 2 (some .int) 0 := ⟨by decide +kernel, by decide, w_2, w_781⟩
theorem mv_yX7_read : Cond.instanceMethod yX7_read ∈ wsL_law ∧ Cond.selects RX7 yX7_read yX7_read ∈ wsL_law := ⟨w_779, w_780⟩
theorem mt_yX7_remembered : zMth yX7_remembered RX7 cX7_remembered 2 (some .int) 1 := ⟨by decide +kernel, by decide, w_2, w_152⟩
theorem mv_yX7_remembered : Cond.instanceMethod yX7_remembered ∈ wsL_law ∧ Cond.selects RX7 yX7_remembered yX7_remembered ∈ wsL_law := ⟨w_150, w_151⟩
theorem mt_yX7_restore : zMth yX7_restore RX7 cX7_restore 1 (some .int) 0 := ⟨by decide +kernel, by decide, w_2, w_967⟩
theorem mv_yX7_restore : Cond.instanceMethod yX7_restore ∈ wsL_law ∧ Cond.selects RX7 yX7_restore yX7_restore ∈ wsL_law := ⟨w_965, w_966⟩
theorem mt_yX7_seed : zMth yX7_seed RX7 cX7_seed 3 (some .int) 1 := ⟨by decide +kernel, by decide, w_2, w_946⟩
theorem mv_yX7_seed : Cond.instanceMethod yX7_seed ∈ wsL_law ∧ Cond.selects RX7 yX7_seed yX7_seed ∈ wsL_law := ⟨w_944, w_945⟩
theorem mt_yX7_seekBestOrGrown : zMth yX7_seekBestOrGrown RX7 cX7_seekBestOrGrown 2 none 1 := ⟨by decide +kernel, by decide, w_2, w_354⟩
theorem mv_yX7_seekBestOrGrown : Cond.instanceMethod yX7_seekBestOrGrown ∈ wsL_law ∧ Cond.selects RX7 yX7_seekBestOrGrown yX7_seekBestOrGrown ∈ wsL_law := ⟨w_352, w_353⟩
theorem mt_yX7_seen : zMth yX7_seen RX7 cX7_seen 8 (some .int) 3 := ⟨by decide +kernel, by decide, w_2, w_975⟩
theorem mv_yX7_seen : Cond.instanceMethod yX7_seen ∈ wsL_law ∧ Cond.selects RX7 yX7_seen yX7_seen ∈ wsL_law := ⟨w_973, w_974⟩
theorem mt_yX7_settle : zMth yX7_settle RX7 cX7_settle 2 (some .int) 1 := ⟨by decide +kernel, by decide, w_2, w_348⟩
theorem mv_yX7_settle : Cond.instanceMethod yX7_settle ∈ wsL_law ∧ Cond.selects RX7 yX7_settle yX7_settle ∈ wsL_law := ⟨w_346, w_347⟩
theorem mt_yX7_sheet : zMth yX7_sheet RX7 cX7_sheet 4 (some .int) 3 := ⟨by decide +kernel, by decide, w_2, w_1033⟩
theorem mv_yX7_sheet : Cond.instanceMethod yX7_sheet ∈ wsL_law ∧ Cond.selects RX7 yX7_sheet yX7_sheet ∈ wsL_law := ⟨w_1031, w_1032⟩
theorem mt_yX7_takeTurn : zMth yX7_takeTurn RX7 cX7_takeTurn 5 none 0 := ⟨by decide +kernel, by decide, w_2, w_902⟩
theorem mv_yX7_takeTurn : Cond.instanceMethod yX7_takeTurn ∈ wsL_law ∧ Cond.selects RX7 yX7_takeTurn yX7_takeTurn ∈ wsL_law := ⟨w_900, w_901⟩
theorem mt_yX7_tell : zMth yX7_tell RX7 cX7_tell 3 (some .int) 2 := ⟨by decide +kernel, by decide, w_2, w_301⟩
theorem mv_yX7_tell : Cond.instanceMethod yX7_tell ∈ wsL_law ∧ Cond.selects RX7 yX7_tell yX7_tell ∈ wsL_law := ⟨w_299, w_300⟩
theorem mt_yX7_told : zMth yX7_told RX7 cX7_told 3 (some .int) 2 := ⟨by decide +kernel, by decide, w_2, w_584⟩
theorem mv_yX7_told : Cond.instanceMethod yX7_told ∈ wsL_law ∧ Cond.selects RX7 yX7_told yX7_told ∈ wsL_law := ⟨w_582, w_583⟩
theorem mt_yX7_type : zMth yX7_type RX7 cX7_type 2 (some .int) 1 := ⟨by decide +kernel, by decide, w_2, w_769⟩
theorem mv_yX7_type : Cond.instanceMethod yX7_type ∈ wsL_law ∧ Cond.selects RX7 yX7_type yX7_type ∈ wsL_law := ⟨w_767, w_768⟩
theorem mt_yX7_undo : zMth yX7_undo RX7 cX7_undo 1 (some .int) 0 := ⟨by decide +kernel, by decide, w_2, w_934⟩
theorem mv_yX7_undo : Cond.instanceMethod yX7_undo ∈ wsL_law ∧ Cond.selects RX7 yX7_undo yX7_undo ∈ wsL_law := ⟨w_932, w_933⟩
theorem mt_yX7_waysToKeep : zMth yX7_waysToKeep RX7 cX7_waysToKeep 7 (some .int) 2 := ⟨by decide +kernel, by decide, w_2, w_660⟩
theorem mv_yX7_waysToKeep : Cond.instanceMethod yX7_waysToKeep ∈ wsL_law ∧ Cond.selects RX7 yX7_waysToKeep yX7_waysToKeep ∈ wsL_law := ⟨w_658, w_659⟩
theorem mt_yX7_word : zMth yX7_word RX7 cX7_word 3 (some .int) 2 := ⟨by decide +kernel, by decide, w_2, w_561⟩
theorem mv_yX7_word : Cond.instanceMethod yX7_word ∈ wsL_law ∧ Cond.selects RX7 yX7_word yX7_word ∈ wsL_law := ⟨w_559, w_560⟩
theorem mt_yX7_words : zMth yX7_words RX7 cX7_words 3 (some .int) 2 := ⟨by decide +kernel, by decide, w_2, w_194⟩
theorem mv_yX7_words : Cond.instanceMethod yX7_words ∈ wsL_law ∧ Cond.selects RX7 yX7_words yX7_words ∈ wsL_law := ⟨w_192, w_193⟩
theorem mt_yX7_writeNote : zMth yX7_writeNote RX7 cX7_writeNote 2 none 0 := ⟨by decide +kernel, by decide, w_2, w_685⟩
theorem mv_yX7_writeNote : Cond.instanceMethod yX7_writeNote ∈ wsL_law ∧ Cond.selects RX7 yX7_writeNote yX7_writeNote ∈ wsL_law := ⟨w_683, w_684⟩
theorem mt_yX8_acted : zMth yX8_acted RX8 cX8_acted 2 (some .int) 1 := ⟨by decide +kernel, by decide, w_5, w_185⟩
theorem mv_yX8_acted : Cond.instanceMethod yX8_acted ∈ wsL_law ∧ Cond.selects RX8 yX8_acted yX8_acted ∈ wsL_law := ⟨w_183, w_184⟩
theorem mt_yX8_adds : zMth yX8_adds RX8 cX8_adds 3 (some .int) 1 := ⟨by decide +kernel, by decide, w_5, w_174⟩
theorem mv_yX8_adds : Cond.instanceMethod yX8_adds ∈ wsL_law ∧ Cond.selects RX8 yX8_adds yX8_adds ∈ wsL_law := ⟨w_172, w_173⟩
theorem mt_yX8_ahead : zMth yX8_ahead RX8 cX8_ahead 3 (some .int) 2 := ⟨by decide +kernel, by decide, w_5, w_270⟩
theorem mv_yX8_ahead : Cond.instanceMethod yX8_ahead ∈ wsL_law ∧ Cond.selects RX8 yX8_ahead yX8_ahead ∈ wsL_law := ⟨w_268, w_269⟩
theorem mt_yX8_aheadOf : zMth yX8_aheadOf RX8 cX8_aheadOf 4 (some .int) 1 := ⟨by decide +kernel, by decide, w_5, w_534⟩
theorem mv_yX8_aheadOf : Cond.instanceMethod yX8_aheadOf ∈ wsL_law ∧ Cond.selects RX8 yX8_aheadOf yX8_aheadOf ∈ wsL_law := ⟨w_532, w_533⟩
theorem mt_yX8_begins : zMth yX8_begins RX8 cX8_begins 2 none 0 := ⟨by decide +kernel, by decide, w_5, w_499⟩
theorem mv_yX8_begins : Cond.instanceMethod yX8_begins ∈ wsL_law ∧ Cond.selects RX8 yX8_begins yX8_begins ∈ wsL_law := ⟨w_497, w_498⟩
theorem mt_yX8_best : zMth yX8_best RX8 cX8_best 2 (some .int) 1 := ⟨by decide +kernel, by decide, w_5, w_626⟩
theorem mv_yX8_best : Cond.instanceMethod yX8_best ∈ wsL_law ∧ Cond.selects RX8 yX8_best yX8_best ∈ wsL_law := ⟨w_624, w_625⟩
theorem mt_yX8_book : zMth yX8_book RX8 cX8_book 2 (some .int) 1 := ⟨by decide +kernel, by decide, w_5, w_166⟩
theorem mv_yX8_book : Cond.instanceMethod yX8_book ∈ wsL_law ∧ Cond.selects RX8 yX8_book yX8_book ∈ wsL_law := ⟨w_164, w_165⟩
theorem mt_yX8_changes : zMth yX8_changes RX8 cX8_changes 4 (some .int) 2 := ⟨by decide +kernel, by decide, w_5, w_210⟩
theorem mv_yX8_changes : Cond.instanceMethod yX8_changes ∈ wsL_law ∧ Cond.selects RX8 yX8_changes yX8_changes ∈ wsL_law := ⟨w_208, w_209⟩
theorem mt_yX8_comesTo : zMth yX8_comesTo RX8 cX8_comesTo 6 (some .boolean) 2 := ⟨by decide +kernel, by decide, w_5, w_281⟩
theorem mv_yX8_comesTo : Cond.instanceMethod yX8_comesTo ∈ wsL_law ∧ Cond.selects RX8 yX8_comesTo yX8_comesTo ∈ wsL_law := ⟨w_279, w_280⟩
theorem mt_yX8_copy : zMth yX8_copy RX8 cX8_copy 7 (some .int) 5 := ⟨by decide +kernel, by decide, w_5, w_1070⟩
theorem mv_yX8_copy : Cond.instanceMethod yX8_copy ∈ wsL_law ∧ Cond.selects RX8 yX8_copy yX8_copy ∈ wsL_law := ⟨w_1068, w_1069⟩
theorem mt_yX8_count : zMth yX8_count RX8 cX8_count 2 (some .int) 1 := ⟨by decide +kernel, by decide, w_5, w_616⟩
theorem mv_yX8_count : Cond.instanceMethod yX8_count ∈ wsL_law ∧ Cond.selects RX8 yX8_count yX8_count ∈ wsL_law := ⟨w_614, w_615⟩
theorem mt_yX8_cut : zMth yX8_cut RX8 cX8_cut 3 (some .long) 2 := ⟨by decide +kernel, by decide, w_5, w_1061⟩
theorem ms_yX8_cut : Cond.static yX8_cut ∈ wsL_law := w_1060
theorem mt_yX8_does : zMth yX8_does RX8 cX8_does 5 (some .int) 2 := ⟨by decide +kernel, by decide, w_5, w_930⟩
theorem mv_yX8_does : Cond.instanceMethod yX8_does ∈ wsL_law ∧ Cond.selects RX8 yX8_does yX8_does ∈ wsL_law := ⟨w_928, w_929⟩
theorem mt_yX8_draws : zMth yX8_draws RX8 cX8_draws 2 (some .int) 1 := ⟨by decide +kernel, by decide, w_5, w_923⟩
theorem mv_yX8_draws : Cond.instanceMethod yX8_draws ∈ wsL_law ∧ Cond.selects RX8 yX8_draws yX8_draws ∈ wsL_law := ⟨w_921, w_922⟩
theorem mt_yX8_drift : zMth yX8_drift RX8 cX8_drift 5 (some .int) 1 := ⟨by decide +kernel, by decide, w_5, w_915⟩
theorem mv_yX8_drift : Cond.instanceMethod yX8_drift ∈ wsL_law ∧ Cond.selects RX8 yX8_drift yX8_drift ∈ wsL_law := ⟨w_913, w_914⟩
theorem mt_yX8_drop : zMth yX8_drop RX8 cX8_drop 2 (some .int) 1 := ⟨by decide +kernel, by decide, w_5, w_1050⟩
theorem mv_yX8_drop : Cond.instanceMethod yX8_drop ∈ wsL_law ∧ Cond.selects RX8 yX8_drop yX8_drop ∈ wsL_law := ⟨w_1048, w_1049⟩
theorem mt_yX8_figure : zMth yX8_figure RX8 cX8_figure 4 (some .int) 2 := ⟨by decide +kernel, by decide, w_5, w_880⟩
theorem mv_yX8_figure : Cond.instanceMethod yX8_figure ∈ wsL_law ∧ Cond.selects RX8 yX8_figure yX8_figure ∈ wsL_law := ⟨w_878, w_879⟩
theorem mt_yX8_film : zMth yX8_film RX8 cX8_film 6 (some .int) 3 := ⟨by decide +kernel, by decide, w_5, w_1029⟩
theorem mv_yX8_film : Cond.instanceMethod yX8_film ∈ wsL_law ∧ Cond.selects RX8 yX8_film yX8_film ∈ wsL_law := ⟨w_1027, w_1028⟩
theorem mt_yX8_firstOrder : zMth yX8_firstOrder RX8 cX8_firstOrder 2 none 0 := ⟨by decide +kernel, by decide, w_5, w_487⟩
theorem mv_yX8_firstOrder : Cond.instanceMethod yX8_firstOrder ∈ wsL_law ∧ Cond.selects RX8 yX8_firstOrder yX8_firstOrder ∈ wsL_law := ⟨w_485, w_486⟩
theorem mt_yX8_fit : zMth yX8_fit RX8 cX8_fit 4 (some .int) 1 := ⟨by decide +kernel, by decide, w_5, w_647⟩
theorem mv_yX8_fit : Cond.instanceMethod yX8_fit ∈ wsL_law ∧ Cond.selects RX8 yX8_fit yX8_fit ∈ wsL_law := ⟨w_645, w_646⟩
theorem mt_yX8_found : zMth yX8_found RX8 cX8_found 5 (some .int) 4 := ⟨by decide +kernel, by decide, w_5, w_1013⟩
theorem mv_yX8_found : Cond.instanceMethod yX8_found ∈ wsL_law ∧ Cond.selects RX8 yX8_found yX8_found ∈ wsL_law := ⟨w_1011, w_1012⟩
theorem mt_yX8_grows : zMth yX8_grows RX8 cX8_grows 11 none 0 := ⟨by decide +kernel, by decide, w_5, w_530⟩
theorem mv_yX8_grows : Cond.instanceMethod yX8_grows ∈ wsL_law ∧ Cond.selects RX8 yX8_grows yX8_grows ∈ wsL_law := ⟨w_528, w_529⟩
theorem mt_yX8_has : zMth yX8_has RX8 cX8_has 2 (some .boolean) 2 := ⟨by decide +kernel, by decide, w_5, w_277⟩
theorem ms_yX8_has : Cond.static yX8_has ∈ wsL_law := w_276
theorem mt_yX8_here : zMth yX8_here RX8 cX8_here 1 (some .int) 0 := ⟨by decide +kernel, by decide, w_5, w_864⟩
theorem mv_yX8_here : Cond.instanceMethod yX8_here ∈ wsL_law ∧ Cond.selects RX8 yX8_here yX8_here ∈ wsL_law := ⟨w_862, w_863⟩
theorem mt_yX8_holds : zMth yX8_holds RX8 cX8_holds 2 none 0 := ⟨by decide +kernel, by decide, w_5, w_170⟩
theorem mv_yX8_holds : Cond.instanceMethod yX8_holds ∈ wsL_law ∧ Cond.selects RX8 yX8_holds yX8_holds ∈ wsL_law := ⟨w_168, w_169⟩
theorem mt_yX8_image : zMth yX8_image RX8 cX8_image 2 (some .int) 0 := ⟨by decide +kernel, by decide, w_5, w_963⟩
theorem mv_yX8_image : Cond.instanceMethod yX8_image ∈ wsL_law ∧ Cond.selects RX8 yX8_image yX8_image ∈ wsL_law := ⟨w_961, w_962⟩
theorem mt_yX8_in : zMth yX8_in RX8 cX8_in 6 (some .boolean) 3 := ⟨by decide +kernel, by decide, w_5, w_181⟩
theorem ms_yX8_in : Cond.static yX8_in ∈ wsL_law := w_180
theorem mt_yX8_init : zMth yX8_init RX8 cX8_init 2 none 0 := ⟨by decide +kernel, by decide, w_5, w_106⟩
theorem mt_yX8_isAt : zMth yX8_isAt RX8 cX8_isAt 4 (some .boolean) 3 := ⟨by decide +kernel, by decide, w_5, w_872⟩
theorem mv_yX8_isAt : Cond.instanceMethod yX8_isAt ∈ wsL_law ∧ Cond.selects RX8 yX8_isAt yX8_isAt ∈ wsL_law := ⟨w_870, w_871⟩
theorem mt_yX8_isBook : zMth yX8_isBook RX8 cX8_isBook 2 (some .boolean) 1 := ⟨by decide +kernel, by decide, w_5, w_214⟩
theorem mv_yX8_isBook : Cond.instanceMethod yX8_isBook ∈ wsL_law ∧ Cond.selects RX8 yX8_isBook yX8_isBook ∈ wsL_law := ⟨w_212, w_213⟩
theorem mt_yX8_isHolding : zMth yX8_isHolding RX8 cX8_isHolding 4 (some .boolean) 0 := ⟨by decide +kernel, by decide, w_5, w_491⟩
theorem mv_yX8_isHolding : Cond.instanceMethod yX8_isHolding ∈ wsL_law ∧ Cond.selects RX8 yX8_isHolding yX8_isHolding ∈ wsL_law := ⟨w_489, w_490⟩
theorem mt_yX8_isMore : zMth yX8_isMore RX8 cX8_isMore 6 (some .boolean) 5 := ⟨by decide +kernel, by decide, w_5, w_876⟩
theorem mv_yX8_isMore : Cond.instanceMethod yX8_isMore ∈ wsL_law ∧ Cond.selects RX8 yX8_isMore yX8_isMore ∈ wsL_law := ⟨w_874, w_875⟩
theorem mt_yX8_isSet : zMth yX8_isSet RX8 cX8_isSet 1 (some .boolean) 1 := ⟨by decide +kernel, by decide, w_5, w_177⟩
theorem ms_yX8_isSet : Cond.static yX8_isSet ∈ wsL_law := w_176
theorem mt_yX8_isSheet : zMth yX8_isSheet RX8 cX8_isSheet 1 (some .boolean) 1 := ⟨by decide +kernel, by decide, w_5, w_1009⟩
theorem ms_yX8_isSheet : Cond.static yX8_isSheet ∈ wsL_law := w_1008
theorem mt_yX8_isWord : zMth yX8_isWord RX8 cX8_isWord 6 (some .boolean) 5 := ⟨by decide +kernel, by decide, w_5, w_868⟩
theorem mv_yX8_isWord : Cond.instanceMethod yX8_isWord ∈ wsL_law ∧ Cond.selects RX8 yX8_isWord yX8_isWord ∈ wsL_law := ⟨w_866, w_867⟩
theorem mt_yX8_item : zMth yX8_item RX8 cX8_item 7 (some .int) 4 := ⟨by decide +kernel, by decide, w_5, w_1058⟩
theorem mv_yX8_item : Cond.instanceMethod yX8_item ∈ wsL_law ∧ Cond.selects RX8 yX8_item yX8_item ∈ wsL_law := ⟨w_1056, w_1057⟩
theorem mt_yX8_kept : zMth yX8_kept RX8 cX8_kept 9 (some .int) 3 := ⟨by decide +kernel, by decide, w_5, w_675⟩
theorem mv_yX8_kept : Cond.instanceMethod yX8_kept ∈ wsL_law ∧ Cond.selects RX8 yX8_kept yX8_kept ∈ wsL_law := ⟨w_673, w_674⟩
theorem mt_yX8_lasts : zMth yX8_lasts RX8 cX8_lasts 4 (some .int) 1 := ⟨by decide +kernel, by decide, w_5, w_511⟩
theorem mv_yX8_lasts : Cond.instanceMethod yX8_lasts ∈ wsL_law ∧ Cond.selects RX8 yX8_lasts yX8_lasts ∈ wsL_law := ⟨w_509, w_510⟩
theorem mt_yX8_laysBest : zMth yX8_laysBest RX8 cX8_laysBest 4 none 0 := ⟨by decide +kernel, by decide, w_5, w_481⟩
theorem mv_yX8_laysBest : Cond.instanceMethod yX8_laysBest ∈ wsL_law ∧ Cond.selects RX8 yX8_laysBest yX8_laysBest ∈ wsL_law := ⟨w_479, w_480⟩
theorem mt_yX8_letter : zMth yX8_letter RX8 cX8_letter 2 (some .int) 1 := ⟨by decide +kernel, by decide, w_5, w_752⟩
theorem mv_yX8_letter : Cond.instanceMethod yX8_letter ∈ wsL_law ∧ Cond.selects RX8 yX8_letter yX8_letter ∈ wsL_law := ⟨w_750, w_751⟩
theorem mt_yX8_lose : zMth yX8_lose RX8 cX8_lose 2 (some .int) 1 := ⟨by decide +kernel, by decide, w_5, w_241⟩
theorem mv_yX8_lose : Cond.instanceMethod yX8_lose ∈ wsL_law ∧ Cond.selects RX8 yX8_lose yX8_lose ∈ wsL_law := ⟨w_239, w_240⟩
theorem mt_yX8_loses : zMth yX8_loses RX8 cX8_loses 5 (some .int) 1 := ⟨by decide +kernel, by decide, w_5, w_245⟩
theorem mv_yX8_loses : Cond.instanceMethod yX8_loses ∈ wsL_law ∧ Cond.selects RX8 yX8_loses yX8_loses ∈ wsL_law := ⟨w_243, w_244⟩
theorem mt_yX8_loss : zMth yX8_loss RX8 cX8_loss 3 (some .int) 0 := ⟨by decide +kernel, by decide, w_5, w_522⟩
theorem mv_yX8_loss : Cond.instanceMethod yX8_loss ∈ wsL_law ∧ Cond.selects RX8 yX8_loss yX8_loss ∈ wsL_law := ⟨w_520, w_521⟩
theorem mt_yX8_many : zMth yX8_many RX8 cX8_many 5 (some .int) 1 := ⟨by decide +kernel, by decide, w_5, w_638⟩
theorem mv_yX8_many : Cond.instanceMethod yX8_many ∈ wsL_law ∧ Cond.selects RX8 yX8_many yX8_many ∈ wsL_law := ⟨w_636, w_637⟩
theorem mt_yX8_move : zMth yX8_move RX8 cX8_move 3 (some .int) 2 := ⟨by decide +kernel, by decide, w_5, w_340⟩
theorem mv_yX8_move : Cond.instanceMethod yX8_move ∈ wsL_law ∧ Cond.selects RX8 yX8_move yX8_move ∈ wsL_law := ⟨w_338, w_339⟩
theorem mt_yX8_nextOrder : zMth yX8_nextOrder RX8 cX8_nextOrder 7 (some .boolean) 0 := ⟨by decide +kernel, by decide, w_5, w_526⟩
theorem mv_yX8_nextOrder : Cond.instanceMethod yX8_nextOrder ∈ wsL_law ∧ Cond.selects RX8 yX8_nextOrder yX8_nextOrder ∈ wsL_law := ⟨w_524, w_525⟩
theorem mt_yX8_notes : zMth yX8_notes RX8 cX8_notes 2 none 0 := ⟨by decide +kernel, by decide, w_5, w_189⟩
theorem mv_yX8_notes : Cond.instanceMethod yX8_notes ∈ wsL_law ∧ Cond.selects RX8 yX8_notes yX8_notes ∈ wsL_law := ⟨w_187, w_188⟩
theorem mt_yX8_number : zMth yX8_number RX8 cX8_number 3 (some .int) 0 := ⟨by decide +kernel, by decide, w_5, w_477⟩
theorem mv_yX8_number : Cond.instanceMethod yX8_number ∈ wsL_law ∧ Cond.selects RX8 yX8_number yX8_number ∈ wsL_law := ⟨w_475, w_476⟩
theorem mt_yX8_peak : zMth yX8_peak RX8 cX8_peak 3 (some .int) 0 := ⟨by decide +kernel, by decide, w_5, w_515⟩
theorem mv_yX8_peak : Cond.instanceMethod yX8_peak ∈ wsL_law ∧ Cond.selects RX8 yX8_peak yX8_peak ∈ wsL_law := ⟨w_513, w_514⟩
theorem mt_yX8_place : zMth yX8_place RX8 cX8_place 3 (some .int) 2 := ⟨by decide +kernel, by decide, w_5, w_557⟩
theorem mv_yX8_place : Cond.instanceMethod yX8_place ∈ wsL_law ∧ Cond.selects RX8 yX8_place yX8_place ∈ wsL_law := ⟨w_555, w_556⟩
theorem mt_yX8_placeOf : zMth yX8_placeOf RX8 cX8_placeOf 3 (some .int) 1 := ⟨by decide +kernel, by decide, w_5, w_249⟩
theorem mv_yX8_placeOf : Cond.instanceMethod yX8_placeOf ∈ wsL_law ∧ Cond.selects RX8 yX8_placeOf yX8_placeOf ∈ wsL_law := ⟨w_247, w_248⟩
theorem mt_yX8_prior : zMth yX8_prior RX8 cX8_prior 2 (some .int) 1 := ⟨by decide +kernel, by decide, w_5, w_293⟩
theorem mv_yX8_prior : Cond.instanceMethod yX8_prior ∈ wsL_law ∧ Cond.selects RX8 yX8_prior yX8_prior ∈ wsL_law := ⟨w_291, w_292⟩
theorem mt_yX8_puts : zMth yX8_puts RX8 cX8_puts 4 (some .int) 2 := ⟨by decide +kernel, by decide, w_5, w_274⟩
theorem mv_yX8_puts : Cond.instanceMethod yX8_puts ∈ wsL_law ∧ Cond.selects RX8 yX8_puts yX8_puts ∈ wsL_law := ⟨w_272, w_273⟩
theorem mt_yX8_read : zMth yX8_read RX8 cX8_read 3 (some .int) 0 := ⟨by decide +kernel, by decide, w_5, w_851⟩
theorem mv_yX8_read : Cond.instanceMethod yX8_read ∈ wsL_law ∧ Cond.selects RX8 yX8_read yX8_read ∈ wsL_law := ⟨w_849, w_850⟩
theorem mt_yX8_reads : zMth yX8_reads RX8 cX8_reads 4 none 2 := ⟨by decide +kernel, by decide, w_5, w_507⟩
theorem mv_yX8_reads : Cond.instanceMethod yX8_reads ∈ wsL_law ∧ Cond.selects RX8 yX8_reads yX8_reads ∈ wsL_law := ⟨w_505, w_506⟩
theorem mt_yX8_readsAll : zMth yX8_readsAll RX8 cX8_readsAll 4 (some .boolean) 0 := ⟨by decide +kernel, by decide, w_5, w_856⟩
theorem mv_yX8_readsAll : Cond.instanceMethod yX8_readsAll ∈ wsL_law ∧ Cond.selects RX8 yX8_readsAll yX8_readsAll ∈ wsL_law := ⟨w_854, w_855⟩
theorem mt_yX8_readsBook : zMth yX8_readsBook RX8 cX8_readsBook 2 (some .boolean) 0 := ⟨by decide +kernel, by decide, w_5, w_888⟩
theorem mv_yX8_readsBook : Cond.instanceMethod yX8_readsBook ∈ wsL_law ∧ Cond.selects RX8 yX8_readsBook yX8_readsBook ∈ wsL_law := ⟨w_886, w_887⟩
theorem mt_yX8_readsOrder : zMth yX8_readsOrder RX8 cX8_readsOrder 2 none 0 := ⟨by decide +kernel, by decide, w_5, w_495⟩
theorem mv_yX8_readsOrder : Cond.instanceMethod yX8_readsOrder ∈ wsL_law ∧ Cond.selects RX8 yX8_readsOrder yX8_readsOrder ∈ wsL_law := ⟨w_493, w_494⟩
theorem mt_yX8_readsPair : zMth yX8_readsPair RX8 cX8_readsPair 3 (some .boolean) 0 := ⟨by decide +kernel, by decide, w_5, w_894⟩
theorem mv_yX8_readsPair : Cond.instanceMethod yX8_readsPair ∈ wsL_law ∧ Cond.selects RX8 yX8_readsPair yX8_readsPair ∈ wsL_law := ⟨w_892, w_893⟩
theorem mt_yX8_restore : zMth yX8_restore RX8 cX8_restore 2 (some .int) 0 := ⟨by decide +kernel, by decide, w_5, w_971⟩
theorem mv_yX8_restore : Cond.instanceMethod yX8_restore ∈ wsL_law ∧ Cond.selects RX8 yX8_restore yX8_restore ∈ wsL_law := ⟨w_969, w_970⟩
theorem mt_yX8_rule : zMth yX8_rule RX8 cX8_rule 1 (some .int) 0 := ⟨by decide +kernel, by decide, w_5, w_860⟩
theorem mv_yX8_rule : Cond.instanceMethod yX8_rule ∈ wsL_law ∧ Cond.selects RX8 yX8_rule yX8_rule ∈ wsL_law := ⟨w_858, w_859⟩
theorem mt_yX8_seed : zMth yX8_seed RX8 cX8_seed 3 (some .int) 1 := ⟨by decide +kernel, by decide, w_5, w_950⟩
theorem mv_yX8_seed : Cond.instanceMethod yX8_seed ∈ wsL_law ∧ Cond.selects RX8 yX8_seed yX8_seed ∈ wsL_law := ⟨w_948, w_949⟩
theorem mt_yX8_seen : zMth yX8_seen RX8 cX8_seen 10 (some .int) 3 := ⟨by decide +kernel, by decide, w_5, w_1005⟩
theorem mv_yX8_seen : Cond.instanceMethod yX8_seen ∈ wsL_law ∧ Cond.selects RX8 yX8_seen yX8_seen ∈ wsL_law := ⟨w_1003, w_1004⟩
theorem mt_yX8_sets : zMth yX8_sets RX8 cX8_sets 3 (some .int) 1 := ⟨by decide +kernel, by decide, w_5, w_297⟩
theorem mv_yX8_sets : Cond.instanceMethod yX8_sets ∈ wsL_law ∧ Cond.selects RX8 yX8_sets yX8_sets ∈ wsL_law := ⟨w_295, w_296⟩
theorem mt_yX8_settle : zMth yX8_settle RX8 cX8_settle 2 (some .int) 1 := ⟨by decide +kernel, by decide, w_5, w_464⟩
theorem mv_yX8_settle : Cond.instanceMethod yX8_settle ∈ wsL_law ∧ Cond.selects RX8 yX8_settle yX8_settle ∈ wsL_law := ⟨w_462, w_463⟩
theorem mt_yX8_settles : zMth yX8_settles RX8 cX8_settles 6 (some .int) 1 := ⟨by decide +kernel, by decide, w_5, w_468⟩
theorem mv_yX8_settles : Cond.instanceMethod yX8_settles ∈ wsL_law ∧ Cond.selects RX8 yX8_settles yX8_settles ∈ wsL_law := ⟨w_466, w_467⟩
theorem mt_yX8_sheet : zMth yX8_sheet RX8 cX8_sheet 5 (some .int) 3 := ⟨by decide +kernel, by decide, w_5, w_1041⟩
theorem mv_yX8_sheet : Cond.instanceMethod yX8_sheet ∈ wsL_law ∧ Cond.selects RX8 yX8_sheet yX8_sheet ∈ wsL_law := ⟨w_1039, w_1040⟩
theorem mt_yX8_shifts : zMth yX8_shifts RX8 cX8_shifts 6 (some .int) 2 := ⟨by decide +kernel, by decide, w_5, w_344⟩
theorem mv_yX8_shifts : Cond.instanceMethod yX8_shifts ∈ wsL_law ∧ Cond.selects RX8 yX8_shifts yX8_shifts ∈ wsL_law := ⟨w_342, w_343⟩
theorem mt_yX8_sizeOf : zMth yX8_sizeOf RX8 cX8_sizeOf 3 (some .int) 1 := ⟨by decide +kernel, by decide, w_5, w_518⟩
theorem ms_yX8_sizeOf : Cond.static yX8_sizeOf ∈ wsL_law := w_517
theorem mt_yX8_takes : zMth yX8_takes RX8 cX8_takes 3 (some .boolean) 1 := ⟨by decide +kernel, by decide, w_5, w_884⟩
theorem mv_yX8_takes : Cond.instanceMethod yX8_takes ∈ wsL_law ∧ Cond.selects RX8 yX8_takes yX8_takes ∈ wsL_law := ⟨w_882, w_883⟩
theorem mt_yX8_takesOrder : zMth yX8_takesOrder RX8 cX8_takesOrder 2 none 0 := ⟨by decide +kernel, by decide, w_5, w_473⟩
theorem mv_yX8_takesOrder : Cond.instanceMethod yX8_takesOrder ∈ wsL_law ∧ Cond.selects RX8 yX8_takesOrder yX8_takesOrder ∈ wsL_law := ⟨w_471, w_472⟩
theorem mt_yX8_tell : zMth yX8_tell RX8 cX8_tell 3 (some .int) 2 := ⟨by decide +kernel, by decide, w_5, w_321⟩
theorem mv_yX8_tell : Cond.instanceMethod yX8_tell ∈ wsL_law ∧ Cond.selects RX8 yX8_tell yX8_tell ∈ wsL_law := ⟨w_319, w_320⟩
theorem mt_yX8_tells : zMth yX8_tells RX8 cX8_tells 5 (some .int) 2 := ⟨by decide +kernel, by decide, w_5, w_325⟩
theorem mv_yX8_tells : Cond.instanceMethod yX8_tells ∈ wsL_law ∧ Cond.selects RX8 yX8_tells yX8_tells ∈ wsL_law := ⟨w_323, w_324⟩
theorem mt_yX8_told : zMth yX8_told RX8 cX8_told 3 (some .int) 2 := ⟨by decide +kernel, by decide, w_5, w_591⟩
theorem mv_yX8_told : Cond.instanceMethod yX8_told ∈ wsL_law ∧ Cond.selects RX8 yX8_told yX8_told ∈ wsL_law := ⟨w_589, w_590⟩
theorem mt_yX8_type : zMth yX8_type RX8 cX8_type 2 (some .int) 1 := ⟨by decide +kernel, by decide, w_5, w_774⟩
theorem mv_yX8_type : Cond.instanceMethod yX8_type ∈ wsL_law ∧ Cond.selects RX8 yX8_type yX8_type ∈ wsL_law := ⟨w_772, w_773⟩
theorem mt_yX8_undo : zMth yX8_undo RX8 cX8_undo 2 (some .int) 0 := ⟨by decide +kernel, by decide, w_5, w_942⟩
theorem mv_yX8_undo : Cond.instanceMethod yX8_undo ∈ wsL_law ∧ Cond.selects RX8 yX8_undo yX8_undo ∈ wsL_law := ⟨w_940, w_941⟩
theorem mt_yX8_without : zMth yX8_without RX8 cX8_without 3 (some .int) 2 := ⟨by decide +kernel, by decide, w_5, w_252⟩
theorem ms_yX8_without : Cond.static yX8_without ∈ wsL_law := w_251
theorem mt_yX8_word : zMth yX8_word RX8 cX8_word 8 (some .int) 2 := ⟨by decide +kernel, by decide, w_5, w_579⟩
theorem mv_yX8_word : Cond.instanceMethod yX8_word ∈ wsL_law ∧ Cond.selects RX8 yX8_word yX8_word ∈ wsL_law := ⟨w_577, w_578⟩
theorem mt_yX8_words : zMth yX8_words RX8 cX8_words 3 (some .int) 2 := ⟨by decide +kernel, by decide, w_5, w_206⟩
theorem mv_yX8_words : Cond.instanceMethod yX8_words ∈ wsL_law ∧ Cond.selects RX8 yX8_words yX8_words ∈ wsL_law := ⟨w_204, w_205⟩
theorem mt_yX8_wordsAt : zMth yX8_wordsAt RX8 cX8_wordsAt 2 (some .int) 1 := ⟨by decide +kernel, by decide, w_5, w_503⟩
theorem mv_yX8_wordsAt : Cond.instanceMethod yX8_wordsAt ∈ wsL_law ∧ Cond.selects RX8 yX8_wordsAt yX8_wordsAt ∈ wsL_law := ⟨w_501, w_502⟩
theorem mt_yX8_writes : zMth yX8_writes RX8 cX8_writes 2 none 1 := ⟨by decide +kernel, by decide, w_5, w_761⟩
theorem mv_yX8_writes : Cond.instanceMethod yX8_writes ∈ wsL_law ∧ Cond.selects RX8 yX8_writes yX8_writes ∈ wsL_law := ⟨w_759, w_760⟩
theorem mt_yX8_writesNote : zMth yX8_writesNote RX8 cX8_writesNote 2 none 0 := ⟨by decide +kernel, by decide, w_5, w_757⟩
theorem mv_yX8_writesNote : Cond.instanceMethod yX8_writesNote ∈ wsL_law ∧ Cond.selects RX8 yX8_writesNote yX8_writesNote ∈ wsL_law := ⟨w_755, w_756⟩
theorem mt_yX8_writesNumber : zMth yX8_writesNumber RX8 cX8_writesNumber 2 none 1 := ⟨by decide +kernel, by decide, w_5, w_765⟩
theorem mv_yX8_writesNumber : Cond.instanceMethod yX8_writesNumber ∈ wsL_law ∧ Cond.selects RX8 yX8_writesNumber yX8_writesNumber ∈ wsL_law := ⟨w_763, w_764⟩
